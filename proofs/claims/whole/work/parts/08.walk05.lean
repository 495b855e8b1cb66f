abbrev rm_X6_atDepth : Room := { frames := 0, cells := 0, slots := 0, locals := 0 }
set_option maxHeartbeats 1000000 in
set_option maxRecDepth 20000 in
theorem o_X6_atDepth_h4 {E : Ex} {g : Gx} (C : Ctx E RX6 cX6_atDepth rm_X6_atDepth 4 g) {rr : Int32} {wr : Wd} (hR : Rets E g (some .int) (some (.int rr)) wr) {kh4 : (Int32 → Int32 → Int32 → Wd → Option (Int32 × Wd))} (Hh4 : ∀ (x1 : Int32) (x2 : Int32) (x3 : Int32) (w : Wd), kh4 x1 x2 x3 w = some (rr, wr) → Xx E 4 g 4 [(0, .ref (ad g 92)), (1, .int x1), (2, .int x2), (3, .int x3)] [] w) (x1 : Int32) (x2 : Int32) (x3 : Int32) (w : Wd) (hM : f_X6_atDepth_h4 kh4 x1 x2 x3 w = some (rr, wr)) : Xx E 4 g 4 [(0, .ref (ad g 92)), (1, .int x1), (2, .int x2), (3, .int x3)] [] w := by
  unfold f_X6_atDepth_h4 at hM
  refine x_iload_n C dX6_atDepth_4 3 rfl rfl ?_
  refine x_aload_n C dX6_atDepth_5 0 rfl rfl ?_
  refine xg_6_0 C kd_92 gw_714 dX6_atDepth_6 ?_
  refine x_icmp_ge (tgt := 40) C dX6_atDepth_9 (by decide) (fun c_1 => ?_) (fun c_1 => ?_)
  · have hM := ip c_1 hM
    refine x_iload_n C dX6_atDepth_40 2 rfl rfl ?_
    obtain ⟨rfl, rfl⟩ := rt hM
    exact x_iret C hR rfl dX6_atDepth_41
  · have hM := iq c_1 hM
    refine x_iload_n C dX6_atDepth_12 2 rfl rfl ?_
    refine x_aload_n C dX6_atDepth_13 0 rfl rfl ?_
    refine xg_6_28 C kd_92 gw_742 dX6_atDepth_14 ?_
    refine x_iconst (v := 2) C dX6_atDepth_17 (by decide) ?_
    refine x_iload_n C dX6_atDepth_18 3 rfl rfl ?_
    refine x_iadd C dX6_atDepth_19 ?_
    obtain ⟨q_2, hM⟩ := gd hM
    refine x_iald C kd_103 ln_103 q_2 rfl dX6_atDepth_20 ?_
    refine x_iload_n C dX6_atDepth_21 1 rfl rfl ?_
    refine x_icmp_ne (tgt := 31) C dX6_atDepth_22 (by decide) (fun c_3 => ?_) (fun c_3 => ?_)
    · have hM := iq c_3 hM
      refine x_iconst (v := 0) C dX6_atDepth_31 (by decide) ?_
      refine x_ior C dX6_atDepth_32 ?_
      obtain ⟨x2_4, e_5, hM⟩ := bd hM
      refine x_top e_5 ?_
      refine x_istore_n (L' := [(2, .int x2_4), (0, .ref (ad g 92)), (1, .int x1), (3, .int x3)]) C dX6_atDepth_33 rfl (by decide) rfl ?_
      obtain ⟨x3_6, e_7, hM⟩ := bd hM
      refine x_iinc (L' := [(3, .int x3_6), (2, .int x2_4), (0, .ref (ad g 92)), (1, .int x1)]) C dX6_atDepth_34 3 rfl (v := x3_6) (by rw [e_7]; first | rfl | decide) (by decide) rfl ?_
      refine x_goto (tgt := 4) C dX6_atDepth_37 (by decide) ?_
      refine x_sub (L' := [(0, .ref (ad g 92)), (1, .int x1), (2, .int x2_4), (3, .int x3_6)]) [2, 3, 1, 0] rfl ?_
      exact Hh4 x1 x2_4 x3_6 w hM
    · have hM := ip c_3 hM
      refine x_iconst (v := 1) C dX6_atDepth_25 (by decide) ?_
      refine x_iload_n C dX6_atDepth_26 3 rfl rfl ?_
      refine x_ishl C dX6_atDepth_27 ?_
      refine x_goto (tgt := 32) C dX6_atDepth_28 (by decide) ?_
      refine x_ior C dX6_atDepth_32 ?_
      obtain ⟨x2_8, e_9, hM⟩ := bd hM
      refine x_top e_9 ?_
      refine x_istore_n (L' := [(2, .int x2_8), (0, .ref (ad g 92)), (1, .int x1), (3, .int x3)]) C dX6_atDepth_33 rfl (by decide) rfl ?_
      obtain ⟨x3_10, e_11, hM⟩ := bd hM
      refine x_iinc (L' := [(3, .int x3_10), (2, .int x2_8), (0, .ref (ad g 92)), (1, .int x1)]) C dX6_atDepth_34 3 rfl (v := x3_10) (by rw [e_11]; first | rfl | decide) (by decide) rfl ?_
      refine x_goto (tgt := 4) C dX6_atDepth_37 (by decide) ?_
      refine x_sub (L' := [(0, .ref (ad g 92)), (1, .int x1), (2, .int x2_8), (3, .int x3_10)]) [2, 3, 1, 0] rfl ?_
      exact Hh4 x1 x2_8 x3_10 w hM
theorem o_X6_atDepth_l4 {E : Ex} {g : Gx} (C : Ctx E RX6 cX6_atDepth rm_X6_atDepth 4 g) {rr : Int32} {wr : Wd} (hR : Rets E g (some .int) (some (.int rr)) wr) : ∀ (n : Nat) (x1 : Int32) (x2 : Int32) (x3 : Int32) (w : Wd), f_X6_atDepth_l4 n x1 x2 x3 w = some (rr, wr) → Xx E 4 g 4 [(0, .ref (ad g 92)), (1, .int x1), (2, .int x2), (3, .int x3)] [] w := by
  intro n
  induction n with
  | zero =>
    intro x1 x2 x3 w hM
    rw [f_X6_atDepth_l4] at hM
    cases hM
  | succ n ih =>
    intro x1 x2 x3 w hM
    rw [f_X6_atDepth_l4] at hM
    exact o_X6_atDepth_h4 C hR ih x1 x2 x3 w hM
set_option maxHeartbeats 1000000 in
set_option maxRecDepth 20000 in
theorem o_X6_atDepth_b0 {E : Ex} {g : Gx} (C : Ctx E RX6 cX6_atDepth rm_X6_atDepth 4 g) {rr : Int32} {wr : Wd} (hR : Rets E g (some .int) (some (.int rr)) wr) (x1 : Int32) (w : Wd) (hM : f_X6_atDepth_b0 x1 w = some (rr, wr)) : Xx E 4 g 0 [(0, .ref (ad g 92)), (1, .int x1)] [] w := by
  unfold f_X6_atDepth_b0 at hM
  refine x_iconst (v := 0) C dX6_atDepth_0 (by decide) ?_
  obtain ⟨x2_1, e_2, hM⟩ := bd hM
  refine x_top e_2 ?_
  refine x_istore_n (L' := [(2, .int x2_1), (0, .ref (ad g 92)), (1, .int x1)]) C dX6_atDepth_1 rfl (by decide) rfl ?_
  refine x_iconst (v := 0) C dX6_atDepth_2 (by decide) ?_
  obtain ⟨x3_3, e_4, hM⟩ := bd hM
  refine x_top e_4 ?_
  refine x_istore_n (L' := [(3, .int x3_3), (2, .int x2_1), (0, .ref (ad g 92)), (1, .int x1)]) C dX6_atDepth_3 rfl (by decide) rfl ?_
  refine x_sub (L' := [(0, .ref (ad g 92)), (1, .int x1), (2, .int x2_1), (3, .int x3_3)]) [2, 3, 1, 0] rfl ?_
  exact o_X6_atDepth_l4 C hR 300 x1 x2_1 x3_3 w hM
theorem c_X6_atDepth (l : Launch) (g : Gx) (x1 : Int32) (w : Wd) {rr : Int32} {wr : Wd} (hM : f_X6_atDepth x1 w = some (rr, wr)) : MetM l yX6_atDepth cX6_atDepth 4 (some .int) rm_X6_atDepth g [.ref (ad g 92), .int x1] w (some (.int rr)) wr := by
  refine met_of (by decide) (Nat.le_of_ble_eq_true rfl) (fun E hl C hR => ?_)
  refine x_sub (L' := [(0, .ref (ad g 92)), (1, .int x1)]) [0, 1] rfl ?_
  exact o_X6_atDepth_b0 C hR x1 w hM
abbrev rm_X6_dry : Room := { frames := 2, cells := 0, slots := 0, locals := 44 }
set_option maxHeartbeats 1000000 in
set_option maxRecDepth 20000 in
theorem o_X6_dry_b0 {E : Ex} {g : Gx} (C : Ctx E RX6 cX6_dry rm_X6_dry 1 g) {rr : Int32} {wr : Wd} (hR : Rets E g (some .int) (some (.int rr)) wr) (w : Wd) (hM : f_X6_dry_b0 w = some (rr, wr)) : Xx E 1 g 0 [(0, .ref (ad g 92))] [] w := by
  unfold f_X6_dry_b0 at hM
  refine x_aload_n C dX6_dry_0 0 rfl rfl ?_
  obtain ⟨r_2, w_1, h_3, hM⟩ := cl hM
  refine x_callVv (As := []) C (c_X6_asItIs E.l g  w h_3) k_X6_asItIs kd_92 (by decide) rfl rfl gw_867 rfl rfl ⟨Nat.le_of_ble_eq_true rfl, Nat.le_of_ble_eq_true rfl⟩ rfl rfl (Nat.le_of_ble_eq_true rfl) dX6_dry_1 ?_
  refine x_aload_n C dX6_dry_4 0 rfl rfl ?_
  refine x_bipush (v := -9) C dX6_dry_5 (by decide) ?_
  obtain ⟨r_5, w_4, h_6, hM⟩ := cl hM
  refine x_callV (As := [.int (-9 : Int32)]) C (c_X6_atDepth E.l g (-9 : Int32) w_1 h_6) k_X6_atDepth kd_92 (by decide) rfl rfl gw_874 rfl rfl ⟨Nat.le_of_ble_eq_true rfl, Nat.le_of_ble_eq_true rfl⟩ rfl rfl (Nat.le_of_ble_eq_true rfl) dX6_dry_7 ?_
  obtain ⟨rfl, rfl⟩ := rt hM
  exact x_iret C hR rfl dX6_dry_10
theorem c_X6_dry (l : Launch) (g : Gx) (w : Wd) {rr : Int32} {wr : Wd} (hM : f_X6_dry w = some (rr, wr)) : MetM l yX6_dry cX6_dry 1 (some .int) rm_X6_dry g [.ref (ad g 92)] w (some (.int rr)) wr := by
  refine met_of (by decide) (Nat.le_of_ble_eq_true rfl) (fun E hl C hR => ?_)
  refine x_sub (L' := [(0, .ref (ad g 92))]) [0] rfl ?_
  exact o_X6_dry_b0 C hR w hM
abbrev rm_X6_dumpling : Room := { frames := 2, cells := 0, slots := 0, locals := 43 }
set_option maxHeartbeats 1000000 in
set_option maxRecDepth 20000 in
theorem o_X6_dumpling_b0 {E : Ex} {g : Gx} (C : Ctx E RX6 cX6_dumpling rm_X6_dumpling 3 g) {rr : Int32} {wr : Wd} (hR : Rets E g (some .int) (some (.int rr)) wr) (x1 : Int32) (x2 : Int32) (w : Wd) (hM : f_X6_dumpling_b0 x1 x2 w = some (rr, wr)) : Xx E 3 g 0 [(0, .ref (ad g 92)), (1, .int x1), (2, .int x2)] [] w := by
  unfold f_X6_dumpling_b0 at hM
  refine x_aload_n C dX6_dumpling_0 0 rfl rfl ?_
  refine x_iload_n C dX6_dumpling_1 1 rfl rfl ?_
  obtain ⟨r_2, w_1, h_3, hM⟩ := cl hM
  refine x_callV (As := [.int x1]) C (c_X6_isOne E.l g x1 w h_3) k_X6_isOne kd_92 (by decide) rfl rfl gw_859 rfl rfl ⟨Nat.le_of_ble_eq_true rfl, Nat.le_of_ble_eq_true rfl⟩ rfl rfl (Nat.le_of_ble_eq_true rfl) dX6_dumpling_2 ?_
  refine x_if_ne (tgt := 10) C dX6_dumpling_5 (by decide) (fun c_4 => ?_) (fun c_4 => ?_)
  · have hM := iq c_4 hM
    refine x_iload_n C dX6_dumpling_10 2 rfl rfl ?_
    by_cases c_6 : x2 = 0
    · have hM := ip c_6 hM
      refine x_tableIn (off := 41) (tgt := 52) C dX6_dumpling_11 (by rw [c_6]; decide) (by rw [c_6]; decide) (by rw [c_6]; rfl) (by decide) ?_
      refine x_aload_n C dX6_dumpling_52 0 rfl rfl ?_
      refine xg_6_1 C kd_92 gw_715 dX6_dumpling_53 ?_
      refine x_iload_n C dX6_dumpling_56 1 rfl rfl ?_
      obtain ⟨q_5, hM⟩ := gd hM
      refine x_iald C kd_93 ln_93 q_5 rfl dX6_dumpling_57 ?_
      obtain ⟨rfl, rfl⟩ := rt hM
      exact x_iret C hR rfl dX6_dumpling_58
    have hM := iq c_6 hM
    by_cases c_8 : x2 = 1
    · have hM := ip c_8 hM
      refine x_tableIn (off := 48) (tgt := 59) C dX6_dumpling_11 (by rw [c_8]; decide) (by rw [c_8]; decide) (by rw [c_8]; rfl) (by decide) ?_
      refine x_aload_n C dX6_dumpling_59 0 rfl rfl ?_
      refine xg_6_7 C kd_92 gw_721 dX6_dumpling_60 ?_
      refine x_bipush (v := 8) C dX6_dumpling_63 (by decide) ?_
      refine x_iload_n C dX6_dumpling_65 1 rfl rfl ?_
      refine x_iadd C dX6_dumpling_66 ?_
      obtain ⟨q_7, hM⟩ := gd hM
      refine x_iald C kd_96 ln_96 q_7 rfl dX6_dumpling_67 ?_
      obtain ⟨rfl, rfl⟩ := rt hM
      exact x_iret C hR rfl dX6_dumpling_68
    have hM := iq c_8 hM
    by_cases c_10 : x2 = 2
    · have hM := ip c_10 hM
      refine x_tableIn (off := 58) (tgt := 69) C dX6_dumpling_11 (by rw [c_10]; decide) (by rw [c_10]; decide) (by rw [c_10]; rfl) (by decide) ?_
      refine x_aload_n C dX6_dumpling_69 0 rfl rfl ?_
      refine xg_6_2 C kd_92 gw_716 dX6_dumpling_70 ?_
      refine x_iload_n C dX6_dumpling_73 1 rfl rfl ?_
      obtain ⟨q_9, hM⟩ := gd hM
      refine x_iald C kd_94 ln_94 q_9 rfl dX6_dumpling_74 ?_
      obtain ⟨rfl, rfl⟩ := rt hM
      exact x_iret C hR rfl dX6_dumpling_75
    have hM := iq c_10 hM
    by_cases c_12 : x2 = 3
    · have hM := ip c_12 hM
      refine x_tableIn (off := 65) (tgt := 76) C dX6_dumpling_11 (by rw [c_12]; decide) (by rw [c_12]; decide) (by rw [c_12]; rfl) (by decide) ?_
      refine x_aload_n C dX6_dumpling_76 0 rfl rfl ?_
      refine xg_6_3 C kd_92 gw_717 dX6_dumpling_77 ?_
      refine x_iload_n C dX6_dumpling_80 1 rfl rfl ?_
      obtain ⟨q_11, hM⟩ := gd hM
      refine x_iald C kd_95 ln_95 q_11 rfl dX6_dumpling_81 ?_
      obtain ⟨rfl, rfl⟩ := rt hM
      exact x_iret C hR rfl dX6_dumpling_82
    have hM := iq c_12 hM
    by_cases c_14 : x2 = 4
    · have hM := ip c_14 hM
      refine x_tableIn (off := 72) (tgt := 83) C dX6_dumpling_11 (by rw [c_14]; decide) (by rw [c_14]; decide) (by rw [c_14]; rfl) (by decide) ?_
      refine x_aload_n C dX6_dumpling_83 0 rfl rfl ?_
      refine xg_6_7 C kd_92 gw_721 dX6_dumpling_84 ?_
      refine x_iconst (v := 2) C dX6_dumpling_87 (by decide) ?_
      refine x_iload_n C dX6_dumpling_88 1 rfl rfl ?_
      refine x_iadd C dX6_dumpling_89 ?_
      obtain ⟨q_13, hM⟩ := gd hM
      refine x_iald C kd_96 ln_96 q_13 rfl dX6_dumpling_90 ?_
      obtain ⟨rfl, rfl⟩ := rt hM
      exact x_iret C hR rfl dX6_dumpling_91
    have hM := iq c_14 hM
    by_cases c_16 : x2 = 5
    · have hM := ip c_16 hM
      refine x_tableIn (off := 81) (tgt := 92) C dX6_dumpling_11 (by rw [c_16]; decide) (by rw [c_16]; decide) (by rw [c_16]; rfl) (by decide) ?_
      refine x_aload_n C dX6_dumpling_92 0 rfl rfl ?_
      refine xg_6_7 C kd_92 gw_721 dX6_dumpling_93 ?_
      refine x_bipush (v := 14) C dX6_dumpling_96 (by decide) ?_
      refine x_iload_n C dX6_dumpling_98 1 rfl rfl ?_
      refine x_iadd C dX6_dumpling_99 ?_
      obtain ⟨q_15, hM⟩ := gd hM
      refine x_iald C kd_96 ln_96 q_15 rfl dX6_dumpling_100 ?_
      obtain ⟨rfl, rfl⟩ := rt hM
      exact x_iret C hR rfl dX6_dumpling_101
    have hM := iq c_16 hM
    by_cases c_18 : x2 = 6
    · have hM := ip c_18 hM
      refine x_tableIn (off := 91) (tgt := 102) C dX6_dumpling_11 (by rw [c_18]; decide) (by rw [c_18]; decide) (by rw [c_18]; rfl) (by decide) ?_
      refine x_aload_n C dX6_dumpling_102 0 rfl rfl ?_
      refine xg_6_7 C kd_92 gw_721 dX6_dumpling_103 ?_
      refine x_bipush (v := 20) C dX6_dumpling_106 (by decide) ?_
      refine x_iload_n C dX6_dumpling_108 1 rfl rfl ?_
      refine x_iadd C dX6_dumpling_109 ?_
      obtain ⟨q_17, hM⟩ := gd hM
      refine x_iald C kd_96 ln_96 q_17 rfl dX6_dumpling_110 ?_
      obtain ⟨rfl, rfl⟩ := rt hM
      exact x_iret C hR rfl dX6_dumpling_111
    have hM := iq c_18 hM
    have tc_6 := lv_neT (a := 0) c_6 (by decide)
    have tc_8 := lv_neT (a := 1) c_8 (by decide)
    have tc_10 := lv_neT (a := 2) c_10 (by decide)
    have tc_12 := lv_neT (a := 3) c_12 (by decide)
    have tc_14 := lv_neT (a := 4) c_14 (by decide)
    have tc_16 := lv_neT (a := 5) c_16 (by decide)
    have tc_18 := lv_neT (a := 6) c_18 (by decide)
    refine x_tableOut (tgt := 112) C dX6_dumpling_11 (by omega) (by decide) ?_
    refine x_iconst (v := -1) C dX6_dumpling_112 (by decide) ?_
    obtain ⟨rfl, rfl⟩ := rt hM
    exact x_iret C hR rfl dX6_dumpling_113
  · have hM := ip c_4 hM
    refine x_iconst (v := -1) C dX6_dumpling_8 (by decide) ?_
    obtain ⟨rfl, rfl⟩ := rt hM
    exact x_iret C hR rfl dX6_dumpling_9
theorem c_X6_dumpling (l : Launch) (g : Gx) (x1 : Int32) (x2 : Int32) (w : Wd) {rr : Int32} {wr : Wd} (hM : f_X6_dumpling x1 x2 w = some (rr, wr)) : MetM l yX6_dumpling cX6_dumpling 3 (some .int) rm_X6_dumpling g [.ref (ad g 92), .int x1, .int x2] w (some (.int rr)) wr := by
  refine met_of (by decide) (Nat.le_of_ble_eq_true rfl) (fun E hl C hR => ?_)
  refine x_sub (L' := [(0, .ref (ad g 92)), (1, .int x1), (2, .int x2)]) [0, 1, 2] rfl ?_
  exact o_X6_dumpling_b0 C hR x1 x2 w hM
abbrev rm_X6_risenMany : Room := { frames := 0, cells := 0, slots := 0, locals := 0 }
set_option maxHeartbeats 1000000 in
set_option maxRecDepth 20000 in
theorem o_X6_risenMany_h4 {E : Ex} {g : Gx} (C : Ctx E RX6 cX6_risenMany rm_X6_risenMany 3 g) {rr : Int32} {wr : Wd} (hR : Rets E g (some .int) (some (.int rr)) wr) {kh4 : (Int32 → Int32 → Wd → Option (Int32 × Wd))} (Hh4 : ∀ (x1 : Int32) (x2 : Int32) (w : Wd), kh4 x1 x2 w = some (rr, wr) → Xx E 3 g 4 [(0, .ref (ad g 92)), (1, .int x1), (2, .int x2)] [] w) (x1 : Int32) (x2 : Int32) (w : Wd) (hM : f_X6_risenMany_h4 kh4 x1 x2 w = some (rr, wr)) : Xx E 3 g 4 [(0, .ref (ad g 92)), (1, .int x1), (2, .int x2)] [] w := by
  unfold f_X6_risenMany_h4 at hM
  refine x_iload_n C dX6_risenMany_4 2 rfl rfl ?_
  refine x_aload_n C dX6_risenMany_5 0 rfl rfl ?_
  refine xg_6_0 C kd_92 gw_714 dX6_risenMany_6 ?_
  refine x_icmp_ge (tgt := 40) C dX6_risenMany_9 (by decide) (fun c_1 => ?_) (fun c_1 => ?_)
  · have hM := ip c_1 hM
    refine x_iload_n C dX6_risenMany_40 1 rfl rfl ?_
    obtain ⟨rfl, rfl⟩ := rt hM
    exact x_iret C hR rfl dX6_risenMany_41
  · have hM := iq c_1 hM
    refine x_iload_n C dX6_risenMany_12 1 rfl rfl ?_
    refine x_aload_n C dX6_risenMany_13 0 rfl rfl ?_
    refine xg_6_7 C kd_92 gw_721 dX6_risenMany_14 ?_
    refine x_bipush (v := 20) C dX6_risenMany_17 (by decide) ?_
    refine x_iload_n C dX6_risenMany_19 2 rfl rfl ?_
    refine x_iadd C dX6_risenMany_20 ?_
    obtain ⟨q_2, hM⟩ := gd hM
    refine x_iald C kd_96 ln_96 q_2 rfl dX6_risenMany_21 ?_
    refine x_bipush (v := -9) C dX6_risenMany_22 (by decide) ?_
    refine x_icmp_ne (tgt := 31) C dX6_risenMany_24 (by decide) (fun c_3 => ?_) (fun c_3 => ?_)
    · have hM := iq c_3 hM
      refine x_iconst (v := 1) C dX6_risenMany_31 (by decide) ?_
      refine x_iadd C dX6_risenMany_32 ?_
      obtain ⟨x1_4, e_5, hM⟩ := bd hM
      refine x_top e_5 ?_
      refine x_istore_n (L' := [(1, .int x1_4), (0, .ref (ad g 92)), (2, .int x2)]) C dX6_risenMany_33 rfl (by decide) rfl ?_
      obtain ⟨x2_6, e_7, hM⟩ := bd hM
      refine x_iinc (L' := [(2, .int x2_6), (1, .int x1_4), (0, .ref (ad g 92))]) C dX6_risenMany_34 2 rfl (v := x2_6) (by rw [e_7]; first | rfl | decide) (by decide) rfl ?_
      refine x_goto (tgt := 4) C dX6_risenMany_37 (by decide) ?_
      refine x_sub (L' := [(0, .ref (ad g 92)), (1, .int x1_4), (2, .int x2_6)]) [2, 1, 0] rfl ?_
      exact Hh4 x1_4 x2_6 w hM
    · have hM := ip c_3 hM
      refine x_iconst (v := 0) C dX6_risenMany_27 (by decide) ?_
      refine x_goto (tgt := 32) C dX6_risenMany_28 (by decide) ?_
      refine x_iadd C dX6_risenMany_32 ?_
      obtain ⟨x1_8, e_9, hM⟩ := bd hM
      refine x_top e_9 ?_
      refine x_istore_n (L' := [(1, .int x1_8), (0, .ref (ad g 92)), (2, .int x2)]) C dX6_risenMany_33 rfl (by decide) rfl ?_
      obtain ⟨x2_10, e_11, hM⟩ := bd hM
      refine x_iinc (L' := [(2, .int x2_10), (1, .int x1_8), (0, .ref (ad g 92))]) C dX6_risenMany_34 2 rfl (v := x2_10) (by rw [e_11]; first | rfl | decide) (by decide) rfl ?_
      refine x_goto (tgt := 4) C dX6_risenMany_37 (by decide) ?_
      refine x_sub (L' := [(0, .ref (ad g 92)), (1, .int x1_8), (2, .int x2_10)]) [2, 1, 0] rfl ?_
      exact Hh4 x1_8 x2_10 w hM
theorem o_X6_risenMany_l4 {E : Ex} {g : Gx} (C : Ctx E RX6 cX6_risenMany rm_X6_risenMany 3 g) {rr : Int32} {wr : Wd} (hR : Rets E g (some .int) (some (.int rr)) wr) : ∀ (n : Nat) (x1 : Int32) (x2 : Int32) (w : Wd), f_X6_risenMany_l4 n x1 x2 w = some (rr, wr) → Xx E 3 g 4 [(0, .ref (ad g 92)), (1, .int x1), (2, .int x2)] [] w := by
  intro n
  induction n with
  | zero =>
    intro x1 x2 w hM
    rw [f_X6_risenMany_l4] at hM
    cases hM
  | succ n ih =>
    intro x1 x2 w hM
    rw [f_X6_risenMany_l4] at hM
    exact o_X6_risenMany_h4 C hR ih x1 x2 w hM
set_option maxHeartbeats 1000000 in
set_option maxRecDepth 20000 in
theorem o_X6_risenMany_b0 {E : Ex} {g : Gx} (C : Ctx E RX6 cX6_risenMany rm_X6_risenMany 3 g) {rr : Int32} {wr : Wd} (hR : Rets E g (some .int) (some (.int rr)) wr) (w : Wd) (hM : f_X6_risenMany_b0 w = some (rr, wr)) : Xx E 3 g 0 [(0, .ref (ad g 92))] [] w := by
  unfold f_X6_risenMany_b0 at hM
  refine x_iconst (v := 0) C dX6_risenMany_0 (by decide) ?_
  obtain ⟨x1_1, e_2, hM⟩ := bd hM
  refine x_top e_2 ?_
  refine x_istore_n (L' := [(1, .int x1_1), (0, .ref (ad g 92))]) C dX6_risenMany_1 rfl (by decide) rfl ?_
  refine x_iconst (v := 0) C dX6_risenMany_2 (by decide) ?_
  obtain ⟨x2_3, e_4, hM⟩ := bd hM
  refine x_top e_4 ?_
  refine x_istore_n (L' := [(2, .int x2_3), (1, .int x1_1), (0, .ref (ad g 92))]) C dX6_risenMany_3 rfl (by decide) rfl ?_
  refine x_sub (L' := [(0, .ref (ad g 92)), (1, .int x1_1), (2, .int x2_3)]) [2, 1, 0] rfl ?_
  exact o_X6_risenMany_l4 C hR 300 x1_1 x2_3 w hM
theorem c_X6_risenMany (l : Launch) (g : Gx) (w : Wd) {rr : Int32} {wr : Wd} (hM : f_X6_risenMany w = some (rr, wr)) : MetM l yX6_risenMany cX6_risenMany 3 (some .int) rm_X6_risenMany g [.ref (ad g 92)] w (some (.int rr)) wr := by
  refine met_of (by decide) (Nat.le_of_ble_eq_true rfl) (fun E hl C hR => ?_)
  refine x_sub (L' := [(0, .ref (ad g 92))]) [0] rfl ?_
  exact o_X6_risenMany_b0 C hR w hM
abbrev rm_X6_sizeOf : Room := { frames := 1, cells := 0, slots := 0, locals := 21 }
set_option maxHeartbeats 1000000 in
set_option maxRecDepth 20000 in
theorem o_X6_sizeOf_h4 {E : Ex} {g : Gx} (C : Ctx E RX6 cX6_sizeOf rm_X6_sizeOf 4 g) {rr : Int32} {wr : Wd} (hR : Rets E g (some .int) (some (.int rr)) wr) {kh4 : (Int32 → Int32 → Int32 → Wd → Option (Int32 × Wd))} (Hh4 : ∀ (x1 : Int32) (x2 : Int32) (x3 : Int32) (w : Wd), kh4 x1 x2 x3 w = some (rr, wr) → Xx E 4 g 4 [(0, .ref (ad g 92)), (1, .int x1), (2, .int x2), (3, .int x3)] [] w) (x1 : Int32) (x2 : Int32) (x3 : Int32) (w : Wd) (hM : f_X6_sizeOf_h4 kh4 x1 x2 x3 w = some (rr, wr)) : Xx E 4 g 4 [(0, .ref (ad g 92)), (1, .int x1), (2, .int x2), (3, .int x3)] [] w := by
  unfold f_X6_sizeOf_h4 at hM
  refine x_iload_n C dX6_sizeOf_4 3 rfl rfl ?_
  refine x_aload_n C dX6_sizeOf_5 0 rfl rfl ?_
  refine xg_6_0 C kd_92 gw_714 dX6_sizeOf_6 ?_
  refine x_icmp_ge (tgt := 42) C dX6_sizeOf_9 (by decide) (fun c_1 => ?_) (fun c_1 => ?_)
  · have hM := ip c_1 hM
    refine x_iload_n C dX6_sizeOf_42 2 rfl rfl ?_
    obtain ⟨rfl, rfl⟩ := rt hM
    exact x_iret C hR rfl dX6_sizeOf_43
  · have hM := iq c_1 hM
    refine x_iload_n C dX6_sizeOf_12 2 rfl rfl ?_
    refine x_iload_n C dX6_sizeOf_13 1 rfl rfl ?_
    refine x_iload_n C dX6_sizeOf_14 3 rfl rfl ?_
    obtain ⟨r_3, w_2, h_4, hM⟩ := cl hM
    refine x_callS (As := [.int x1, .int x3]) C (c_X6_has E.l g x1 x3 w h_4) k_X6_has gw_890 rfl rfl ⟨Nat.le_of_ble_eq_true rfl, Nat.le_of_ble_eq_true rfl⟩ rfl rfl (Nat.le_of_ble_eq_true rfl) dX6_sizeOf_15 ?_
    refine x_if_eq (tgt := 33) C dX6_sizeOf_18 (by decide) (fun c_5 => ?_) (fun c_5 => ?_)
    · have hM := ip c_5 hM
      refine x_iconst (v := 0) C dX6_sizeOf_33 (by decide) ?_
      refine x_iadd C dX6_sizeOf_34 ?_
      obtain ⟨x2_6, e_7, hM⟩ := bd hM
      refine x_top e_7 ?_
      refine x_istore_n (L' := [(2, .int x2_6), (0, .ref (ad g 92)), (1, .int x1), (3, .int x3)]) C dX6_sizeOf_35 rfl (by decide) rfl ?_
      obtain ⟨x3_8, e_9, hM⟩ := bd hM
      refine x_iinc (L' := [(3, .int x3_8), (2, .int x2_6), (0, .ref (ad g 92)), (1, .int x1)]) C dX6_sizeOf_36 3 rfl (v := x3_8) (by rw [e_9]; first | rfl | decide) (by decide) rfl ?_
      refine x_goto (tgt := 4) C dX6_sizeOf_39 (by decide) ?_
      refine x_sub (L' := [(0, .ref (ad g 92)), (1, .int x1), (2, .int x2_6), (3, .int x3_8)]) [2, 3, 1, 0] rfl ?_
      exact Hh4 x1 x2_6 x3_8 w_2 hM
    · have hM := iq c_5 hM
      refine x_aload_n C dX6_sizeOf_21 0 rfl rfl ?_
      refine xg_6_7 C kd_92 gw_721 dX6_sizeOf_22 ?_
      refine x_bipush (v := 8) C dX6_sizeOf_25 (by decide) ?_
      refine x_iload_n C dX6_sizeOf_27 3 rfl rfl ?_
      refine x_iadd C dX6_sizeOf_28 ?_
      obtain ⟨q_10, hM⟩ := gd hM
      refine x_iald C kd_96 ln_96 q_10 rfl dX6_sizeOf_29 ?_
      refine x_goto (tgt := 34) C dX6_sizeOf_30 (by decide) ?_
      refine x_iadd C dX6_sizeOf_34 ?_
      obtain ⟨x2_11, e_12, hM⟩ := bd hM
      refine x_top e_12 ?_
      refine x_istore_n (L' := [(2, .int x2_11), (0, .ref (ad g 92)), (1, .int x1), (3, .int x3)]) C dX6_sizeOf_35 rfl (by decide) rfl ?_
      obtain ⟨x3_13, e_14, hM⟩ := bd hM
      refine x_iinc (L' := [(3, .int x3_13), (2, .int x2_11), (0, .ref (ad g 92)), (1, .int x1)]) C dX6_sizeOf_36 3 rfl (v := x3_13) (by rw [e_14]; first | rfl | decide) (by decide) rfl ?_
      refine x_goto (tgt := 4) C dX6_sizeOf_39 (by decide) ?_
      refine x_sub (L' := [(0, .ref (ad g 92)), (1, .int x1), (2, .int x2_11), (3, .int x3_13)]) [2, 3, 1, 0] rfl ?_
      exact Hh4 x1 x2_11 x3_13 w_2 hM
theorem o_X6_sizeOf_l4 {E : Ex} {g : Gx} (C : Ctx E RX6 cX6_sizeOf rm_X6_sizeOf 4 g) {rr : Int32} {wr : Wd} (hR : Rets E g (some .int) (some (.int rr)) wr) : ∀ (n : Nat) (x1 : Int32) (x2 : Int32) (x3 : Int32) (w : Wd), f_X6_sizeOf_l4 n x1 x2 x3 w = some (rr, wr) → Xx E 4 g 4 [(0, .ref (ad g 92)), (1, .int x1), (2, .int x2), (3, .int x3)] [] w := by
  intro n
  induction n with
  | zero =>
    intro x1 x2 x3 w hM
    rw [f_X6_sizeOf_l4] at hM
    cases hM
  | succ n ih =>
    intro x1 x2 x3 w hM
    rw [f_X6_sizeOf_l4] at hM
    exact o_X6_sizeOf_h4 C hR ih x1 x2 x3 w hM
set_option maxHeartbeats 1000000 in
set_option maxRecDepth 20000 in
theorem o_X6_sizeOf_b0 {E : Ex} {g : Gx} (C : Ctx E RX6 cX6_sizeOf rm_X6_sizeOf 4 g) {rr : Int32} {wr : Wd} (hR : Rets E g (some .int) (some (.int rr)) wr) (x1 : Int32) (w : Wd) (hM : f_X6_sizeOf_b0 x1 w = some (rr, wr)) : Xx E 4 g 0 [(0, .ref (ad g 92)), (1, .int x1)] [] w := by
  unfold f_X6_sizeOf_b0 at hM
  refine x_iconst (v := 0) C dX6_sizeOf_0 (by decide) ?_
  obtain ⟨x2_1, e_2, hM⟩ := bd hM
  refine x_top e_2 ?_
  refine x_istore_n (L' := [(2, .int x2_1), (0, .ref (ad g 92)), (1, .int x1)]) C dX6_sizeOf_1 rfl (by decide) rfl ?_
  refine x_iconst (v := 0) C dX6_sizeOf_2 (by decide) ?_
  obtain ⟨x3_3, e_4, hM⟩ := bd hM
  refine x_top e_4 ?_
  refine x_istore_n (L' := [(3, .int x3_3), (2, .int x2_1), (0, .ref (ad g 92)), (1, .int x1)]) C dX6_sizeOf_3 rfl (by decide) rfl ?_
  refine x_sub (L' := [(0, .ref (ad g 92)), (1, .int x1), (2, .int x2_1), (3, .int x3_3)]) [2, 3, 1, 0] rfl ?_
  exact o_X6_sizeOf_l4 C hR 300 x1 x2_1 x3_3 w hM
theorem c_X6_sizeOf (l : Launch) (g : Gx) (x1 : Int32) (w : Wd) {rr : Int32} {wr : Wd} (hM : f_X6_sizeOf x1 w = some (rr, wr)) : MetM l yX6_sizeOf cX6_sizeOf 4 (some .int) rm_X6_sizeOf g [.ref (ad g 92), .int x1] w (some (.int rr)) wr := by
  refine met_of (by decide) (Nat.le_of_ble_eq_true rfl) (fun E hl C hR => ?_)
  refine x_sub (L' := [(0, .ref (ad g 92)), (1, .int x1)]) [0, 1] rfl ?_
  exact o_X6_sizeOf_b0 C hR x1 w hM
abbrev rm_X6_pots : Room := { frames := 2, cells := 0, slots := 0, locals := 44 }
set_option maxHeartbeats 1000000 in
set_option maxRecDepth 20000 in
theorem o_X6_pots_b72 {E : Ex} {g : Gx} (C : Ctx E RX6 cX6_pots rm_X6_pots 5 g) {rr : Int32} {wr : Wd} (hR : Rets E g (some .int) (some (.int rr)) wr) {kh18 : (Int32 → Int32 → Wd → Option (Int32 × Wd))} (Hh18 : ∀ (x1 : Int32) (x2 : Int32) (w : Wd), kh18 x1 x2 w = some (rr, wr) → Xx E 5 g 18 [(0, .ref (ad g 92)), (1, .int x1), (2, .int x2)] [] w) {kh33 : (Int32 → Int32 → Int32 → Wd → Option (Int32 × Wd))} (Hh33 : ∀ (x1 : Int32) (x2 : Int32) (x3 : Int32) (w : Wd), kh33 x1 x2 x3 w = some (rr, wr) → Xx E 5 g 33 [(0, .ref (ad g 92)), (1, .int x1), (2, .int x2), (3, .int x3)] [] w) (x1 : Int32) (x2 : Int32) (x3 : Int32) (w : Wd) (hM : f_X6_pots_b72 kh18 kh33 x1 x2 x3 w = some (rr, wr)) : Xx E 5 g 72 [(0, .ref (ad g 92)), (1, .int x1), (2, .int x2), (3, .int x3)] [] w := by
  unfold f_X6_pots_b72 at hM
  refine x_iconst (v := 0) C dX6_pots_72 (by decide) ?_
  obtain ⟨x4_1, e_2, hM⟩ := bd hM
  refine x_top e_2 ?_
  refine x_istore (L' := [(4, .int x4_1), (0, .ref (ad g 92)), (1, .int x1), (2, .int x2), (3, .int x3)]) C dX6_pots_73 (by decide) rfl ?_
  refine x_aload_n C dX6_pots_75 1 rfl rfl ?_
  refine xg_6_29 C kd_92 gw_743 dX6_pots_76 ?_
  refine x_iload_n C dX6_pots_79 3 rfl rfl ?_
  refine x_iload C dX6_pots_80 0 rfl ?_
  refine x_if_eq (tgt := 98) C dX6_pots_82 (by decide) (fun c_3 => ?_) (fun c_3 => ?_)
  · have hM := ip c_3 hM
    refine x_aload_n C dX6_pots_98 1 rfl rfl ?_
    refine xg_6_29 C kd_92 gw_743 dX6_pots_99 ?_
    refine x_iload_n C dX6_pots_102 3 rfl rfl ?_
    obtain ⟨q_4, hM⟩ := gd hM
    refine x_iald C kd_104 ln_104 q_4 rfl dX6_pots_103 ?_
    obtain ⟨q_5, hM⟩ := gd hM
    obtain ⟨w_6, e_7, hM⟩ := bd hM
    refine x_iast C kd_104 ln_104 q_5 rfl dX6_pots_104 ?_
    refine x_w e_7 ?_
    refine x_iload_n C dX6_pots_105 4 rfl rfl ?_
    refine x_iconst (v := 1) C dX6_pots_106 (by decide) ?_
    refine x_isub C dX6_pots_107 ?_
    refine x_iload_n C dX6_pots_108 3 rfl rfl ?_
    refine x_iand C dX6_pots_109 ?_
    obtain ⟨x3_8, e_9, hM⟩ := bd hM
    refine x_top e_9 ?_
    refine x_istore_n (L' := [(3, .int x3_8), (4, .int x4_1), (0, .ref (ad g 92)), (1, .int x1), (2, .int x2)]) C dX6_pots_110 rfl (by decide) rfl ?_
    refine x_goto (tgt := 33) C dX6_pots_111 (by decide) ?_
    refine x_sub (L' := [(0, .ref (ad g 92)), (1, .int x1), (2, .int x2), (3, .int x3_8)]) [2, 3, 4, 0] rfl ?_
    exact Hh33 x1 x2 x3_8 w_6 hM
  · have hM := iq c_3 hM
    refine x_aload_n C dX6_pots_85 1 rfl rfl ?_
    refine xg_6_29 C kd_92 gw_743 dX6_pots_86 ?_
    refine x_iload_n C dX6_pots_89 3 rfl rfl ?_
    refine x_iload_n C dX6_pots_90 4 rfl rfl ?_
    refine x_isub C dX6_pots_91 ?_
    obtain ⟨q_10, hM⟩ := gd hM
    refine x_iald C kd_104 ln_104 q_10 rfl dX6_pots_92 ?_
    refine x_iconst (v := 1) C dX6_pots_93 (by decide) ?_
    refine x_iadd C dX6_pots_94 ?_
    refine x_goto (tgt := 104) C dX6_pots_95 (by decide) ?_
    obtain ⟨q_11, hM⟩ := gd hM
    obtain ⟨w_12, e_13, hM⟩ := bd hM
    refine x_iast C kd_104 ln_104 q_11 rfl dX6_pots_104 ?_
    refine x_w e_13 ?_
    refine x_iload_n C dX6_pots_105 4 rfl rfl ?_
    refine x_iconst (v := 1) C dX6_pots_106 (by decide) ?_
    refine x_isub C dX6_pots_107 ?_
    refine x_iload_n C dX6_pots_108 3 rfl rfl ?_
    refine x_iand C dX6_pots_109 ?_
    obtain ⟨x3_14, e_15, hM⟩ := bd hM
    refine x_top e_15 ?_
    refine x_istore_n (L' := [(3, .int x3_14), (4, .int x4_1), (0, .ref (ad g 92)), (1, .int x1), (2, .int x2)]) C dX6_pots_110 rfl (by decide) rfl ?_
    refine x_goto (tgt := 33) C dX6_pots_111 (by decide) ?_
    refine x_sub (L' := [(0, .ref (ad g 92)), (1, .int x1), (2, .int x2), (3, .int x3_14)]) [2, 3, 4, 0] rfl ?_
    exact Hh33 x1 x2 x3_14 w_12 hM
set_option maxHeartbeats 1000000 in
set_option maxRecDepth 20000 in
theorem o_X6_pots_h33 {E : Ex} {g : Gx} (C : Ctx E RX6 cX6_pots rm_X6_pots 5 g) {rr : Int32} {wr : Wd} (hR : Rets E g (some .int) (some (.int rr)) wr) {kh18 : (Int32 → Int32 → Wd → Option (Int32 × Wd))} (Hh18 : ∀ (x1 : Int32) (x2 : Int32) (w : Wd), kh18 x1 x2 w = some (rr, wr) → Xx E 5 g 18 [(0, .ref (ad g 92)), (1, .int x1), (2, .int x2)] [] w) {kh33 : (Int32 → Int32 → Int32 → Wd → Option (Int32 × Wd))} (Hh33 : ∀ (x1 : Int32) (x2 : Int32) (x3 : Int32) (w : Wd), kh33 x1 x2 x3 w = some (rr, wr) → Xx E 5 g 33 [(0, .ref (ad g 92)), (1, .int x1), (2, .int x2), (3, .int x3)] [] w) (x1 : Int32) (x2 : Int32) (x3 : Int32) (w : Wd) (hM : f_X6_pots_h33 kh18 kh33 x1 x2 x3 w = some (rr, wr)) : Xx E 5 g 33 [(0, .ref (ad g 92)), (1, .int x1), (2, .int x2), (3, .int x3)] [] w := by
  unfold f_X6_pots_h33 at hM
  refine x_iload_n C dX6_pots_33 3 rfl rfl ?_
  refine x_if_le (tgt := 114) C dX6_pots_34 (by decide) (fun c_1 => ?_) (fun c_1 => ?_)
  · have hM := ip c_1 hM
    obtain ⟨x2_2, e_3, hM⟩ := bd hM
    refine x_iinc (L' := [(2, .int x2_2), (0, .ref (ad g 92)), (1, .int x1), (3, .int x3)]) C dX6_pots_114 2 rfl (v := x2_2) (by rw [e_3]; first | rfl | decide) (by decide) rfl ?_
    refine x_goto (tgt := 18) C dX6_pots_117 (by decide) ?_
    refine x_sub (L' := [(0, .ref (ad g 92)), (1, .int x1), (2, .int x2_2)]) [1, 2, 0] rfl ?_
    exact Hh18 x1 x2_2 w hM
  · have hM := iq c_1 hM
    refine x_aload_n C dX6_pots_37 0 rfl rfl ?_
    refine x_iload_n C dX6_pots_38 3 rfl rfl ?_
    obtain ⟨r_5, w_4, h_6, hM⟩ := cl hM
    refine x_callV (As := [.int x3]) C (c_X6_sizeOf E.l g x3 w h_6) k_X6_sizeOf kd_92 (by decide) rfl rfl gw_886 rfl rfl ⟨Nat.le_of_ble_eq_true rfl, Nat.le_of_ble_eq_true rfl⟩ rfl rfl (Nat.le_of_ble_eq_true rfl) dX6_pots_39 ?_
    refine x_aload_n C dX6_pots_42 0 rfl rfl ?_
    refine xg_6_6 C kd_92 gw_720 dX6_pots_43 ?_
    refine x_icmp_gt (tgt := 72) C dX6_pots_46 (by decide) (fun c_7 => ?_) (fun c_7 => ?_)
    · have hM := ip c_7 hM
      refine x_sub (L' := [(0, .ref (ad g 92)), (1, .int x1), (2, .int x2), (3, .int x3)]) [0, 1, 2, 3] rfl ?_
      exact o_X6_pots_b72 C hR Hh18 Hh33 x1 x2 x3 w_4 hM
    · have hM := iq c_7 hM
      refine x_aload_n C dX6_pots_49 0 rfl rfl ?_
      refine xg_6_29 C kd_92 gw_743 dX6_pots_50 ?_
      refine x_iload_n C dX6_pots_53 2 rfl rfl ?_
      refine x_iload_n C dX6_pots_54 3 rfl rfl ?_
      refine x_isub C dX6_pots_55 ?_
      obtain ⟨q_8, hM⟩ := gd hM
      refine x_iald C kd_104 ln_104 q_8 rfl dX6_pots_56 ?_
      refine x_iconst (v := 1) C dX6_pots_57 (by decide) ?_
      refine x_iadd C dX6_pots_58 ?_
      refine x_aload_n C dX6_pots_59 0 rfl rfl ?_
      refine xg_6_29 C kd_92 gw_743 dX6_pots_60 ?_
      refine x_iload_n C dX6_pots_63 2 rfl rfl ?_
      obtain ⟨q_9, hM⟩ := gd hM
      refine x_iald C kd_104 ln_104 q_9 rfl dX6_pots_64 ?_
      refine x_icmp_ge (tgt := 72) C dX6_pots_65 (by decide) (fun c_10 => ?_) (fun c_10 => ?_)
      · have hM := ip c_10 hM
        refine x_sub (L' := [(0, .ref (ad g 92)), (1, .int x1), (2, .int x2), (3, .int x3)]) [0, 1, 2, 3] rfl ?_
        exact o_X6_pots_b72 C hR Hh18 Hh33 x1 x2 x3 w_4 hM
      · have hM := iq c_10 hM
        refine x_iconst (v := 1) C dX6_pots_68 (by decide) ?_
        refine x_goto (tgt := 73) C dX6_pots_69 (by decide) ?_
        obtain ⟨x4_11, e_12, hM⟩ := bd hM
        refine x_top e_12 ?_
        refine x_istore (L' := [(4, .int x4_11), (0, .ref (ad g 92)), (1, .int x1), (2, .int x2), (3, .int x3)]) C dX6_pots_73 (by decide) rfl ?_
        refine x_aload_n C dX6_pots_75 1 rfl rfl ?_
        refine xg_6_29 C kd_92 gw_743 dX6_pots_76 ?_
        refine x_iload_n C dX6_pots_79 3 rfl rfl ?_
        refine x_iload C dX6_pots_80 0 rfl ?_
        refine x_if_eq (tgt := 98) C dX6_pots_82 (by decide) (fun c_13 => ?_) (fun c_13 => ?_)
        · have hM := ip c_13 hM
          refine x_aload_n C dX6_pots_98 1 rfl rfl ?_
          refine xg_6_29 C kd_92 gw_743 dX6_pots_99 ?_
          refine x_iload_n C dX6_pots_102 3 rfl rfl ?_
          obtain ⟨q_14, hM⟩ := gd hM
          refine x_iald C kd_104 ln_104 q_14 rfl dX6_pots_103 ?_
          obtain ⟨q_15, hM⟩ := gd hM
          obtain ⟨w_16, e_17, hM⟩ := bd hM
          refine x_iast C kd_104 ln_104 q_15 rfl dX6_pots_104 ?_
          refine x_w e_17 ?_
          refine x_iload_n C dX6_pots_105 4 rfl rfl ?_
          refine x_iconst (v := 1) C dX6_pots_106 (by decide) ?_
          refine x_isub C dX6_pots_107 ?_
          refine x_iload_n C dX6_pots_108 3 rfl rfl ?_
          refine x_iand C dX6_pots_109 ?_
          obtain ⟨x3_18, e_19, hM⟩ := bd hM
          refine x_top e_19 ?_
          refine x_istore_n (L' := [(3, .int x3_18), (4, .int x4_11), (0, .ref (ad g 92)), (1, .int x1), (2, .int x2)]) C dX6_pots_110 rfl (by decide) rfl ?_
          refine x_goto (tgt := 33) C dX6_pots_111 (by decide) ?_
          refine x_sub (L' := [(0, .ref (ad g 92)), (1, .int x1), (2, .int x2), (3, .int x3_18)]) [2, 3, 4, 0] rfl ?_
          exact Hh33 x1 x2 x3_18 w_16 hM
        · have hM := iq c_13 hM
          refine x_aload_n C dX6_pots_85 1 rfl rfl ?_
          refine xg_6_29 C kd_92 gw_743 dX6_pots_86 ?_
          refine x_iload_n C dX6_pots_89 3 rfl rfl ?_
          refine x_iload_n C dX6_pots_90 4 rfl rfl ?_
          refine x_isub C dX6_pots_91 ?_
          obtain ⟨q_20, hM⟩ := gd hM
          refine x_iald C kd_104 ln_104 q_20 rfl dX6_pots_92 ?_
          refine x_iconst (v := 1) C dX6_pots_93 (by decide) ?_
          refine x_iadd C dX6_pots_94 ?_
          refine x_goto (tgt := 104) C dX6_pots_95 (by decide) ?_
          obtain ⟨q_21, hM⟩ := gd hM
          obtain ⟨w_22, e_23, hM⟩ := bd hM
          refine x_iast C kd_104 ln_104 q_21 rfl dX6_pots_104 ?_
          refine x_w e_23 ?_
          refine x_iload_n C dX6_pots_105 4 rfl rfl ?_
          refine x_iconst (v := 1) C dX6_pots_106 (by decide) ?_
          refine x_isub C dX6_pots_107 ?_
          refine x_iload_n C dX6_pots_108 3 rfl rfl ?_
          refine x_iand C dX6_pots_109 ?_
          obtain ⟨x3_24, e_25, hM⟩ := bd hM
          refine x_top e_25 ?_
          refine x_istore_n (L' := [(3, .int x3_24), (4, .int x4_11), (0, .ref (ad g 92)), (1, .int x1), (2, .int x2)]) C dX6_pots_110 rfl (by decide) rfl ?_
          refine x_goto (tgt := 33) C dX6_pots_111 (by decide) ?_
          refine x_sub (L' := [(0, .ref (ad g 92)), (1, .int x1), (2, .int x2), (3, .int x3_24)]) [2, 3, 4, 0] rfl ?_
          exact Hh33 x1 x2 x3_24 w_22 hM
theorem o_X6_pots_l33 {E : Ex} {g : Gx} (C : Ctx E RX6 cX6_pots rm_X6_pots 5 g) {rr : Int32} {wr : Wd} (hR : Rets E g (some .int) (some (.int rr)) wr) {kh18 : (Int32 → Int32 → Wd → Option (Int32 × Wd))} (Hh18 : ∀ (x1 : Int32) (x2 : Int32) (w : Wd), kh18 x1 x2 w = some (rr, wr) → Xx E 5 g 18 [(0, .ref (ad g 92)), (1, .int x1), (2, .int x2)] [] w) : ∀ (n : Nat) (x1 : Int32) (x2 : Int32) (x3 : Int32) (w : Wd), f_X6_pots_l33 kh18 n x1 x2 x3 w = some (rr, wr) → Xx E 5 g 33 [(0, .ref (ad g 92)), (1, .int x1), (2, .int x2), (3, .int x3)] [] w := by
  intro n
  induction n with
  | zero =>
    intro x1 x2 x3 w hM
    rw [f_X6_pots_l33] at hM
    cases hM
  | succ n ih =>
    intro x1 x2 x3 w hM
    rw [f_X6_pots_l33] at hM
    exact o_X6_pots_h33 C hR Hh18 ih x1 x2 x3 w hM
set_option maxHeartbeats 1000000 in
set_option maxRecDepth 20000 in
theorem o_X6_pots_h18 {E : Ex} {g : Gx} (C : Ctx E RX6 cX6_pots rm_X6_pots 5 g) {rr : Int32} {wr : Wd} (hR : Rets E g (some .int) (some (.int rr)) wr) {kh18 : (Int32 → Int32 → Wd → Option (Int32 × Wd))} (Hh18 : ∀ (x1 : Int32) (x2 : Int32) (w : Wd), kh18 x1 x2 w = some (rr, wr) → Xx E 5 g 18 [(0, .ref (ad g 92)), (1, .int x1), (2, .int x2)] [] w) (x1 : Int32) (x2 : Int32) (w : Wd) (hM : f_X6_pots_h18 kh18 x1 x2 w = some (rr, wr)) : Xx E 5 g 18 [(0, .ref (ad g 92)), (1, .int x1), (2, .int x2)] [] w := by
  unfold f_X6_pots_h18 at hM
  refine x_iload_n C dX6_pots_18 2 rfl rfl ?_
  refine x_iload_n C dX6_pots_19 1 rfl rfl ?_
  refine x_icmp_gt (tgt := 120) C dX6_pots_20 (by decide) (fun c_1 => ?_) (fun c_1 => ?_)
  · have hM := ip c_1 hM
    refine x_aload_n C dX6_pots_120 0 rfl rfl ?_
    refine xg_6_29 C kd_92 gw_743 dX6_pots_121 ?_
    refine x_iload_n C dX6_pots_124 1 rfl rfl ?_
    obtain ⟨q_2, hM⟩ := gd hM
    refine x_iald C kd_104 ln_104 q_2 rfl dX6_pots_125 ?_
    refine x_bipush (v := 99) C dX6_pots_126 (by decide) ?_
    refine x_icmp_ne (tgt := 136) C dX6_pots_128 (by decide) (fun c_3 => ?_) (fun c_3 => ?_)
    · have hM := iq c_3 hM
      refine x_aload_n C dX6_pots_136 0 rfl rfl ?_
      refine xg_6_29 C kd_92 gw_743 dX6_pots_137 ?_
      refine x_iload_n C dX6_pots_140 1 rfl rfl ?_
      obtain ⟨q_4, hM⟩ := gd hM
      refine x_iald C kd_104 ln_104 q_4 rfl dX6_pots_141 ?_
      obtain ⟨rfl, rfl⟩ := rt hM
      exact x_iret C hR rfl dX6_pots_142
    · have hM := ip c_3 hM
      refine x_bipush (v := -9) C dX6_pots_131 (by decide) ?_
      refine x_goto (tgt := 142) C dX6_pots_133 (by decide) ?_
      obtain ⟨rfl, rfl⟩ := rt hM
      exact x_iret C hR rfl dX6_pots_142
  · have hM := iq c_1 hM
    refine x_aload_n C dX6_pots_23 0 rfl rfl ?_
    refine xg_6_29 C kd_92 gw_743 dX6_pots_24 ?_
    refine x_iload_n C dX6_pots_27 2 rfl rfl ?_
    refine x_bipush (v := 99) C dX6_pots_28 (by decide) ?_
    obtain ⟨q_5, hM⟩ := gd hM
    obtain ⟨w_6, e_7, hM⟩ := bd hM
    refine x_iast C kd_104 ln_104 q_5 rfl dX6_pots_30 ?_
    refine x_w e_7 ?_
    refine x_iload_n C dX6_pots_31 2 rfl rfl ?_
    obtain ⟨x3_8, e_9, hM⟩ := bd hM
    refine x_top e_9 ?_
    refine x_istore_n (L' := [(3, .int x3_8), (0, .ref (ad g 92)), (1, .int x1), (2, .int x2)]) C dX6_pots_32 rfl (by decide) rfl ?_
    refine x_sub (L' := [(0, .ref (ad g 92)), (1, .int x1), (2, .int x2), (3, .int x3_8)]) [1, 2, 3, 0] rfl ?_
    exact o_X6_pots_l33 C hR Hh18 300 x1 x2 x3_8 w_6 hM
theorem o_X6_pots_l18 {E : Ex} {g : Gx} (C : Ctx E RX6 cX6_pots rm_X6_pots 5 g) {rr : Int32} {wr : Wd} (hR : Rets E g (some .int) (some (.int rr)) wr) : ∀ (n : Nat) (x1 : Int32) (x2 : Int32) (w : Wd), f_X6_pots_l18 n x1 x2 w = some (rr, wr) → Xx E 5 g 18 [(0, .ref (ad g 92)), (1, .int x1), (2, .int x2)] [] w := by
  intro n
  induction n with
  | zero =>
    intro x1 x2 w hM
    rw [f_X6_pots_l18] at hM
    cases hM
  | succ n ih =>
    intro x1 x2 w hM
    rw [f_X6_pots_l18] at hM
    exact o_X6_pots_h18 C hR ih x1 x2 w hM
set_option maxHeartbeats 1000000 in
set_option maxRecDepth 20000 in
theorem o_X6_pots_b0 {E : Ex} {g : Gx} (C : Ctx E RX6 cX6_pots rm_X6_pots 5 g) {rr : Int32} {wr : Wd} (hR : Rets E g (some .int) (some (.int rr)) wr) (w : Wd) (hM : f_X6_pots_b0 w = some (rr, wr)) : Xx E 5 g 0 [(0, .ref (ad g 92))] [] w := by
  unfold f_X6_pots_b0 at hM
  refine x_iconst (v := 1) C dX6_pots_0 (by decide) ?_
  refine x_aload_n C dX6_pots_1 0 rfl rfl ?_
  refine xg_6_0 C kd_92 gw_714 dX6_pots_2 ?_
  refine x_ishl C dX6_pots_5 ?_
  refine x_iconst (v := 1) C dX6_pots_6 (by decide) ?_
  refine x_isub C dX6_pots_7 ?_
  obtain ⟨x1_1, e_2, hM⟩ := bd hM
  refine x_top e_2 ?_
  refine x_istore_n (L' := [(1, .int x1_1), (0, .ref (ad g 92))]) C dX6_pots_8 rfl (by decide) rfl ?_
  refine x_aload_n C dX6_pots_9 1 rfl rfl ?_
  refine xg_6_29 C kd_92 gw_743 dX6_pots_10 ?_
  refine x_iconst (v := 0) C dX6_pots_13 (by decide) ?_
  refine x_iconst (v := 0) C dX6_pots_14 (by decide) ?_
  obtain ⟨w_3, e_4, hM⟩ := bd hM
  refine x_iast C kd_104 ln_104 (by decide) (j := 0) (by decide) dX6_pots_15 ?_
  refine x_w e_4 ?_
  refine x_iconst (v := 1) C dX6_pots_16 (by decide) ?_
  obtain ⟨x2_5, e_6, hM⟩ := bd hM
  refine x_top e_6 ?_
  refine x_istore_n (L' := [(2, .int x2_5), (1, .int x1_1), (0, .ref (ad g 92))]) C dX6_pots_17 rfl (by decide) rfl ?_
  refine x_sub (L' := [(0, .ref (ad g 92)), (1, .int x1_1), (2, .int x2_5)]) [2, 1, 0] rfl ?_
  exact o_X6_pots_l18 C hR 300 x1_1 x2_5 w_3 hM
theorem c_X6_pots (l : Launch) (g : Gx) (w : Wd) {rr : Int32} {wr : Wd} (hM : f_X6_pots w = some (rr, wr)) : MetM l yX6_pots cX6_pots 5 (some .int) rm_X6_pots g [.ref (ad g 92)] w (some (.int rr)) wr := by
  refine met_of (by decide) (Nat.le_of_ble_eq_true rfl) (fun E hl C hR => ?_)
  refine x_sub (L' := [(0, .ref (ad g 92))]) [0] rfl ?_
  exact o_X6_pots_b0 C hR w hM
abbrev rm_X6_now : Room := { frames := 3, cells := 0, slots := 0, locals := 68 }
set_option maxHeartbeats 1000000 in
set_option maxRecDepth 20000 in
theorem o_X6_now_b0 {E : Ex} {g : Gx} (C : Ctx E RX6 cX6_now rm_X6_now 2 g) {rr : Int32} {wr : Wd} (hR : Rets E g (some .int) (some (.int rr)) wr) (x1 : Int32) (w : Wd) (hM : f_X6_now_b0 x1 w = some (rr, wr)) : Xx E 2 g 0 [(0, .ref (ad g 92)), (1, .int x1)] [] w := by
  unfold f_X6_now_b0 at hM
  refine x_aload_n C dX6_now_0 0 rfl rfl ?_
  obtain ⟨r_2, w_1, h_3, hM⟩ := cl hM
  refine x_callVv (As := []) C (c_X6_asItIs E.l g  w h_3) k_X6_asItIs kd_92 (by decide) rfl rfl gw_867 rfl rfl ⟨Nat.le_of_ble_eq_true rfl, Nat.le_of_ble_eq_true rfl⟩ rfl rfl (Nat.le_of_ble_eq_true rfl) dX6_now_1 ?_
  refine x_iload_n C dX6_now_4 1 rfl rfl ?_
  by_cases c_5 : x1 = 0
  · have hM := ip c_5 hM
    refine x_tableIn (off := 43) (tgt := 48) C dX6_now_5 (by rw [c_5]; decide) (by rw [c_5]; decide) (by rw [c_5]; rfl) (by decide) ?_
    refine x_aload_n C dX6_now_48 0 rfl rfl ?_
    refine xg_6_7 C kd_92 gw_721 dX6_now_49 ?_
    refine x_iload_n C dX6_now_52 1 rfl rfl ?_
    obtain ⟨q_4, hM⟩ := gd hM
    refine x_iald C kd_96 ln_96 q_4 rfl dX6_now_53 ?_
    obtain ⟨rfl, rfl⟩ := rt hM
    exact x_iret C hR rfl dX6_now_54
  have hM := iq c_5 hM
  by_cases c_7 : x1 = 1
  · have hM := ip c_7 hM
    refine x_tableIn (off := 43) (tgt := 48) C dX6_now_5 (by rw [c_7]; decide) (by rw [c_7]; decide) (by rw [c_7]; rfl) (by decide) ?_
    refine x_aload_n C dX6_now_48 0 rfl rfl ?_
    refine xg_6_7 C kd_92 gw_721 dX6_now_49 ?_
    refine x_iload_n C dX6_now_52 1 rfl rfl ?_
    obtain ⟨q_6, hM⟩ := gd hM
    refine x_iald C kd_96 ln_96 q_6 rfl dX6_now_53 ?_
    obtain ⟨rfl, rfl⟩ := rt hM
    exact x_iret C hR rfl dX6_now_54
  have hM := iq c_7 hM
  by_cases c_11 : x1 = 2
  · have hM := ip c_11 hM
    refine x_tableIn (off := 50) (tgt := 55) C dX6_now_5 (by rw [c_11]; decide) (by rw [c_11]; decide) (by rw [c_11]; rfl) (by decide) ?_
    refine x_aload_n C dX6_now_55 0 rfl rfl ?_
    refine x_bipush (v := -9) C dX6_now_56 (by decide) ?_
    obtain ⟨r_9, w_8, h_10, hM⟩ := cl hM
    refine x_callV (As := [.int (-9 : Int32)]) C (c_X6_atDepth E.l g (-9 : Int32) w_1 h_10) k_X6_atDepth kd_92 (by decide) rfl rfl gw_874 rfl rfl ⟨Nat.le_of_ble_eq_true rfl, Nat.le_of_ble_eq_true rfl⟩ rfl rfl (Nat.le_of_ble_eq_true rfl) dX6_now_58 ?_
    obtain ⟨rfl, rfl⟩ := rt hM
    exact x_iret C hR rfl dX6_now_61
  have hM := iq c_11 hM
  by_cases c_15 : x1 = 3
  · have hM := ip c_15 hM
    refine x_tableIn (off := 57) (tgt := 62) C dX6_now_5 (by rw [c_15]; decide) (by rw [c_15]; decide) (by rw [c_15]; rfl) (by decide) ?_
    refine x_aload_n C dX6_now_62 0 rfl rfl ?_
    refine x_iconst (v := 0) C dX6_now_63 (by decide) ?_
    obtain ⟨r_13, w_12, h_14, hM⟩ := cl hM
    refine x_callV (As := [.int (0 : Int32)]) C (c_X6_atDepth E.l g (0 : Int32) w_1 h_14) k_X6_atDepth kd_92 (by decide) rfl rfl gw_874 rfl rfl ⟨Nat.le_of_ble_eq_true rfl, Nat.le_of_ble_eq_true rfl⟩ rfl rfl (Nat.le_of_ble_eq_true rfl) dX6_now_64 ?_
    obtain ⟨rfl, rfl⟩ := rt hM
    exact x_iret C hR rfl dX6_now_67
  have hM := iq c_15 hM
  by_cases c_19 : x1 = 4
  · have hM := ip c_19 hM
    refine x_tableIn (off := 63) (tgt := 68) C dX6_now_5 (by rw [c_19]; decide) (by rw [c_19]; decide) (by rw [c_19]; rfl) (by decide) ?_
    refine x_aload_n C dX6_now_68 0 rfl rfl ?_
    obtain ⟨r_17, w_16, h_18, hM⟩ := cl hM
    refine x_callV (As := []) C (c_X6_risenMany E.l g  w_1 h_18) k_X6_risenMany kd_92 (by decide) rfl rfl gw_878 rfl rfl ⟨Nat.le_of_ble_eq_true rfl, Nat.le_of_ble_eq_true rfl⟩ rfl rfl (Nat.le_of_ble_eq_true rfl) dX6_now_69 ?_
    obtain ⟨rfl, rfl⟩ := rt hM
    exact x_iret C hR rfl dX6_now_72
  have hM := iq c_19 hM
  by_cases c_23 : x1 = 5
  · have hM := ip c_23 hM
    refine x_tableIn (off := 68) (tgt := 73) C dX6_now_5 (by rw [c_23]; decide) (by rw [c_23]; decide) (by rw [c_23]; rfl) (by decide) ?_
    refine x_aload_n C dX6_now_73 0 rfl rfl ?_
    obtain ⟨r_21, w_20, h_22, hM⟩ := cl hM
    refine x_callV (As := []) C (c_X6_pots E.l g  w_1 h_22) k_X6_pots kd_92 (by decide) rfl rfl gw_882 rfl rfl ⟨Nat.le_of_ble_eq_true rfl, Nat.le_of_ble_eq_true rfl⟩ rfl rfl (Nat.le_of_ble_eq_true rfl) dX6_now_74 ?_
    obtain ⟨rfl, rfl⟩ := rt hM
    exact x_iret C hR rfl dX6_now_77
  have hM := iq c_23 hM
  by_cases c_24 : x1 = 6
  · have hM := ip c_24 hM
    refine x_tableIn (off := 73) (tgt := 78) C dX6_now_5 (by rw [c_24]; decide) (by rw [c_24]; decide) (by rw [c_24]; rfl) (by decide) ?_
    refine x_aload_n C dX6_now_78 0 rfl rfl ?_
    refine xg_6_9 C kd_92 gw_723 dX6_now_79 ?_
    obtain ⟨rfl, rfl⟩ := rt hM
    exact x_iret C hR rfl dX6_now_82
  have hM := iq c_24 hM
  have tc_5 := lv_neT (a := 0) c_5 (by decide)
  have tc_7 := lv_neT (a := 1) c_7 (by decide)
  have tc_11 := lv_neT (a := 2) c_11 (by decide)
  have tc_15 := lv_neT (a := 3) c_15 (by decide)
  have tc_19 := lv_neT (a := 4) c_19 (by decide)
  have tc_23 := lv_neT (a := 5) c_23 (by decide)
  have tc_24 := lv_neT (a := 6) c_24 (by decide)
  refine x_tableOut (tgt := 83) C dX6_now_5 (by omega) (by decide) ?_
  refine x_iconst (v := -1) C dX6_now_83 (by decide) ?_
  obtain ⟨rfl, rfl⟩ := rt hM
  exact x_iret C hR rfl dX6_now_84
theorem c_X6_now (l : Launch) (g : Gx) (x1 : Int32) (w : Wd) {rr : Int32} {wr : Wd} (hM : f_X6_now x1 w = some (rr, wr)) : MetM l yX6_now cX6_now 2 (some .int) rm_X6_now g [.ref (ad g 92), .int x1] w (some (.int rr)) wr := by
  refine met_of (by decide) (Nat.le_of_ble_eq_true rfl) (fun E hl C hR => ?_)
  refine x_sub (L' := [(0, .ref (ad g 92)), (1, .int x1)]) [0, 1] rfl ?_
  exact o_X6_now_b0 C hR x1 w hM
abbrev rm_X6_order : Room := { frames := 1, cells := 0, slots := 0, locals := 22 }
set_option maxHeartbeats 1000000 in
set_option maxRecDepth 20000 in
theorem o_X6_order_b57 {E : Ex} {g : Gx} (C : Ctx E RX6 cX6_order rm_X6_order 5 g) {rr : Int32} {wr : Wd} (hR : Rets E g (some .int) (some (.int rr)) wr) {kh15 : (Int32 → Int32 → Wd → Option (Int32 × Wd))} (Hh15 : ∀ (x2 : Int32) (x3 : Int32) (w : Wd), kh15 x2 x3 w = some (rr, wr) → Xx E 5 g 15 [(0, .ref (ad g 92)), (2, .int x2), (3, .int x3)] [] w) {kh24 : (Int32 → Int32 → Int32 → Wd → Option (Int32 × Wd))} (Hh24 : ∀ (x2 : Int32) (x3 : Int32) (x4 : Int32) (w : Wd), kh24 x2 x3 x4 w = some (rr, wr) → Xx E 5 g 24 [(0, .ref (ad g 92)), (2, .int x2), (3, .int x3), (4, .int x4)] [] w) (x2 : Int32) (x3 : Int32) (x4 : Int32) (w : Wd) (hM : f_X6_order_b57 kh15 kh24 x2 x3 x4 w = some (rr, wr)) : Xx E 5 g 57 [(0, .ref (ad g 92)), (2, .int x2), (3, .int x3), (4, .int x4)] [] w := by
  unfold f_X6_order_b57 at hM
  obtain ⟨x4_1, e_2, hM⟩ := bd hM
  refine x_iinc (L' := [(4, .int x4_1), (0, .ref (ad g 92)), (2, .int x2), (3, .int x3)]) C dX6_order_57 3 rfl (v := x4_1) (by rw [e_2]; first | rfl | decide) (by decide) rfl ?_
  refine x_goto (tgt := 24) C dX6_order_60 (by decide) ?_
  refine x_sub (L' := [(0, .ref (ad g 92)), (2, .int x2), (3, .int x3), (4, .int x4_1)]) [1, 2, 3, 0] rfl ?_
  exact Hh24 x2 x3 x4_1 w hM
set_option maxHeartbeats 1000000 in
set_option maxRecDepth 20000 in
theorem o_X6_order_h24 {E : Ex} {g : Gx} (C : Ctx E RX6 cX6_order rm_X6_order 5 g) {rr : Int32} {wr : Wd} (hR : Rets E g (some .int) (some (.int rr)) wr) {kh15 : (Int32 → Int32 → Wd → Option (Int32 × Wd))} (Hh15 : ∀ (x2 : Int32) (x3 : Int32) (w : Wd), kh15 x2 x3 w = some (rr, wr) → Xx E 5 g 15 [(0, .ref (ad g 92)), (2, .int x2), (3, .int x3)] [] w) {kh24 : (Int32 → Int32 → Int32 → Wd → Option (Int32 × Wd))} (Hh24 : ∀ (x2 : Int32) (x3 : Int32) (x4 : Int32) (w : Wd), kh24 x2 x3 x4 w = some (rr, wr) → Xx E 5 g 24 [(0, .ref (ad g 92)), (2, .int x2), (3, .int x3), (4, .int x4)] [] w) (x2 : Int32) (x3 : Int32) (x4 : Int32) (w : Wd) (hM : f_X6_order_h24 kh15 kh24 x2 x3 x4 w = some (rr, wr)) : Xx E 5 g 24 [(0, .ref (ad g 92)), (2, .int x2), (3, .int x3), (4, .int x4)] [] w := by
  unfold f_X6_order_h24 at hM
  refine x_iload C dX6_order_24 3 rfl ?_
  refine x_aload_n C dX6_order_26 0 rfl rfl ?_
  refine xg_6_0 C kd_92 gw_714 dX6_order_27 ?_
  refine x_icmp_ge (tgt := 63) C dX6_order_30 (by decide) (fun c_1 => ?_) (fun c_1 => ?_)
  · have hM := ip c_1 hM
    obtain ⟨x3_2, e_3, hM⟩ := bd hM
    refine x_iinc (L' := [(3, .int x3_2), (0, .ref (ad g 92)), (2, .int x2), (4, .int x4)]) C dX6_order_63 2 rfl (v := x3_2) (by rw [e_3]; first | rfl | decide) (by decide) rfl ?_
    refine x_goto (tgt := 15) C dX6_order_66 (by decide) ?_
    refine x_sub (L' := [(0, .ref (ad g 92)), (2, .int x2), (3, .int x3_2)]) [1, 2, 0] rfl ?_
    exact Hh15 x2 x3_2 w hM
  · have hM := iq c_1 hM
    refine x_aload_n C dX6_order_33 0 rfl rfl ?_
    refine xg_6_7 C kd_92 gw_721 dX6_order_34 ?_
    refine x_bipush (v := 20) C dX6_order_37 (by decide) ?_
    refine x_iload C dX6_order_39 3 rfl ?_
    refine x_iadd C dX6_order_41 ?_
    obtain ⟨q_4, hM⟩ := gd hM
    refine x_iald C kd_96 ln_96 q_4 rfl dX6_order_42 ?_
    refine x_iload_n C dX6_order_43 2 rfl rfl ?_
    refine x_icmp_ne (tgt := 57) C dX6_order_44 (by decide) (fun c_5 => ?_) (fun c_5 => ?_)
    · have hM := iq c_5 hM
      refine x_sub (L' := [(0, .ref (ad g 92)), (2, .int x2), (3, .int x3), (4, .int x4)]) [0, 1, 2, 3] rfl ?_
      exact o_X6_order_b57 C hR Hh15 Hh24 x2 x3 x4 w hM
    · have hM := ip c_5 hM
      refine x_iload_n C dX6_order_47 1 rfl rfl ?_
      refine x_if_ne (tgt := 54) C dX6_order_48 (by decide) (fun c_6 => ?_) (fun c_6 => ?_)
      · have hM := iq c_6 hM
        obtain ⟨x2_7, e_8, hM⟩ := bd hM
        refine x_iinc (L' := [(2, .int x2_7), (0, .ref (ad g 92)), (3, .int x3), (4, .int x4)]) C dX6_order_54 1 rfl (v := x2_7) (by rw [e_8]; first | rfl | decide) (by decide) rfl ?_
        refine x_sub (L' := [(0, .ref (ad g 92)), (2, .int x2_7), (3, .int x3), (4, .int x4)]) [1, 0, 2, 3] rfl ?_
        exact o_X6_order_b57 C hR Hh15 Hh24 x2_7 x3 x4 w hM
      · have hM := ip c_6 hM
        refine x_iload C dX6_order_51 3 rfl ?_
        obtain ⟨rfl, rfl⟩ := rt hM
        exact x_iret C hR rfl dX6_order_53
theorem o_X6_order_l24 {E : Ex} {g : Gx} (C : Ctx E RX6 cX6_order rm_X6_order 5 g) {rr : Int32} {wr : Wd} (hR : Rets E g (some .int) (some (.int rr)) wr) {kh15 : (Int32 → Int32 → Wd → Option (Int32 × Wd))} (Hh15 : ∀ (x2 : Int32) (x3 : Int32) (w : Wd), kh15 x2 x3 w = some (rr, wr) → Xx E 5 g 15 [(0, .ref (ad g 92)), (2, .int x2), (3, .int x3)] [] w) : ∀ (n : Nat) (x2 : Int32) (x3 : Int32) (x4 : Int32) (w : Wd), f_X6_order_l24 kh15 n x2 x3 x4 w = some (rr, wr) → Xx E 5 g 24 [(0, .ref (ad g 92)), (2, .int x2), (3, .int x3), (4, .int x4)] [] w := by
  intro n
  induction n with
  | zero =>
    intro x2 x3 x4 w hM
    rw [f_X6_order_l24] at hM
    cases hM
  | succ n ih =>
    intro x2 x3 x4 w hM
    rw [f_X6_order_l24] at hM
    exact o_X6_order_h24 C hR Hh15 ih x2 x3 x4 w hM
set_option maxHeartbeats 1000000 in
set_option maxRecDepth 20000 in
theorem o_X6_order_h15 {E : Ex} {g : Gx} (C : Ctx E RX6 cX6_order rm_X6_order 5 g) {rr : Int32} {wr : Wd} (hR : Rets E g (some .int) (some (.int rr)) wr) {kh15 : (Int32 → Int32 → Wd → Option (Int32 × Wd))} (Hh15 : ∀ (x2 : Int32) (x3 : Int32) (w : Wd), kh15 x2 x3 w = some (rr, wr) → Xx E 5 g 15 [(0, .ref (ad g 92)), (2, .int x2), (3, .int x3)] [] w) (x2 : Int32) (x3 : Int32) (w : Wd) (hM : f_X6_order_h15 kh15 x2 x3 w = some (rr, wr)) : Xx E 5 g 15 [(0, .ref (ad g 92)), (2, .int x2), (3, .int x3)] [] w := by
  unfold f_X6_order_h15 at hM
  refine x_iload_n C dX6_order_15 2 rfl rfl ?_
  refine x_bipush (v := 99) C dX6_order_16 (by decide) ?_
  refine x_icmp_gt (tgt := 69) C dX6_order_18 (by decide) (fun c_1 => ?_) (fun c_1 => ?_)
  · have hM := ip c_1 hM
    refine x_bipush (v := -9) C dX6_order_69 (by decide) ?_
    obtain ⟨rfl, rfl⟩ := rt hM
    exact x_iret C hR rfl dX6_order_71
  · have hM := iq c_1 hM
    refine x_iconst (v := 0) C dX6_order_21 (by decide) ?_
    obtain ⟨x4_2, e_3, hM⟩ := bd hM
    refine x_top e_3 ?_
    refine x_istore (L' := [(4, .int x4_2), (0, .ref (ad g 92)), (2, .int x2), (3, .int x3)]) C dX6_order_22 (by decide) rfl ?_
    refine x_sub (L' := [(0, .ref (ad g 92)), (2, .int x2), (3, .int x3), (4, .int x4_2)]) [1, 2, 3, 0] rfl ?_
    exact o_X6_order_l24 C hR Hh15 300 x2 x3 x4_2 w hM
theorem o_X6_order_l15 {E : Ex} {g : Gx} (C : Ctx E RX6 cX6_order rm_X6_order 5 g) {rr : Int32} {wr : Wd} (hR : Rets E g (some .int) (some (.int rr)) wr) : ∀ (n : Nat) (x2 : Int32) (x3 : Int32) (w : Wd), f_X6_order_l15 n x2 x3 w = some (rr, wr) → Xx E 5 g 15 [(0, .ref (ad g 92)), (2, .int x2), (3, .int x3)] [] w := by
  intro n
  induction n with
  | zero =>
    intro x2 x3 w hM
    rw [f_X6_order_l15] at hM
    cases hM
  | succ n ih =>
    intro x2 x3 w hM
    rw [f_X6_order_l15] at hM
    exact o_X6_order_h15 C hR ih x2 x3 w hM
set_option maxHeartbeats 1000000 in
set_option maxRecDepth 20000 in
theorem o_X6_order_b0 {E : Ex} {g : Gx} (C : Ctx E RX6 cX6_order rm_X6_order 5 g) {rr : Int32} {wr : Wd} (hR : Rets E g (some .int) (some (.int rr)) wr) (x1 : Int32) (w : Wd) (hM : f_X6_order_b0 x1 w = some (rr, wr)) : Xx E 5 g 0 [(0, .ref (ad g 92)), (1, .int x1)] [] w := by
  unfold f_X6_order_b0 at hM
  refine x_iload_n C dX6_order_0 1 rfl rfl ?_
  refine x_iconst (v := 0) C dX6_order_1 (by decide) ?_
  refine x_iconst (v := 5) C dX6_order_2 (by decide) ?_
  obtain ⟨r_2, w_1, h_3, hM⟩ := cl hM
  refine x_callS (As := [.int x1, .int (0 : Int32), .int (5 : Int32)]) C (c_X6_in E.l g x1 (0 : Int32) (5 : Int32) w h_3) k_X6_in gw_813 rfl rfl ⟨Nat.le_of_ble_eq_true rfl, Nat.le_of_ble_eq_true rfl⟩ rfl rfl (Nat.le_of_ble_eq_true rfl) dX6_order_3 ?_
  refine x_if_ne (tgt := 11) C dX6_order_6 (by decide) (fun c_4 => ?_) (fun c_4 => ?_)
  · have hM := iq c_4 hM
    refine x_iload_n C dX6_order_11 1 rfl rfl ?_
    obtain ⟨x2_5, e_6, hM⟩ := bd hM
    refine x_top e_6 ?_
    refine x_istore_n (L' := [(2, .int x2_5), (0, .ref (ad g 92)), (1, .int x1)]) C dX6_order_12 rfl (by decide) rfl ?_
    refine x_iconst (v := 1) C dX6_order_13 (by decide) ?_
    obtain ⟨x3_7, e_8, hM⟩ := bd hM
    refine x_top e_8 ?_
    refine x_istore_n (L' := [(3, .int x3_7), (2, .int x2_5), (0, .ref (ad g 92)), (1, .int x1)]) C dX6_order_14 rfl (by decide) rfl ?_
    refine x_sub (L' := [(0, .ref (ad g 92)), (2, .int x2_5), (3, .int x3_7)]) [2, 1, 0] rfl ?_
    exact o_X6_order_l15 C hR 300 x2_5 x3_7 w_1 hM
  · have hM := ip c_4 hM
    refine x_iconst (v := -1) C dX6_order_9 (by decide) ?_
    obtain ⟨rfl, rfl⟩ := rt hM
    exact x_iret C hR rfl dX6_order_10
theorem c_X6_order (l : Launch) (g : Gx) (x1 : Int32) (w : Wd) {rr : Int32} {wr : Wd} (hM : f_X6_order x1 w = some (rr, wr)) : MetM l yX6_order cX6_order 5 (some .int) rm_X6_order g [.ref (ad g 92), .int x1] w (some (.int rr)) wr := by
  refine met_of (by decide) (Nat.le_of_ble_eq_true rfl) (fun E hl C hR => ?_)
  refine x_sub (L' := [(0, .ref (ad g 92)), (1, .int x1)]) [0, 1] rfl ?_
  exact o_X6_order_b0 C hR x1 w hM
abbrev rm_X6_remembers : Room := { frames := 1, cells := 0, slots := 0, locals := 24 }
set_option maxHeartbeats 1000000 in
set_option maxRecDepth 20000 in
theorem o_X6_remembers_b49 {E : Ex} {g : Gx} (C : Ctx E RX6 cX6_remembers rm_X6_remembers 2 g) {rr : Unit} {wr : Wd} (hR : Rets E g none none wr) (w : Wd) (hM : f_X6_remembers_b49 w = some (rr, wr)) : Xx E 2 g 49 [(0, .ref (ad g 92))] [] w := by
  unfold f_X6_remembers_b49 at hM
  refine x_aload_n C dX6_remembers_49 0 rfl rfl ?_
  refine xg_6_8 C kd_92 gw_722 dX6_remembers_50 ?_
  refine x_bipush (v := 26) C dX6_remembers_53 (by decide) ?_
  refine x_aload_n C dX6_remembers_55 0 rfl rfl ?_
  refine xg_6_9 C kd_92 gw_723 dX6_remembers_56 ?_
  refine x_imul C dX6_remembers_59 ?_
  refine x_aload_n C dX6_remembers_60 0 rfl rfl ?_
  refine xg_6_7 C kd_92 gw_721 dX6_remembers_61 ?_
  refine x_iconst (v := 0) C dX6_remembers_64 (by decide) ?_
  obtain ⟨r_2, w_1, h_3, hM⟩ := cl hM
  refine x_callSv (As := [.ref (ad g 97), .int ((26 : Int32) * (wget w 92 9)), .ref (ad g 96), .int (0 : Int32)]) C (c_X6_copy E.l g 97 96 ((26 : Int32) * (wget w 92 9)) (0 : Int32) kd_97 kd_96 w h_3) k_X6_copy gw_871 rfl rfl ⟨Nat.le_of_ble_eq_true rfl, Nat.le_of_ble_eq_true rfl⟩ rfl rfl (Nat.le_of_ble_eq_true rfl) dX6_remembers_65 ?_
  refine x_aload_n C dX6_remembers_68 0 rfl rfl ?_
  refine x_dup C dX6_remembers_69 rfl ?_
  refine xg_6_9 C kd_92 gw_723 dX6_remembers_70 ?_
  refine x_iconst (v := 1) C dX6_remembers_73 (by decide) ?_
  refine x_iadd C dX6_remembers_74 ?_
  obtain ⟨w_4, e_5, hM⟩ := bd hM
  refine xp_6_9 C kd_92 gw_723 dX6_remembers_75 ?_
  refine x_w e_5 ?_
  obtain ⟨rfl, rfl⟩ := rt hM
  exact x_vret C hR rfl dX6_remembers_78
set_option maxHeartbeats 1000000 in
set_option maxRecDepth 20000 in
theorem o_X6_remembers_h11 {E : Ex} {g : Gx} (C : Ctx E RX6 cX6_remembers rm_X6_remembers 2 g) {rr : Unit} {wr : Wd} (hR : Rets E g none none wr) {kh11 : (Int32 → Wd → Option (Unit × Wd))} (Hh11 : ∀ (x1 : Int32) (w : Wd), kh11 x1 w = some (rr, wr) → Xx E 2 g 11 [(0, .ref (ad g 92)), (1, .int x1)] [] w) (x1 : Int32) (w : Wd) (hM : f_X6_remembers_h11 kh11 x1 w = some (rr, wr)) : Xx E 2 g 11 [(0, .ref (ad g 92)), (1, .int x1)] [] w := by
  unfold f_X6_remembers_h11 at hM
  refine x_iload_n C dX6_remembers_11 1 rfl rfl ?_
  refine x_sipush (v := 234) C dX6_remembers_12 (by decide) ?_
  refine x_icmp_ge (tgt := 39) C dX6_remembers_15 (by decide) (fun c_1 => ?_) (fun c_1 => ?_)
  · have hM := ip c_1 hM
    refine x_aload_n C dX6_remembers_39 0 rfl rfl ?_
    refine x_dup C dX6_remembers_40 rfl ?_
    refine xg_6_9 C kd_92 gw_723 dX6_remembers_41 ?_
    refine x_iconst (v := 1) C dX6_remembers_44 (by decide) ?_
    refine x_isub C dX6_remembers_45 ?_
    obtain ⟨w_2, e_3, hM⟩ := bd hM
    refine xp_6_9 C kd_92 gw_723 dX6_remembers_46 ?_
    refine x_w e_3 ?_
    refine x_sub (L' := [(0, .ref (ad g 92))]) [0] rfl ?_
    exact o_X6_remembers_b49 C hR w_2 hM
  · have hM := iq c_1 hM
    refine x_aload_n C dX6_remembers_18 0 rfl rfl ?_
    refine xg_6_8 C kd_92 gw_722 dX6_remembers_19 ?_
    refine x_iload_n C dX6_remembers_22 1 rfl rfl ?_
    refine x_aload_n C dX6_remembers_23 0 rfl rfl ?_
    refine xg_6_8 C kd_92 gw_722 dX6_remembers_24 ?_
    refine x_iload_n C dX6_remembers_27 1 rfl rfl ?_
    refine x_bipush (v := 26) C dX6_remembers_28 (by decide) ?_
    refine x_iadd C dX6_remembers_30 ?_
    obtain ⟨q_4, hM⟩ := gd hM
    refine x_iald C kd_97 ln_97 q_4 rfl dX6_remembers_31 ?_
    obtain ⟨q_5, hM⟩ := gd hM
    obtain ⟨w_6, e_7, hM⟩ := bd hM
    refine x_iast C kd_97 ln_97 q_5 rfl dX6_remembers_32 ?_
    refine x_w e_7 ?_
    obtain ⟨x1_8, e_9, hM⟩ := bd hM
    refine x_iinc (L' := [(1, .int x1_8), (0, .ref (ad g 92))]) C dX6_remembers_33 1 rfl (v := x1_8) (by rw [e_9]; first | rfl | decide) (by decide) rfl ?_
    refine x_goto (tgt := 11) C dX6_remembers_36 (by decide) ?_
    refine x_sub (L' := [(0, .ref (ad g 92)), (1, .int x1_8)]) [1, 0] rfl ?_
    exact Hh11 x1_8 w_6 hM
theorem o_X6_remembers_l11 {E : Ex} {g : Gx} (C : Ctx E RX6 cX6_remembers rm_X6_remembers 2 g) {rr : Unit} {wr : Wd} (hR : Rets E g none none wr) : ∀ (n : Nat) (x1 : Int32) (w : Wd), f_X6_remembers_l11 n x1 w = some (rr, wr) → Xx E 2 g 11 [(0, .ref (ad g 92)), (1, .int x1)] [] w := by
  intro n
  induction n with
  | zero =>
    intro x1 w hM
    rw [f_X6_remembers_l11] at hM
    cases hM
  | succ n ih =>
    intro x1 w hM
    rw [f_X6_remembers_l11] at hM
    exact o_X6_remembers_h11 C hR ih x1 w hM
set_option maxHeartbeats 1000000 in
set_option maxRecDepth 20000 in
theorem o_X6_remembers_b0 {E : Ex} {g : Gx} (C : Ctx E RX6 cX6_remembers rm_X6_remembers 2 g) {rr : Unit} {wr : Wd} (hR : Rets E g none none wr) (w : Wd) (hM : f_X6_remembers_b0 w = some (rr, wr)) : Xx E 2 g 0 [(0, .ref (ad g 92))] [] w := by
  unfold f_X6_remembers_b0 at hM
  refine x_aload_n C dX6_remembers_0 0 rfl rfl ?_
  refine xg_6_9 C kd_92 gw_723 dX6_remembers_1 ?_
  refine x_bipush (v := 10) C dX6_remembers_4 (by decide) ?_
  refine x_icmp_ne (tgt := 49) C dX6_remembers_6 (by decide) (fun c_1 => ?_) (fun c_1 => ?_)
  · have hM := iq c_1 hM
    refine x_sub (L' := [(0, .ref (ad g 92))]) [0] rfl ?_
    exact o_X6_remembers_b49 C hR w hM
  · have hM := ip c_1 hM
    refine x_iconst (v := 0) C dX6_remembers_9 (by decide) ?_
    obtain ⟨x1_2, e_3, hM⟩ := bd hM
    refine x_top e_3 ?_
    refine x_istore_n (L' := [(1, .int x1_2), (0, .ref (ad g 92))]) C dX6_remembers_10 rfl (by decide) rfl ?_
    refine x_sub (L' := [(0, .ref (ad g 92)), (1, .int x1_2)]) [1, 0] rfl ?_
    exact o_X6_remembers_l11 C hR 300 x1_2 w hM
theorem c_X6_remembers (l : Launch) (g : Gx) (w : Wd) {rr : Unit} {wr : Wd} (hM : f_X6_remembers w = some (rr, wr)) : MetM l yX6_remembers cX6_remembers 2 none rm_X6_remembers g [.ref (ad g 92)] w none wr := by
  refine met_of (by decide) (Nat.le_of_ble_eq_true rfl) (fun E hl C hR => ?_)
  refine x_sub (L' := [(0, .ref (ad g 92))]) [0] rfl ?_
  exact o_X6_remembers_b0 C hR w hM
abbrev rm_X6_drops : Room := { frames := 3, cells := 0, slots := 0, locals := 64 }
set_option maxHeartbeats 1000000 in
set_option maxRecDepth 20000 in
theorem o_X6_drops_b0 {E : Ex} {g : Gx} (C : Ctx E RX6 cX6_drops rm_X6_drops 2 g) {rr : Int32} {wr : Wd} (hR : Rets E g (some .int) (some (.int rr)) wr) (x1 : Int32) (w : Wd) (hM : f_X6_drops_b0 x1 w = some (rr, wr)) : Xx E 2 g 0 [(0, .ref (ad g 92)), (1, .int x1)] [] w := by
  unfold f_X6_drops_b0 at hM
  refine x_aload_n C dX6_drops_0 0 rfl rfl ?_
  refine x_iload_n C dX6_drops_1 1 rfl rfl ?_
  obtain ⟨r_2, w_1, h_3, hM⟩ := cl hM
  refine x_callV (As := [.int x1]) C (c_X6_isOne E.l g x1 w h_3) k_X6_isOne kd_92 (by decide) rfl rfl gw_859 rfl rfl ⟨Nat.le_of_ble_eq_true rfl, Nat.le_of_ble_eq_true rfl⟩ rfl rfl (Nat.le_of_ble_eq_true rfl) dX6_drops_2 ?_
  refine x_if_ne (tgt := 10) C dX6_drops_5 (by decide) (fun c_4 => ?_) (fun c_4 => ?_)
  · have hM := iq c_4 hM
    refine x_aload_n C dX6_drops_10 0 rfl rfl ?_
    refine xg_6_7 C kd_92 gw_721 dX6_drops_11 ?_
    refine x_iconst (v := 2) C dX6_drops_14 (by decide) ?_
    refine x_iload_n C dX6_drops_15 1 rfl rfl ?_
    refine x_iadd C dX6_drops_16 ?_
    obtain ⟨q_5, hM⟩ := gd hM
    refine x_iald C kd_96 ln_96 q_5 rfl dX6_drops_17 ?_
    refine x_bipush (v := -9) C dX6_drops_18 (by decide) ?_
    refine x_icmp_eq (tgt := 26) C dX6_drops_20 (by decide) (fun c_6 => ?_) (fun c_6 => ?_)
    · have hM := ip c_6 hM
      refine x_aload_n C dX6_drops_26 0 rfl rfl ?_
      obtain ⟨r_8, w_7, h_9, hM⟩ := cl hM
      refine x_callVv (As := []) C (c_X6_remembers E.l g  w_1 h_9) k_X6_remembers kd_92 (by decide) rfl rfl gw_901 rfl rfl ⟨Nat.le_of_ble_eq_true rfl, Nat.le_of_ble_eq_true rfl⟩ rfl rfl (Nat.le_of_ble_eq_true rfl) dX6_drops_27 ?_
      refine x_aload_n C dX6_drops_30 0 rfl rfl ?_
      refine xg_6_7 C kd_92 gw_721 dX6_drops_31 ?_
      refine x_iconst (v := 2) C dX6_drops_34 (by decide) ?_
      refine x_iload_n C dX6_drops_35 1 rfl rfl ?_
      refine x_iadd C dX6_drops_36 ?_
      refine x_bipush (v := 10) C dX6_drops_37 (by decide) ?_
      obtain ⟨q_10, hM⟩ := gd hM
      obtain ⟨w_11, e_12, hM⟩ := bd hM
      refine x_iast C kd_96 ln_96 q_10 rfl dX6_drops_39 ?_
      refine x_w e_12 ?_
      refine x_aload_n C dX6_drops_40 0 rfl rfl ?_
      refine xg_6_0 C kd_92 gw_714 dX6_drops_41 ?_
      refine x_aload_n C dX6_drops_44 0 rfl rfl ?_
      obtain ⟨r_14, w_13, h_15, hM⟩ := cl hM
      refine x_callV (As := []) C (c_X6_dry E.l g  w_11 h_15) k_X6_dry kd_92 (by decide) rfl rfl gw_905 rfl rfl ⟨Nat.le_of_ble_eq_true rfl, Nat.le_of_ble_eq_true rfl⟩ rfl rfl (Nat.le_of_ble_eq_true rfl) dX6_drops_45 ?_
      obtain ⟨r_17, w_16, h_18, hM⟩ := cl hM
      refine x_callS (As := [.int r_14]) C (c_X6_bits E.l g r_14 w_13 h_18) k_X6_bits gw_909 rfl rfl ⟨Nat.le_of_ble_eq_true rfl, Nat.le_of_ble_eq_true rfl⟩ rfl rfl (Nat.le_of_ble_eq_true rfl) dX6_drops_48 ?_
      refine x_isub C dX6_drops_51 ?_
      obtain ⟨rfl, rfl⟩ := rt hM
      exact x_iret C hR rfl dX6_drops_52
    · have hM := iq c_6 hM
      refine x_bipush (v := -2) C dX6_drops_23 (by decide) ?_
      obtain ⟨rfl, rfl⟩ := rt hM
      exact x_iret C hR rfl dX6_drops_25
  · have hM := ip c_4 hM
    refine x_iconst (v := -1) C dX6_drops_8 (by decide) ?_
    obtain ⟨rfl, rfl⟩ := rt hM
    exact x_iret C hR rfl dX6_drops_9
theorem c_X6_drops (l : Launch) (g : Gx) (x1 : Int32) (w : Wd) {rr : Int32} {wr : Wd} (hM : f_X6_drops x1 w = some (rr, wr)) : MetM l yX6_drops cX6_drops 2 (some .int) rm_X6_drops g [.ref (ad g 92), .int x1] w (some (.int rr)) wr := by
  refine met_of (by decide) (Nat.le_of_ble_eq_true rfl) (fun E hl C hR => ?_)
  refine x_sub (L' := [(0, .ref (ad g 92)), (1, .int x1)]) [0, 1] rfl ?_
  exact o_X6_drops_b0 C hR x1 w hM
abbrev rm_X6_minute : Room := { frames := 4, cells := 0, slots := 0, locals := 88 }
set_option maxHeartbeats 1000000 in
set_option maxRecDepth 20000 in
theorem o_X6_minute_b0 {E : Ex} {g : Gx} (C : Ctx E RX6 cX6_minute rm_X6_minute 1 g) {rr : Int32} {wr : Wd} (hR : Rets E g (some .int) (some (.int rr)) wr) (w : Wd) (hM : f_X6_minute_b0 w = some (rr, wr)) : Xx E 1 g 0 [(0, .ref (ad g 92))] [] w := by
  unfold f_X6_minute_b0 at hM
  refine x_aload_n C dX6_minute_0 0 rfl rfl ?_
  refine xg_6_7 C kd_92 gw_721 dX6_minute_1 ?_
  refine x_iconst (v := 0) C dX6_minute_4 (by decide) ?_
  refine x_iald C kd_96 ln_96 (by decide) (j := 0) (by decide) dX6_minute_5 ?_
  refine x_bipush (v := 99) C dX6_minute_6 (by decide) ?_
  refine x_icmp_ne (tgt := 14) C dX6_minute_8 (by decide) (fun c_1 => ?_) (fun c_1 => ?_)
  · have hM := iq c_1 hM
    refine x_aload_n C dX6_minute_14 0 rfl rfl ?_
    obtain ⟨r_3, w_2, h_4, hM⟩ := cl hM
    refine x_callVv (As := []) C (c_X6_remembers E.l g  w h_4) k_X6_remembers kd_92 (by decide) rfl rfl gw_901 rfl rfl ⟨Nat.le_of_ble_eq_true rfl, Nat.le_of_ble_eq_true rfl⟩ rfl rfl (Nat.le_of_ble_eq_true rfl) dX6_minute_15 ?_
    refine x_aload_n C dX6_minute_18 0 rfl rfl ?_
    obtain ⟨r_6, w_5, h_7, hM⟩ := cl hM
    refine x_callVv (As := []) C (c_X6_asItIs E.l g  w_2 h_7) k_X6_asItIs kd_92 (by decide) rfl rfl gw_867 rfl rfl ⟨Nat.le_of_ble_eq_true rfl, Nat.le_of_ble_eq_true rfl⟩ rfl rfl (Nat.le_of_ble_eq_true rfl) dX6_minute_19 ?_
    refine x_aload_n C dX6_minute_22 0 rfl rfl ?_
    obtain ⟨r_9, w_8, h_10, hM⟩ := cl hM
    refine x_callVv (As := []) C (c_X6_goesBy E.l g  w_5 h_10) k_X6_goesBy kd_92 (by decide) rfl rfl gw_916 rfl rfl ⟨Nat.le_of_ble_eq_true rfl, Nat.le_of_ble_eq_true rfl⟩ rfl rfl (Nat.le_of_ble_eq_true rfl) dX6_minute_23 ?_
    refine x_aload_n C dX6_minute_26 0 rfl rfl ?_
    refine xg_6_7 C kd_92 gw_721 dX6_minute_27 ?_
    refine x_iconst (v := 0) C dX6_minute_30 (by decide) ?_
    refine x_aload_n C dX6_minute_31 0 rfl rfl ?_
    refine xg_6_28 C kd_92 gw_742 dX6_minute_32 ?_
    refine x_iconst (v := 0) C dX6_minute_35 (by decide) ?_
    obtain ⟨r_12, w_11, h_13, hM⟩ := cl hM
    refine x_callSv (As := [.ref (ad g 96), .int (0 : Int32), .ref (ad g 103), .int (0 : Int32)]) C (c_X6_copy E.l g 96 103 (0 : Int32) (0 : Int32) kd_96 kd_103 w_8 h_13) k_X6_copy gw_871 rfl rfl ⟨Nat.le_of_ble_eq_true rfl, Nat.le_of_ble_eq_true rfl⟩ rfl rfl (Nat.le_of_ble_eq_true rfl) dX6_minute_36 ?_
    refine x_aload_n C dX6_minute_39 0 rfl rfl ?_
    refine x_iconst (v := 0) C dX6_minute_40 (by decide) ?_
    obtain ⟨r_15, w_14, h_16, hM⟩ := cl hM
    refine x_callV (As := [.int (0 : Int32)]) C (c_X6_atDepth E.l g (0 : Int32) w_11 h_16) k_X6_atDepth kd_92 (by decide) rfl rfl gw_874 rfl rfl ⟨Nat.le_of_ble_eq_true rfl, Nat.le_of_ble_eq_true rfl⟩ rfl rfl (Nat.le_of_ble_eq_true rfl) dX6_minute_41 ?_
    obtain ⟨r_18, w_17, h_19, hM⟩ := cl hM
    refine x_callS (As := [.int r_15]) C (c_X6_bits E.l g r_15 w_14 h_19) k_X6_bits gw_909 rfl rfl ⟨Nat.le_of_ble_eq_true rfl, Nat.le_of_ble_eq_true rfl⟩ rfl rfl (Nat.le_of_ble_eq_true rfl) dX6_minute_44 ?_
    obtain ⟨rfl, rfl⟩ := rt hM
    exact x_iret C hR rfl dX6_minute_47
  · have hM := ip c_1 hM
    refine x_bipush (v := -2) C dX6_minute_11 (by decide) ?_
    obtain ⟨rfl, rfl⟩ := rt hM
    exact x_iret C hR rfl dX6_minute_13
theorem c_X6_minute (l : Launch) (g : Gx) (w : Wd) {rr : Int32} {wr : Wd} (hM : f_X6_minute w = some (rr, wr)) : MetM l yX6_minute cX6_minute 1 (some .int) rm_X6_minute g [.ref (ad g 92)] w (some (.int rr)) wr := by
  refine met_of (by decide) (Nat.le_of_ble_eq_true rfl) (fun E hl C hR => ?_)
  refine x_sub (L' := [(0, .ref (ad g 92))]) [0] rfl ?_
  exact o_X6_minute_b0 C hR w hM
abbrev rm_X6_heats : Room := { frames := 2, cells := 0, slots := 0, locals := 45 }
set_option maxHeartbeats 1000000 in
set_option maxRecDepth 20000 in
theorem o_X6_heats_b0 {E : Ex} {g : Gx} (C : Ctx E RX6 cX6_heats rm_X6_heats 3 g) {rr : Int32} {wr : Wd} (hR : Rets E g (some .int) (some (.int rr)) wr) (x1 : Int32) (w : Wd) (hM : f_X6_heats_b0 x1 w = some (rr, wr)) : Xx E 3 g 0 [(0, .ref (ad g 92)), (1, .int x1)] [] w := by
  unfold f_X6_heats_b0 at hM
  refine x_iload_n C dX6_heats_0 1 rfl rfl ?_
  refine x_iconst (v := 0) C dX6_heats_1 (by decide) ?_
  refine x_bipush (v := 9) C dX6_heats_2 (by decide) ?_
  obtain ⟨r_2, w_1, h_3, hM⟩ := cl hM
  refine x_callS (As := [.int x1, .int (0 : Int32), .int (9 : Int32)]) C (c_X6_in E.l g x1 (0 : Int32) (9 : Int32) w h_3) k_X6_in gw_813 rfl rfl ⟨Nat.le_of_ble_eq_true rfl, Nat.le_of_ble_eq_true rfl⟩ rfl rfl (Nat.le_of_ble_eq_true rfl) dX6_heats_4 ?_
  refine x_if_ne (tgt := 12) C dX6_heats_7 (by decide) (fun c_4 => ?_) (fun c_4 => ?_)
  · have hM := iq c_4 hM
    refine x_aload_n C dX6_heats_12 0 rfl rfl ?_
    refine xg_6_7 C kd_92 gw_721 dX6_heats_13 ?_
    refine x_iconst (v := 1) C dX6_heats_16 (by decide) ?_
    refine x_iald C kd_96 ln_96 (by decide) (j := 1) (by decide) dX6_heats_17 ?_
    obtain ⟨x2_5, e_6, hM⟩ := bd hM
    refine x_top e_6 ?_
    refine x_istore_n (L' := [(2, .int x2_5), (0, .ref (ad g 92)), (1, .int x1)]) C dX6_heats_18 rfl (by decide) rfl ?_
    refine x_iload_n C dX6_heats_19 0 rfl rfl ?_
    refine x_iload_n C dX6_heats_20 2 rfl rfl ?_
    refine x_icmp_ne (tgt := 27) C dX6_heats_21 (by decide) (fun c_7 => ?_) (fun c_7 => ?_)
    · have hM := iq c_7 hM
      refine x_aload_n C dX6_heats_27 1 rfl rfl ?_
      obtain ⟨r_9, w_8, h_10, hM⟩ := cl hM
      refine x_callVv (As := []) C (c_X6_remembers E.l g  w_1 h_10) k_X6_remembers kd_92 (by decide) rfl rfl gw_901 rfl rfl ⟨Nat.le_of_ble_eq_true rfl, Nat.le_of_ble_eq_true rfl⟩ rfl rfl (Nat.le_of_ble_eq_true rfl) dX6_heats_28 ?_
      refine x_aload_n C dX6_heats_31 1 rfl rfl ?_
      refine xg_6_7 C kd_92 gw_721 dX6_heats_32 ?_
      refine x_iconst (v := 1) C dX6_heats_35 (by decide) ?_
      refine x_iload_n C dX6_heats_36 2 rfl rfl ?_
      obtain ⟨w_11, e_12, hM⟩ := bd hM
      refine x_iast C kd_96 ln_96 (by decide) (j := 1) (by decide) dX6_heats_37 ?_
      refine x_w e_12 ?_
      refine x_iload_n C dX6_heats_38 0 rfl rfl ?_
      obtain ⟨rfl, rfl⟩ := rt hM
      exact x_iret C hR rfl dX6_heats_39
    · have hM := ip c_7 hM
      refine x_bipush (v := -2) C dX6_heats_24 (by decide) ?_
      obtain ⟨rfl, rfl⟩ := rt hM
      exact x_iret C hR rfl dX6_heats_26
  · have hM := ip c_4 hM
    refine x_iconst (v := -1) C dX6_heats_10 (by decide) ?_
    obtain ⟨rfl, rfl⟩ := rt hM
    exact x_iret C hR rfl dX6_heats_11
theorem c_X6_heats (l : Launch) (g : Gx) (x1 : Int32) (w : Wd) {rr : Int32} {wr : Wd} (hM : f_X6_heats x1 w = some (rr, wr)) : MetM l yX6_heats cX6_heats 3 (some .int) rm_X6_heats g [.ref (ad g 92), .int x1] w (some (.int rr)) wr := by
  refine met_of (by decide) (Nat.le_of_ble_eq_true rfl) (fun E hl C hR => ?_)
  refine x_sub (L' := [(0, .ref (ad g 92)), (1, .int x1)]) [0, 1] rfl ?_
  exact o_X6_heats_b0 C hR x1 w hM
abbrev rm_X6_skewers : Room := { frames := 2, cells := 0, slots := 0, locals := 45 }
set_option maxHeartbeats 1000000 in
set_option maxRecDepth 20000 in
theorem o_X6_skewers_h42 {E : Ex} {g : Gx} (C : Ctx E RX6 cX6_skewers rm_X6_skewers 4 g) {rr : Int32} {wr : Wd} (hR : Rets E g (some .int) (some (.int rr)) wr) {kh42 : (Int32 → Int32 → Int32 → Wd → Option (Int32 × Wd))} (Hh42 : ∀ (x1 : Int32) (x2 : Int32) (x3 : Int32) (w : Wd), kh42 x1 x2 x3 w = some (rr, wr) → Xx E 4 g 42 [(0, .ref (ad g 92)), (1, .int x1), (2, .int x2), (3, .int x3)] [] w) (x1 : Int32) (x2 : Int32) (x3 : Int32) (w : Wd) (hM : f_X6_skewers_h42 kh42 x1 x2 x3 w = some (rr, wr)) : Xx E 4 g 42 [(0, .ref (ad g 92)), (1, .int x1), (2, .int x2), (3, .int x3)] [] w := by
  unfold f_X6_skewers_h42 at hM
  refine x_iload_n C dX6_skewers_42 3 rfl rfl ?_
  refine x_aload_n C dX6_skewers_43 0 rfl rfl ?_
  refine xg_6_0 C kd_92 gw_714 dX6_skewers_44 ?_
  refine x_icmp_ge (tgt := 88) C dX6_skewers_47 (by decide) (fun c_1 => ?_) (fun c_1 => ?_)
  · have hM := ip c_1 hM
    refine x_aload_n C dX6_skewers_88 0 rfl rfl ?_
    refine xg_6_7 C kd_92 gw_721 dX6_skewers_89 ?_
    refine x_bipush (v := 8) C dX6_skewers_92 (by decide) ?_
    refine x_iload_n C dX6_skewers_94 1 rfl rfl ?_
    refine x_iadd C dX6_skewers_95 ?_
    refine x_aload_n C dX6_skewers_96 0 rfl rfl ?_
    refine xg_6_7 C kd_92 gw_721 dX6_skewers_97 ?_
    refine x_bipush (v := 8) C dX6_skewers_100 (by decide) ?_
    refine x_iload_n C dX6_skewers_102 1 rfl rfl ?_
    refine x_iadd C dX6_skewers_103 ?_
    obtain ⟨q_2, hM⟩ := gd hM
    refine x_iald C kd_96 ln_96 q_2 rfl dX6_skewers_104 ?_
    refine x_iconst (v := 4) C dX6_skewers_105 (by decide) ?_
    refine x_icmp_ge (tgt := 113) C dX6_skewers_106 (by decide) (fun c_3 => ?_) (fun c_3 => ?_)
    · have hM := ip c_3 hM
      refine x_aload_n C dX6_skewers_113 0 rfl rfl ?_
      refine xg_6_7 C kd_92 gw_721 dX6_skewers_114 ?_
      refine x_bipush (v := 8) C dX6_skewers_117 (by decide) ?_
      refine x_iload_n C dX6_skewers_119 1 rfl rfl ?_
      refine x_iadd C dX6_skewers_120 ?_
      obtain ⟨q_4, hM⟩ := gd hM
      refine x_iald C kd_96 ln_96 q_4 rfl dX6_skewers_121 ?_
      refine x_iconst (v := 2) C dX6_skewers_122 (by decide) ?_
      refine x_idiv C dX6_skewers_123 (by decide) ?_
      obtain ⟨q_5, hM⟩ := gd hM
      obtain ⟨w_6, e_7, hM⟩ := bd hM
      refine x_iast C kd_96 ln_96 q_5 rfl dX6_skewers_124 ?_
      refine x_w e_7 ?_
      refine x_aload_n C dX6_skewers_125 0 rfl rfl ?_
      refine xg_6_7 C kd_92 gw_721 dX6_skewers_126 ?_
      refine x_bipush (v := 8) C dX6_skewers_129 (by decide) ?_
      refine x_iload_n C dX6_skewers_131 1 rfl rfl ?_
      refine x_iadd C dX6_skewers_132 ?_
      obtain ⟨q_8, hM⟩ := gd hM
      refine x_iald C kd_96 ln_96 q_8 rfl dX6_skewers_133 ?_
      obtain ⟨rfl, rfl⟩ := rt hM
      exact x_iret C hR rfl dX6_skewers_134
    · have hM := iq c_3 hM
      refine x_iconst (v := 1) C dX6_skewers_109 (by decide) ?_
      refine x_goto (tgt := 124) C dX6_skewers_110 (by decide) ?_
      obtain ⟨q_9, hM⟩ := gd hM
      obtain ⟨w_10, e_11, hM⟩ := bd hM
      refine x_iast C kd_96 ln_96 q_9 rfl dX6_skewers_124 ?_
      refine x_w e_11 ?_
      refine x_aload_n C dX6_skewers_125 0 rfl rfl ?_
      refine xg_6_7 C kd_92 gw_721 dX6_skewers_126 ?_
      refine x_bipush (v := 8) C dX6_skewers_129 (by decide) ?_
      refine x_iload_n C dX6_skewers_131 1 rfl rfl ?_
      refine x_iadd C dX6_skewers_132 ?_
      obtain ⟨q_12, hM⟩ := gd hM
      refine x_iald C kd_96 ln_96 q_12 rfl dX6_skewers_133 ?_
      obtain ⟨rfl, rfl⟩ := rt hM
      exact x_iret C hR rfl dX6_skewers_134
  · have hM := iq c_1 hM
    refine x_aload_n C dX6_skewers_50 0 rfl rfl ?_
    refine xg_6_7 C kd_92 gw_721 dX6_skewers_51 ?_
    refine x_bipush (v := 14) C dX6_skewers_54 (by decide) ?_
    refine x_iload_n C dX6_skewers_56 3 rfl rfl ?_
    refine x_iadd C dX6_skewers_57 ?_
    refine x_iload_n C dX6_skewers_58 2 rfl rfl ?_
    refine x_iload_n C dX6_skewers_59 3 rfl rfl ?_
    obtain ⟨r_14, w_13, h_15, hM⟩ := cl hM
    refine x_callS (As := [.int x2, .int x3]) C (c_X6_has E.l g x2 x3 w h_15) k_X6_has gw_890 rfl rfl ⟨Nat.le_of_ble_eq_true rfl, Nat.le_of_ble_eq_true rfl⟩ rfl rfl (Nat.le_of_ble_eq_true rfl) dX6_skewers_60 ?_
    refine x_if_eq (tgt := 72) C dX6_skewers_63 (by decide) (fun c_16 => ?_) (fun c_16 => ?_)
    · have hM := ip c_16 hM
      refine x_aload_n C dX6_skewers_72 0 rfl rfl ?_
      refine xg_6_7 C kd_92 gw_721 dX6_skewers_73 ?_
      refine x_bipush (v := 14) C dX6_skewers_76 (by decide) ?_
      refine x_iload_n C dX6_skewers_78 3 rfl rfl ?_
      refine x_iadd C dX6_skewers_79 ?_
      obtain ⟨q_17, hM⟩ := gd hM
      refine x_iald C kd_96 ln_96 q_17 rfl dX6_skewers_80 ?_
      obtain ⟨q_18, hM⟩ := gd hM
      obtain ⟨w_19, e_20, hM⟩ := bd hM
      refine x_iast C kd_96 ln_96 q_18 rfl dX6_skewers_81 ?_
      refine x_w e_20 ?_
      obtain ⟨x3_21, e_22, hM⟩ := bd hM
      refine x_iinc (L' := [(3, .int x3_21), (0, .ref (ad g 92)), (1, .int x1), (2, .int x2)]) C dX6_skewers_82 3 rfl (v := x3_21) (by rw [e_22]; first | rfl | decide) (by decide) rfl ?_
      refine x_goto (tgt := 42) C dX6_skewers_85 (by decide) ?_
      refine x_sub (L' := [(0, .ref (ad g 92)), (1, .int x1), (2, .int x2), (3, .int x3_21)]) [1, 2, 3, 0] rfl ?_
      exact Hh42 x1 x2 x3_21 w_19 hM
    · have hM := iq c_16 hM
      refine x_iconst (v := 1) C dX6_skewers_66 (by decide) ?_
      refine x_iload_n C dX6_skewers_67 3 rfl rfl ?_
      refine x_ishl C dX6_skewers_68 ?_
      refine x_goto (tgt := 81) C dX6_skewers_69 (by decide) ?_
      obtain ⟨q_23, hM⟩ := gd hM
      obtain ⟨w_24, e_25, hM⟩ := bd hM
      refine x_iast C kd_96 ln_96 q_23 rfl dX6_skewers_81 ?_
      refine x_w e_25 ?_
      obtain ⟨x3_26, e_27, hM⟩ := bd hM
      refine x_iinc (L' := [(3, .int x3_26), (0, .ref (ad g 92)), (1, .int x1), (2, .int x2)]) C dX6_skewers_82 3 rfl (v := x3_26) (by rw [e_27]; first | rfl | decide) (by decide) rfl ?_
      refine x_goto (tgt := 42) C dX6_skewers_85 (by decide) ?_
      refine x_sub (L' := [(0, .ref (ad g 92)), (1, .int x1), (2, .int x2), (3, .int x3_26)]) [1, 2, 3, 0] rfl ?_
      exact Hh42 x1 x2 x3_26 w_24 hM
theorem o_X6_skewers_l42 {E : Ex} {g : Gx} (C : Ctx E RX6 cX6_skewers rm_X6_skewers 4 g) {rr : Int32} {wr : Wd} (hR : Rets E g (some .int) (some (.int rr)) wr) : ∀ (n : Nat) (x1 : Int32) (x2 : Int32) (x3 : Int32) (w : Wd), f_X6_skewers_l42 n x1 x2 x3 w = some (rr, wr) → Xx E 4 g 42 [(0, .ref (ad g 92)), (1, .int x1), (2, .int x2), (3, .int x3)] [] w := by
  intro n
  induction n with
  | zero =>
    intro x1 x2 x3 w hM
    rw [f_X6_skewers_l42] at hM
    cases hM
  | succ n ih =>
    intro x1 x2 x3 w hM
    rw [f_X6_skewers_l42] at hM
    exact o_X6_skewers_h42 C hR ih x1 x2 x3 w hM
set_option maxHeartbeats 1000000 in
set_option maxRecDepth 20000 in
theorem o_X6_skewers_b0 {E : Ex} {g : Gx} (C : Ctx E RX6 cX6_skewers rm_X6_skewers 4 g) {rr : Int32} {wr : Wd} (hR : Rets E g (some .int) (some (.int rr)) wr) (x1 : Int32) (w : Wd) (hM : f_X6_skewers_b0 x1 w = some (rr, wr)) : Xx E 4 g 0 [(0, .ref (ad g 92)), (1, .int x1)] [] w := by
  unfold f_X6_skewers_b0 at hM
  refine x_aload_n C dX6_skewers_0 0 rfl rfl ?_
  refine x_iload_n C dX6_skewers_1 1 rfl rfl ?_
  obtain ⟨r_2, w_1, h_3, hM⟩ := cl hM
  refine x_callV (As := [.int x1]) C (c_X6_isOne E.l g x1 w h_3) k_X6_isOne kd_92 (by decide) rfl rfl gw_859 rfl rfl ⟨Nat.le_of_ble_eq_true rfl, Nat.le_of_ble_eq_true rfl⟩ rfl rfl (Nat.le_of_ble_eq_true rfl) dX6_skewers_2 ?_
  refine x_if_ne (tgt := 10) C dX6_skewers_5 (by decide) (fun c_4 => ?_) (fun c_4 => ?_)
  · have hM := iq c_4 hM
    refine x_aload_n C dX6_skewers_10 0 rfl rfl ?_
    refine xg_6_7 C kd_92 gw_721 dX6_skewers_11 ?_
    refine x_iconst (v := 2) C dX6_skewers_14 (by decide) ?_
    refine x_iload_n C dX6_skewers_15 1 rfl rfl ?_
    refine x_iadd C dX6_skewers_16 ?_
    obtain ⟨q_5, hM⟩ := gd hM
    refine x_iald C kd_96 ln_96 q_5 rfl dX6_skewers_17 ?_
    refine x_bipush (v := -9) C dX6_skewers_18 (by decide) ?_
    refine x_icmp_ne (tgt := 26) C dX6_skewers_20 (by decide) (fun c_6 => ?_) (fun c_6 => ?_)
    · have hM := iq c_6 hM
      refine x_aload_n C dX6_skewers_26 0 rfl rfl ?_
      obtain ⟨r_8, w_7, h_9, hM⟩ := cl hM
      refine x_callVv (As := []) C (c_X6_remembers E.l g  w_1 h_9) k_X6_remembers kd_92 (by decide) rfl rfl gw_901 rfl rfl ⟨Nat.le_of_ble_eq_true rfl, Nat.le_of_ble_eq_true rfl⟩ rfl rfl (Nat.le_of_ble_eq_true rfl) dX6_skewers_27 ?_
      refine x_aload_n C dX6_skewers_30 0 rfl rfl ?_
      refine xg_6_7 C kd_92 gw_721 dX6_skewers_31 ?_
      refine x_bipush (v := 14) C dX6_skewers_34 (by decide) ?_
      refine x_iload_n C dX6_skewers_36 1 rfl rfl ?_
      refine x_iadd C dX6_skewers_37 ?_
      obtain ⟨q_10, hM⟩ := gd hM
      refine x_iald C kd_96 ln_96 q_10 rfl dX6_skewers_38 ?_
      obtain ⟨x2_11, e_12, hM⟩ := bd hM
      refine x_top e_12 ?_
      refine x_istore_n (L' := [(2, .int x2_11), (0, .ref (ad g 92)), (1, .int x1)]) C dX6_skewers_39 rfl (by decide) rfl ?_
      refine x_iconst (v := 0) C dX6_skewers_40 (by decide) ?_
      obtain ⟨x3_13, e_14, hM⟩ := bd hM
      refine x_top e_14 ?_
      refine x_istore_n (L' := [(3, .int x3_13), (2, .int x2_11), (0, .ref (ad g 92)), (1, .int x1)]) C dX6_skewers_41 rfl (by decide) rfl ?_
      refine x_sub (L' := [(0, .ref (ad g 92)), (1, .int x1), (2, .int x2_11), (3, .int x3_13)]) [2, 3, 1, 0] rfl ?_
      exact o_X6_skewers_l42 C hR 300 x1 x2_11 x3_13 w_7 hM
    · have hM := ip c_6 hM
      refine x_bipush (v := -2) C dX6_skewers_23 (by decide) ?_
      obtain ⟨rfl, rfl⟩ := rt hM
      exact x_iret C hR rfl dX6_skewers_25
  · have hM := ip c_4 hM
    refine x_iconst (v := -1) C dX6_skewers_8 (by decide) ?_
    obtain ⟨rfl, rfl⟩ := rt hM
    exact x_iret C hR rfl dX6_skewers_9
theorem c_X6_skewers (l : Launch) (g : Gx) (x1 : Int32) (w : Wd) {rr : Int32} {wr : Wd} (hM : f_X6_skewers x1 w = some (rr, wr)) : MetM l yX6_skewers cX6_skewers 4 (some .int) rm_X6_skewers g [.ref (ad g 92), .int x1] w (some (.int rr)) wr := by
  refine met_of (by decide) (Nat.le_of_ble_eq_true rfl) (fun E hl C hR => ?_)
  refine x_sub (L' := [(0, .ref (ad g 92)), (1, .int x1)]) [0, 1] rfl ?_
  exact o_X6_skewers_b0 C hR x1 w hM
abbrev rm_X6_dips : Room := { frames := 3, cells := 0, slots := 0, locals := 64 }
set_option maxHeartbeats 1000000 in
set_option maxRecDepth 20000 in
theorem o_X6_dips_h30 {E : Ex} {g : Gx} (C : Ctx E RX6 cX6_dips rm_X6_dips 3 g) {rr : Int32} {wr : Wd} (hR : Rets E g (some .int) (some (.int rr)) wr) {kh30 : (Int32 → Int32 → Wd → Option (Int32 × Wd))} (Hh30 : ∀ (x1 : Int32) (x2 : Int32) (w : Wd), kh30 x1 x2 w = some (rr, wr) → Xx E 3 g 30 [(0, .ref (ad g 92)), (1, .int x1), (2, .int x2)] [] w) (x1 : Int32) (x2 : Int32) (w : Wd) (hM : f_X6_dips_h30 kh30 x1 x2 w = some (rr, wr)) : Xx E 3 g 30 [(0, .ref (ad g 92)), (1, .int x1), (2, .int x2)] [] w := by
  unfold f_X6_dips_h30 at hM
  refine x_iload_n C dX6_dips_30 2 rfl rfl ?_
  refine x_aload_n C dX6_dips_31 0 rfl rfl ?_
  refine xg_6_0 C kd_92 gw_714 dX6_dips_32 ?_
  refine x_icmp_ge (tgt := 61) C dX6_dips_35 (by decide) (fun c_1 => ?_) (fun c_1 => ?_)
  · have hM := ip c_1 hM
    refine x_aload_n C dX6_dips_61 0 rfl rfl ?_
    refine xg_6_7 C kd_92 gw_721 dX6_dips_62 ?_
    refine x_bipush (v := 14) C dX6_dips_65 (by decide) ?_
    refine x_iload_n C dX6_dips_67 1 rfl rfl ?_
    refine x_iadd C dX6_dips_68 ?_
    refine x_iconst (v := 1) C dX6_dips_69 (by decide) ?_
    refine x_iload_n C dX6_dips_70 1 rfl rfl ?_
    refine x_ishl C dX6_dips_71 ?_
    obtain ⟨q_2, hM⟩ := gd hM
    obtain ⟨w_3, e_4, hM⟩ := bd hM
    refine x_iast C kd_96 ln_96 q_2 rfl dX6_dips_72 ?_
    refine x_w e_4 ?_
    refine x_aload_n C dX6_dips_73 0 rfl rfl ?_
    refine xg_6_7 C kd_92 gw_721 dX6_dips_74 ?_
    refine x_iconst (v := 2) C dX6_dips_77 (by decide) ?_
    refine x_iload_n C dX6_dips_78 1 rfl rfl ?_
    refine x_iadd C dX6_dips_79 ?_
    refine x_bipush (v := -9) C dX6_dips_80 (by decide) ?_
    obtain ⟨q_5, hM⟩ := gd hM
    obtain ⟨w_6, e_7, hM⟩ := bd hM
    refine x_iast C kd_96 ln_96 q_5 rfl dX6_dips_82 ?_
    refine x_w e_7 ?_
    refine x_aload_n C dX6_dips_83 0 rfl rfl ?_
    obtain ⟨r_9, w_8, h_10, hM⟩ := cl hM
    refine x_callV (As := []) C (c_X6_dry E.l g  w_6 h_10) k_X6_dry kd_92 (by decide) rfl rfl gw_905 rfl rfl ⟨Nat.le_of_ble_eq_true rfl, Nat.le_of_ble_eq_true rfl⟩ rfl rfl (Nat.le_of_ble_eq_true rfl) dX6_dips_84 ?_
    obtain ⟨r_12, w_11, h_13, hM⟩ := cl hM
    refine x_callS (As := [.int r_9]) C (c_X6_bits E.l g r_9 w_8 h_13) k_X6_bits gw_909 rfl rfl ⟨Nat.le_of_ble_eq_true rfl, Nat.le_of_ble_eq_true rfl⟩ rfl rfl (Nat.le_of_ble_eq_true rfl) dX6_dips_87 ?_
    obtain ⟨rfl, rfl⟩ := rt hM
    exact x_iret C hR rfl dX6_dips_90
  · have hM := iq c_1 hM
    refine x_aload_n C dX6_dips_38 0 rfl rfl ?_
    refine xg_6_7 C kd_92 gw_721 dX6_dips_39 ?_
    refine x_bipush (v := 14) C dX6_dips_42 (by decide) ?_
    refine x_iload_n C dX6_dips_44 2 rfl rfl ?_
    refine x_iadd C dX6_dips_45 ?_
    refine x_dup2 C dX6_dips_46 rfl rfl ?_
    obtain ⟨q_14, hM⟩ := gd hM
    refine x_iald C kd_96 ln_96 q_14 rfl dX6_dips_47 ?_
    refine x_iconst (v := 1) C dX6_dips_48 (by decide) ?_
    refine x_iload_n C dX6_dips_49 1 rfl rfl ?_
    refine x_ishl C dX6_dips_50 ?_
    refine x_iconst (v := -1) C dX6_dips_51 (by decide) ?_
    refine x_ixor C dX6_dips_52 ?_
    refine x_iand C dX6_dips_53 ?_
    obtain ⟨q_15, hM⟩ := gd hM
    obtain ⟨w_16, e_17, hM⟩ := bd hM
    refine x_iast C kd_96 ln_96 q_15 rfl dX6_dips_54 ?_
    refine x_w e_17 ?_
    obtain ⟨x2_18, e_19, hM⟩ := bd hM
    refine x_iinc (L' := [(2, .int x2_18), (0, .ref (ad g 92)), (1, .int x1)]) C dX6_dips_55 2 rfl (v := x2_18) (by rw [e_19]; first | rfl | decide) (by decide) rfl ?_
    refine x_goto (tgt := 30) C dX6_dips_58 (by decide) ?_
    refine x_sub (L' := [(0, .ref (ad g 92)), (1, .int x1), (2, .int x2_18)]) [1, 2, 0] rfl ?_
    exact Hh30 x1 x2_18 w_16 hM
theorem o_X6_dips_l30 {E : Ex} {g : Gx} (C : Ctx E RX6 cX6_dips rm_X6_dips 3 g) {rr : Int32} {wr : Wd} (hR : Rets E g (some .int) (some (.int rr)) wr) : ∀ (n : Nat) (x1 : Int32) (x2 : Int32) (w : Wd), f_X6_dips_l30 n x1 x2 w = some (rr, wr) → Xx E 3 g 30 [(0, .ref (ad g 92)), (1, .int x1), (2, .int x2)] [] w := by
  intro n
  induction n with
  | zero =>
    intro x1 x2 w hM
    rw [f_X6_dips_l30] at hM
    cases hM
  | succ n ih =>
    intro x1 x2 w hM
    rw [f_X6_dips_l30] at hM
    exact o_X6_dips_h30 C hR ih x1 x2 w hM
set_option maxHeartbeats 1000000 in
set_option maxRecDepth 20000 in
theorem o_X6_dips_b0 {E : Ex} {g : Gx} (C : Ctx E RX6 cX6_dips rm_X6_dips 3 g) {rr : Int32} {wr : Wd} (hR : Rets E g (some .int) (some (.int rr)) wr) (x1 : Int32) (w : Wd) (hM : f_X6_dips_b0 x1 w = some (rr, wr)) : Xx E 3 g 0 [(0, .ref (ad g 92)), (1, .int x1)] [] w := by
  unfold f_X6_dips_b0 at hM
  refine x_aload_n C dX6_dips_0 0 rfl rfl ?_
  refine x_iload_n C dX6_dips_1 1 rfl rfl ?_
  obtain ⟨r_2, w_1, h_3, hM⟩ := cl hM
  refine x_callV (As := [.int x1]) C (c_X6_isOne E.l g x1 w h_3) k_X6_isOne kd_92 (by decide) rfl rfl gw_859 rfl rfl ⟨Nat.le_of_ble_eq_true rfl, Nat.le_of_ble_eq_true rfl⟩ rfl rfl (Nat.le_of_ble_eq_true rfl) dX6_dips_2 ?_
  refine x_if_ne (tgt := 10) C dX6_dips_5 (by decide) (fun c_4 => ?_) (fun c_4 => ?_)
  · have hM := iq c_4 hM
    refine x_aload_n C dX6_dips_10 0 rfl rfl ?_
    refine xg_6_7 C kd_92 gw_721 dX6_dips_11 ?_
    refine x_iconst (v := 2) C dX6_dips_14 (by decide) ?_
    refine x_iload_n C dX6_dips_15 1 rfl rfl ?_
    refine x_iadd C dX6_dips_16 ?_
    obtain ⟨q_5, hM⟩ := gd hM
    refine x_iald C kd_96 ln_96 q_5 rfl dX6_dips_17 ?_
    refine x_if_eq (tgt := 24) C dX6_dips_18 (by decide) (fun c_6 => ?_) (fun c_6 => ?_)
    · have hM := ip c_6 hM
      refine x_aload_n C dX6_dips_24 0 rfl rfl ?_
      obtain ⟨r_8, w_7, h_9, hM⟩ := cl hM
      refine x_callVv (As := []) C (c_X6_remembers E.l g  w_1 h_9) k_X6_remembers kd_92 (by decide) rfl rfl gw_901 rfl rfl ⟨Nat.le_of_ble_eq_true rfl, Nat.le_of_ble_eq_true rfl⟩ rfl rfl (Nat.le_of_ble_eq_true rfl) dX6_dips_25 ?_
      refine x_iconst (v := 0) C dX6_dips_28 (by decide) ?_
      obtain ⟨x2_10, e_11, hM⟩ := bd hM
      refine x_top e_11 ?_
      refine x_istore_n (L' := [(2, .int x2_10), (0, .ref (ad g 92)), (1, .int x1)]) C dX6_dips_29 rfl (by decide) rfl ?_
      refine x_sub (L' := [(0, .ref (ad g 92)), (1, .int x1), (2, .int x2_10)]) [1, 2, 0] rfl ?_
      exact o_X6_dips_l30 C hR 300 x1 x2_10 w_7 hM
    · have hM := iq c_6 hM
      refine x_bipush (v := -2) C dX6_dips_21 (by decide) ?_
      obtain ⟨rfl, rfl⟩ := rt hM
      exact x_iret C hR rfl dX6_dips_23
  · have hM := ip c_4 hM
    refine x_iconst (v := -1) C dX6_dips_8 (by decide) ?_
    obtain ⟨rfl, rfl⟩ := rt hM
    exact x_iret C hR rfl dX6_dips_9
theorem c_X6_dips (l : Launch) (g : Gx) (x1 : Int32) (w : Wd) {rr : Int32} {wr : Wd} (hM : f_X6_dips x1 w = some (rr, wr)) : MetM l yX6_dips cX6_dips 3 (some .int) rm_X6_dips g [.ref (ad g 92), .int x1] w (some (.int rr)) wr := by
  refine met_of (by decide) (Nat.le_of_ble_eq_true rfl) (fun E hl C hR => ?_)
  refine x_sub (L' := [(0, .ref (ad g 92)), (1, .int x1)]) [0, 1] rfl ?_
  exact o_X6_dips_b0 C hR x1 w hM
abbrev rm_X6_undo : Room := { frames := 1, cells := 0, slots := 0, locals := 24 }
set_option maxHeartbeats 1000000 in
set_option maxRecDepth 20000 in
theorem o_X6_undo_b0 {E : Ex} {g : Gx} (C : Ctx E RX6 cX6_undo rm_X6_undo 1 g) {rr : Int32} {wr : Wd} (hR : Rets E g (some .int) (some (.int rr)) wr) (w : Wd) (hM : f_X6_undo_b0 w = some (rr, wr)) : Xx E 1 g 0 [(0, .ref (ad g 92))] [] w := by
  unfold f_X6_undo_b0 at hM
  refine x_aload_n C dX6_undo_0 0 rfl rfl ?_
  refine xg_6_9 C kd_92 gw_723 dX6_undo_1 ?_
  refine x_if_ne (tgt := 10) C dX6_undo_4 (by decide) (fun c_1 => ?_) (fun c_1 => ?_)
  · have hM := iq c_1 hM
    refine x_aload_n C dX6_undo_10 0 rfl rfl ?_
    refine x_dup C dX6_undo_11 rfl ?_
    refine xg_6_9 C kd_92 gw_723 dX6_undo_12 ?_
    refine x_iconst (v := 1) C dX6_undo_15 (by decide) ?_
    refine x_isub C dX6_undo_16 ?_
    obtain ⟨w_2, e_3, hM⟩ := bd hM
    refine xp_6_9 C kd_92 gw_723 dX6_undo_17 ?_
    refine x_w e_3 ?_
    refine x_aload_n C dX6_undo_20 0 rfl rfl ?_
    refine xg_6_7 C kd_92 gw_721 dX6_undo_21 ?_
    refine x_iconst (v := 0) C dX6_undo_24 (by decide) ?_
    refine x_aload_n C dX6_undo_25 0 rfl rfl ?_
    refine xg_6_8 C kd_92 gw_722 dX6_undo_26 ?_
    refine x_bipush (v := 26) C dX6_undo_29 (by decide) ?_
    refine x_aload_n C dX6_undo_31 0 rfl rfl ?_
    refine xg_6_9 C kd_92 gw_723 dX6_undo_32 ?_
    refine x_imul C dX6_undo_35 ?_
    obtain ⟨r_5, w_4, h_6, hM⟩ := cl hM
    refine x_callSv (As := [.ref (ad g 96), .int (0 : Int32), .ref (ad g 97), .int ((26 : Int32) * (wget w_2 92 9))]) C (c_X6_copy E.l g 96 97 (0 : Int32) ((26 : Int32) * (wget w_2 92 9)) kd_96 kd_97 w_2 h_6) k_X6_copy gw_871 rfl rfl ⟨Nat.le_of_ble_eq_true rfl, Nat.le_of_ble_eq_true rfl⟩ rfl rfl (Nat.le_of_ble_eq_true rfl) dX6_undo_36 ?_
    refine x_aload_n C dX6_undo_39 0 rfl rfl ?_
    refine xg_6_9 C kd_92 gw_723 dX6_undo_40 ?_
    obtain ⟨rfl, rfl⟩ := rt hM
    exact x_iret C hR rfl dX6_undo_43
  · have hM := ip c_1 hM
    refine x_bipush (v := -2) C dX6_undo_7 (by decide) ?_
    obtain ⟨rfl, rfl⟩ := rt hM
    exact x_iret C hR rfl dX6_undo_9
theorem c_X6_undo (l : Launch) (g : Gx) (w : Wd) {rr : Int32} {wr : Wd} (hM : f_X6_undo w = some (rr, wr)) : MetM l yX6_undo cX6_undo 1 (some .int) rm_X6_undo g [.ref (ad g 92)] w (some (.int rr)) wr := by
  refine met_of (by decide) (Nat.le_of_ble_eq_true rfl) (fun E hl C hR => ?_)
  refine x_sub (L' := [(0, .ref (ad g 92))]) [0] rfl ?_
  exact o_X6_undo_b0 C hR w hM
abbrev rm_X6_deep : Room := { frames := 4, cells := 0, slots := 0, locals := 88 }
set_option maxHeartbeats 1000000 in
set_option maxRecDepth 20000 in
theorem o_X6_deep_h26 {E : Ex} {g : Gx} (C : Ctx E RX6 cX6_deep rm_X6_deep 4 g) {rr : Int32} {wr : Wd} (hR : Rets E g (some .int) (some (.int rr)) wr) {kh26 : (Int32 → Int32 → Int32 → Wd → Option (Int32 × Wd))} (Hh26 : ∀ (x1 : Int32) (x2 : Int32) (x3 : Int32) (w : Wd), kh26 x1 x2 x3 w = some (rr, wr) → Xx E 4 g 26 [(0, .ref (ad g 92)), (1, .int x1), (2, .int x2), (3, .int x3)] [] w) (x1 : Int32) (x2 : Int32) (x3 : Int32) (w : Wd) (hM : f_X6_deep_h26 kh26 x1 x2 x3 w = some (rr, wr)) : Xx E 4 g 26 [(0, .ref (ad g 92)), (1, .int x1), (2, .int x2), (3, .int x3)] [] w := by
  unfold f_X6_deep_h26 at hM
  refine x_iload_n C dX6_deep_26 3 rfl rfl ?_
  refine x_iload_n C dX6_deep_27 2 rfl rfl ?_
  refine x_icmp_ge (tgt := 41) C dX6_deep_28 (by decide) (fun c_1 => ?_) (fun c_1 => ?_)
  · have hM := ip c_1 hM
    refine x_aload_n C dX6_deep_41 0 rfl rfl ?_
    refine xg_6_28 C kd_92 gw_742 dX6_deep_42 ?_
    refine x_iconst (v := 2) C dX6_deep_45 (by decide) ?_
    refine x_iload_n C dX6_deep_46 1 rfl rfl ?_
    refine x_iadd C dX6_deep_47 ?_
    obtain ⟨q_2, hM⟩ := gd hM
    refine x_iald C kd_103 ln_103 q_2 rfl dX6_deep_48 ?_
    obtain ⟨rfl, rfl⟩ := rt hM
    exact x_iret C hR rfl dX6_deep_49
  · have hM := iq c_1 hM
    refine x_aload_n C dX6_deep_31 0 rfl rfl ?_
    obtain ⟨r_4, w_3, h_5, hM⟩ := cl hM
    refine x_callVv (As := []) C (c_X6_goesBy E.l g  w h_5) k_X6_goesBy kd_92 (by decide) rfl rfl gw_916 rfl rfl ⟨Nat.le_of_ble_eq_true rfl, Nat.le_of_ble_eq_true rfl⟩ rfl rfl (Nat.le_of_ble_eq_true rfl) dX6_deep_32 ?_
    obtain ⟨x3_6, e_7, hM⟩ := bd hM
    refine x_iinc (L' := [(3, .int x3_6), (0, .ref (ad g 92)), (1, .int x1), (2, .int x2)]) C dX6_deep_35 3 rfl (v := x3_6) (by rw [e_7]; first | rfl | decide) (by decide) rfl ?_
    refine x_goto (tgt := 26) C dX6_deep_38 (by decide) ?_
    refine x_sub (L' := [(0, .ref (ad g 92)), (1, .int x1), (2, .int x2), (3, .int x3_6)]) [1, 2, 3, 0] rfl ?_
    exact Hh26 x1 x2 x3_6 w_3 hM
theorem o_X6_deep_l26 {E : Ex} {g : Gx} (C : Ctx E RX6 cX6_deep rm_X6_deep 4 g) {rr : Int32} {wr : Wd} (hR : Rets E g (some .int) (some (.int rr)) wr) : ∀ (n : Nat) (x1 : Int32) (x2 : Int32) (x3 : Int32) (w : Wd), f_X6_deep_l26 n x1 x2 x3 w = some (rr, wr) → Xx E 4 g 26 [(0, .ref (ad g 92)), (1, .int x1), (2, .int x2), (3, .int x3)] [] w := by
  intro n
  induction n with
  | zero =>
    intro x1 x2 x3 w hM
    rw [f_X6_deep_l26] at hM
    cases hM
  | succ n ih =>
    intro x1 x2 x3 w hM
    rw [f_X6_deep_l26] at hM
    exact o_X6_deep_h26 C hR ih x1 x2 x3 w hM
set_option maxHeartbeats 1000000 in
set_option maxRecDepth 20000 in
theorem o_X6_deep_b0 {E : Ex} {g : Gx} (C : Ctx E RX6 cX6_deep rm_X6_deep 4 g) {rr : Int32} {wr : Wd} (hR : Rets E g (some .int) (some (.int rr)) wr) (x1 : Int32) (x2 : Int32) (w : Wd) (hM : f_X6_deep_b0 x1 x2 w = some (rr, wr)) : Xx E 4 g 0 [(0, .ref (ad g 92)), (1, .int x1), (2, .int x2)] [] w := by
  unfold f_X6_deep_b0 at hM
  refine x_aload_n C dX6_deep_0 0 rfl rfl ?_
  refine x_iload_n C dX6_deep_1 1 rfl rfl ?_
  obtain ⟨r_2, w_1, h_3, hM⟩ := cl hM
  refine x_callV (As := [.int x1]) C (c_X6_isOne E.l g x1 w h_3) k_X6_isOne kd_92 (by decide) rfl rfl gw_859 rfl rfl ⟨Nat.le_of_ble_eq_true rfl, Nat.le_of_ble_eq_true rfl⟩ rfl rfl (Nat.le_of_ble_eq_true rfl) dX6_deep_2 ?_
  refine x_if_eq (tgt := 18) C dX6_deep_5 (by decide) (fun c_4 => ?_) (fun c_4 => ?_)
  · have hM := ip c_4 hM
    refine x_iconst (v := -1) C dX6_deep_18 (by decide) ?_
    obtain ⟨rfl, rfl⟩ := rt hM
    exact x_iret C hR rfl dX6_deep_19
  · have hM := iq c_4 hM
    refine x_iload_n C dX6_deep_8 2 rfl rfl ?_
    refine x_iconst (v := 0) C dX6_deep_9 (by decide) ?_
    refine x_bipush (v := 40) C dX6_deep_10 (by decide) ?_
    obtain ⟨r_6, w_5, h_7, hM⟩ := cl hM
    refine x_callS (As := [.int x2, .int (0 : Int32), .int (40 : Int32)]) C (c_X6_in E.l g x2 (0 : Int32) (40 : Int32) w_1 h_7) k_X6_in gw_813 rfl rfl ⟨Nat.le_of_ble_eq_true rfl, Nat.le_of_ble_eq_true rfl⟩ rfl rfl (Nat.le_of_ble_eq_true rfl) dX6_deep_12 ?_
    refine x_if_ne (tgt := 20) C dX6_deep_15 (by decide) (fun c_8 => ?_) (fun c_8 => ?_)
    · have hM := iq c_8 hM
      refine x_aload_n C dX6_deep_20 0 rfl rfl ?_
      obtain ⟨r_10, w_9, h_11, hM⟩ := cl hM
      refine x_callVv (As := []) C (c_X6_asItIs E.l g  w_5 h_11) k_X6_asItIs kd_92 (by decide) rfl rfl gw_867 rfl rfl ⟨Nat.le_of_ble_eq_true rfl, Nat.le_of_ble_eq_true rfl⟩ rfl rfl (Nat.le_of_ble_eq_true rfl) dX6_deep_21 ?_
      refine x_iconst (v := 0) C dX6_deep_24 (by decide) ?_
      obtain ⟨x3_12, e_13, hM⟩ := bd hM
      refine x_top e_13 ?_
      refine x_istore_n (L' := [(3, .int x3_12), (0, .ref (ad g 92)), (1, .int x1), (2, .int x2)]) C dX6_deep_25 rfl (by decide) rfl ?_
      refine x_sub (L' := [(0, .ref (ad g 92)), (1, .int x1), (2, .int x2), (3, .int x3_12)]) [1, 2, 3, 0] rfl ?_
      exact o_X6_deep_l26 C hR 300 x1 x2 x3_12 w_9 hM
    · have hM := ip c_8 hM
      refine x_iconst (v := -1) C dX6_deep_18 (by decide) ?_
      obtain ⟨rfl, rfl⟩ := rt hM
      exact x_iret C hR rfl dX6_deep_19
theorem c_X6_deep (l : Launch) (g : Gx) (x1 : Int32) (x2 : Int32) (w : Wd) {rr : Int32} {wr : Wd} (hM : f_X6_deep x1 x2 w = some (rr, wr)) : MetM l yX6_deep cX6_deep 4 (some .int) rm_X6_deep g [.ref (ad g 92), .int x1, .int x2] w (some (.int rr)) wr := by
  refine met_of (by decide) (Nat.le_of_ble_eq_true rfl) (fun E hl C hR => ?_)
  refine x_sub (L' := [(0, .ref (ad g 92)), (1, .int x1), (2, .int x2)]) [0, 1, 2] rfl ?_
  exact o_X6_deep_b0 C hR x1 x2 w hM
abbrev rm_X6_topped : Room := { frames := 4, cells := 0, slots := 0, locals := 88 }
set_option maxHeartbeats 1000000 in
set_option maxRecDepth 20000 in
theorem o_X6_topped_h2 {E : Ex} {g : Gx} (C : Ctx E RX6 cX6_topped rm_X6_topped 4 g) {rr : Int32} {wr : Wd} (hR : Rets E g (some .int) (some (.int rr)) wr) {kh2 : (Int32 → Int32 → Int32 → Wd → Option (Int32 × Wd))} (Hh2 : ∀ (x1 : Int32) (x2 : Int32) (x3 : Int32) (w : Wd), kh2 x1 x2 x3 w = some (rr, wr) → Xx E 4 g 2 [(0, .ref (ad g 92)), (1, .int x1), (2, .int x2), (3, .int x3)] [] w) (x1 : Int32) (x2 : Int32) (x3 : Int32) (w : Wd) (hM : f_X6_topped_h2 kh2 x1 x2 x3 w = some (rr, wr)) : Xx E 4 g 2 [(0, .ref (ad g 92)), (1, .int x1), (2, .int x2), (3, .int x3)] [] w := by
  unfold f_X6_topped_h2 at hM
  refine x_iload_n C dX6_topped_2 3 rfl rfl ?_
  refine x_iload_n C dX6_topped_3 2 rfl rfl ?_
  refine x_icmp_gt (tgt := 30) C dX6_topped_4 (by decide) (fun c_1 => ?_) (fun c_1 => ?_)
  · have hM := ip c_1 hM
    refine x_bipush (v := -9) C dX6_topped_30 (by decide) ?_
    obtain ⟨rfl, rfl⟩ := rt hM
    exact x_iret C hR rfl dX6_topped_32
  · have hM := iq c_1 hM
    refine x_aload_n C dX6_topped_7 0 rfl rfl ?_
    refine xg_6_28 C kd_92 gw_742 dX6_topped_8 ?_
    refine x_iconst (v := 2) C dX6_topped_11 (by decide) ?_
    refine x_iload_n C dX6_topped_12 1 rfl rfl ?_
    refine x_iadd C dX6_topped_13 ?_
    obtain ⟨q_2, hM⟩ := gd hM
    refine x_iald C kd_103 ln_103 q_2 rfl dX6_topped_14 ?_
    refine x_if_ne (tgt := 20) C dX6_topped_15 (by decide) (fun c_3 => ?_) (fun c_3 => ?_)
    · have hM := iq c_3 hM
      refine x_aload_n C dX6_topped_20 0 rfl rfl ?_
      obtain ⟨r_5, w_4, h_6, hM⟩ := cl hM
      refine x_callVv (As := []) C (c_X6_goesBy E.l g  w h_6) k_X6_goesBy kd_92 (by decide) rfl rfl gw_916 rfl rfl ⟨Nat.le_of_ble_eq_true rfl, Nat.le_of_ble_eq_true rfl⟩ rfl rfl (Nat.le_of_ble_eq_true rfl) dX6_topped_21 ?_
      obtain ⟨x3_7, e_8, hM⟩ := bd hM
      refine x_iinc (L' := [(3, .int x3_7), (0, .ref (ad g 92)), (1, .int x1), (2, .int x2)]) C dX6_topped_24 3 rfl (v := x3_7) (by rw [e_8]; first | rfl | decide) (by decide) rfl ?_
      refine x_goto (tgt := 2) C dX6_topped_27 (by decide) ?_
      refine x_sub (L' := [(0, .ref (ad g 92)), (1, .int x1), (2, .int x2), (3, .int x3_7)]) [1, 2, 3, 0] rfl ?_
      exact Hh2 x1 x2 x3_7 w_4 hM
    · have hM := ip c_3 hM
      refine x_iload_n C dX6_topped_18 3 rfl rfl ?_
      obtain ⟨rfl, rfl⟩ := rt hM
      exact x_iret C hR rfl dX6_topped_19
theorem o_X6_topped_l2 {E : Ex} {g : Gx} (C : Ctx E RX6 cX6_topped rm_X6_topped 4 g) {rr : Int32} {wr : Wd} (hR : Rets E g (some .int) (some (.int rr)) wr) : ∀ (n : Nat) (x1 : Int32) (x2 : Int32) (x3 : Int32) (w : Wd), f_X6_topped_l2 n x1 x2 x3 w = some (rr, wr) → Xx E 4 g 2 [(0, .ref (ad g 92)), (1, .int x1), (2, .int x2), (3, .int x3)] [] w := by
  intro n
  induction n with
  | zero =>
    intro x1 x2 x3 w hM
    rw [f_X6_topped_l2] at hM
    cases hM
  | succ n ih =>
    intro x1 x2 x3 w hM
    rw [f_X6_topped_l2] at hM
    exact o_X6_topped_h2 C hR ih x1 x2 x3 w hM
set_option maxHeartbeats 1000000 in
set_option maxRecDepth 20000 in
theorem o_X6_topped_b0 {E : Ex} {g : Gx} (C : Ctx E RX6 cX6_topped rm_X6_topped 4 g) {rr : Int32} {wr : Wd} (hR : Rets E g (some .int) (some (.int rr)) wr) (x1 : Int32) (x2 : Int32) (w : Wd) (hM : f_X6_topped_b0 x1 x2 w = some (rr, wr)) : Xx E 4 g 0 [(0, .ref (ad g 92)), (1, .int x1), (2, .int x2)] [] w := by
  unfold f_X6_topped_b0 at hM
  refine x_iconst (v := 0) C dX6_topped_0 (by decide) ?_
  obtain ⟨x3_1, e_2, hM⟩ := bd hM
  refine x_top e_2 ?_
  refine x_istore_n (L' := [(3, .int x3_1), (0, .ref (ad g 92)), (1, .int x1), (2, .int x2)]) C dX6_topped_1 rfl (by decide) rfl ?_
  refine x_sub (L' := [(0, .ref (ad g 92)), (1, .int x1), (2, .int x2), (3, .int x3_1)]) [1, 2, 3, 0] rfl ?_
  exact o_X6_topped_l2 C hR 300 x1 x2 x3_1 w hM
theorem c_X6_topped (l : Launch) (g : Gx) (x1 : Int32) (x2 : Int32) (w : Wd) {rr : Int32} {wr : Wd} (hM : f_X6_topped x1 x2 w = some (rr, wr)) : MetM l yX6_topped cX6_topped 4 (some .int) rm_X6_topped g [.ref (ad g 92), .int x1, .int x2] w (some (.int rr)) wr := by
  refine met_of (by decide) (Nat.le_of_ble_eq_true rfl) (fun E hl C hR => ?_)
  refine x_sub (L' := [(0, .ref (ad g 92)), (1, .int x1), (2, .int x2)]) [0, 1, 2] rfl ?_
  exact o_X6_topped_b0 C hR x1 x2 w hM
abbrev rm_X6_when : Room := { frames := 5, cells := 0, slots := 0, locals := 111 }
set_option maxHeartbeats 1000000 in
set_option maxRecDepth 20000 in
theorem o_X6_when_b0 {E : Ex} {g : Gx} (C : Ctx E RX6 cX6_when rm_X6_when 2 g) {rr : Int32} {wr : Wd} (hR : Rets E g (some .int) (some (.int rr)) wr) (x1 : Int32) (w : Wd) (hM : f_X6_when_b0 x1 w = some (rr, wr)) : Xx E 2 g 0 [(0, .ref (ad g 92)), (1, .int x1)] [] w := by
  unfold f_X6_when_b0 at hM
  refine x_aload_n C dX6_when_0 0 rfl rfl ?_
  refine x_iload_n C dX6_when_1 1 rfl rfl ?_
  obtain ⟨r_2, w_1, h_3, hM⟩ := cl hM
  refine x_callV (As := [.int x1]) C (c_X6_isOne E.l g x1 w h_3) k_X6_isOne kd_92 (by decide) rfl rfl gw_859 rfl rfl ⟨Nat.le_of_ble_eq_true rfl, Nat.le_of_ble_eq_true rfl⟩ rfl rfl (Nat.le_of_ble_eq_true rfl) dX6_when_2 ?_
  refine x_if_ne (tgt := 10) C dX6_when_5 (by decide) (fun c_4 => ?_) (fun c_4 => ?_)
  · have hM := iq c_4 hM
    refine x_aload_n C dX6_when_10 0 rfl rfl ?_
    refine xg_6_7 C kd_92 gw_721 dX6_when_11 ?_
    refine x_iconst (v := 2) C dX6_when_14 (by decide) ?_
    refine x_iload_n C dX6_when_15 1 rfl rfl ?_
    refine x_iadd C dX6_when_16 ?_
    obtain ⟨q_5, hM⟩ := gd hM
    refine x_iald C kd_96 ln_96 q_5 rfl dX6_when_17 ?_
    refine x_bipush (v := -9) C dX6_when_18 (by decide) ?_
    refine x_icmp_ne (tgt := 26) C dX6_when_20 (by decide) (fun c_6 => ?_) (fun c_6 => ?_)
    · have hM := iq c_6 hM
      refine x_aload_n C dX6_when_26 0 rfl rfl ?_
      obtain ⟨r_8, w_7, h_9, hM⟩ := cl hM
      refine x_callVv (As := []) C (c_X6_asItIs E.l g  w_1 h_9) k_X6_asItIs kd_92 (by decide) rfl rfl gw_867 rfl rfl ⟨Nat.le_of_ble_eq_true rfl, Nat.le_of_ble_eq_true rfl⟩ rfl rfl (Nat.le_of_ble_eq_true rfl) dX6_when_27 ?_
      refine x_aload_n C dX6_when_30 0 rfl rfl ?_
      refine x_iload_n C dX6_when_31 1 rfl rfl ?_
      refine x_bipush (v := 40) C dX6_when_32 (by decide) ?_
      obtain ⟨r_11, w_10, h_12, hM⟩ := cl hM
      refine x_callV (As := [.int x1, .int (40 : Int32)]) C (c_X6_topped E.l g x1 (40 : Int32) w_7 h_12) k_X6_topped kd_92 (by decide) rfl rfl gw_964 rfl rfl ⟨Nat.le_of_ble_eq_true rfl, Nat.le_of_ble_eq_true rfl⟩ rfl rfl (Nat.le_of_ble_eq_true rfl) dX6_when_34 ?_
      obtain ⟨rfl, rfl⟩ := rt hM
      exact x_iret C hR rfl dX6_when_37
    · have hM := ip c_6 hM
      refine x_bipush (v := -2) C dX6_when_23 (by decide) ?_
      obtain ⟨rfl, rfl⟩ := rt hM
      exact x_iret C hR rfl dX6_when_25
  · have hM := ip c_4 hM
    refine x_iconst (v := -1) C dX6_when_8 (by decide) ?_
    obtain ⟨rfl, rfl⟩ := rt hM
    exact x_iret C hR rfl dX6_when_9
theorem c_X6_when (l : Launch) (g : Gx) (x1 : Int32) (w : Wd) {rr : Int32} {wr : Wd} (hM : f_X6_when x1 w = some (rr, wr)) : MetM l yX6_when cX6_when 2 (some .int) rm_X6_when g [.ref (ad g 92), .int x1] w (some (.int rr)) wr := by
  refine met_of (by decide) (Nat.le_of_ble_eq_true rfl) (fun E hl C hR => ?_)
  refine x_sub (L' := [(0, .ref (ad g 92)), (1, .int x1)]) [0, 1] rfl ?_
  exact o_X6_when_b0 C hR x1 w hM
abbrev rm_X6_warm : Room := { frames := 5, cells := 0, slots := 0, locals := 111 }
set_option maxHeartbeats 1000000 in
set_option maxRecDepth 20000 in
theorem o_X6_warm_h38 {E : Ex} {g : Gx} (C : Ctx E RX6 cX6_warm rm_X6_warm 4 g) {rr : Int32} {wr : Wd} (hR : Rets E g (some .int) (some (.int rr)) wr) {kh38 : (Int32 → Int32 → Int32 → Wd → Option (Int32 × Wd))} (Hh38 : ∀ (x1 : Int32) (x2 : Int32) (x3 : Int32) (w : Wd), kh38 x1 x2 x3 w = some (rr, wr) → Xx E 4 g 38 [(0, .ref (ad g 92)), (1, .int x1), (2, .int x2), (3, .int x3)] [] w) (x1 : Int32) (x2 : Int32) (x3 : Int32) (w : Wd) (hM : f_X6_warm_h38 kh38 x1 x2 x3 w = some (rr, wr)) : Xx E 4 g 38 [(0, .ref (ad g 92)), (1, .int x1), (2, .int x2), (3, .int x3)] [] w := by
  unfold f_X6_warm_h38 at hM
  refine x_iload_n C dX6_warm_38 3 rfl rfl ?_
  refine x_bipush (v := 9) C dX6_warm_39 (by decide) ?_
  refine x_icmp_gt (tgt := 74) C dX6_warm_41 (by decide) (fun c_1 => ?_) (fun c_1 => ?_)
  · have hM := ip c_1 hM
    refine x_bipush (v := -9) C dX6_warm_74 (by decide) ?_
    obtain ⟨rfl, rfl⟩ := rt hM
    exact x_iret C hR rfl dX6_warm_76
  · have hM := iq c_1 hM
    refine x_aload_n C dX6_warm_44 0 rfl rfl ?_
    obtain ⟨r_3, w_2, h_4, hM⟩ := cl hM
    refine x_callVv (As := []) C (c_X6_asItIs E.l g  w h_4) k_X6_asItIs kd_92 (by decide) rfl rfl gw_867 rfl rfl ⟨Nat.le_of_ble_eq_true rfl, Nat.le_of_ble_eq_true rfl⟩ rfl rfl (Nat.le_of_ble_eq_true rfl) dX6_warm_45 ?_
    refine x_aload_n C dX6_warm_48 0 rfl rfl ?_
    refine xg_6_28 C kd_92 gw_742 dX6_warm_49 ?_
    refine x_iconst (v := 1) C dX6_warm_52 (by decide) ?_
    refine x_iload_n C dX6_warm_53 3 rfl rfl ?_
    obtain ⟨w_5, e_6, hM⟩ := bd hM
    refine x_iast C kd_103 ln_103 (by decide) (j := 1) (by decide) dX6_warm_54 ?_
    refine x_w e_6 ?_
    refine x_aload_n C dX6_warm_55 0 rfl rfl ?_
    refine x_iload_n C dX6_warm_56 1 rfl rfl ?_
    refine x_iload_n C dX6_warm_57 2 rfl rfl ?_
    obtain ⟨r_8, w_7, h_9, hM⟩ := cl hM
    refine x_callV (As := [.int x1, .int x2]) C (c_X6_topped E.l g x1 x2 w_5 h_9) k_X6_topped kd_92 (by decide) rfl rfl gw_964 rfl rfl ⟨Nat.le_of_ble_eq_true rfl, Nat.le_of_ble_eq_true rfl⟩ rfl rfl (Nat.le_of_ble_eq_true rfl) dX6_warm_58 ?_
    refine x_bipush (v := -9) C dX6_warm_61 (by decide) ?_
    refine x_icmp_eq (tgt := 68) C dX6_warm_63 (by decide) (fun c_10 => ?_) (fun c_10 => ?_)
    · have hM := ip c_10 hM
      obtain ⟨x3_11, e_12, hM⟩ := bd hM
      refine x_iinc (L' := [(3, .int x3_11), (0, .ref (ad g 92)), (1, .int x1), (2, .int x2)]) C dX6_warm_68 3 rfl (v := x3_11) (by rw [e_12]; first | rfl | decide) (by decide) rfl ?_
      refine x_goto (tgt := 38) C dX6_warm_71 (by decide) ?_
      refine x_sub (L' := [(0, .ref (ad g 92)), (1, .int x1), (2, .int x2), (3, .int x3_11)]) [1, 2, 3, 0] rfl ?_
      exact Hh38 x1 x2 x3_11 w_7 hM
    · have hM := iq c_10 hM
      refine x_iload_n C dX6_warm_66 3 rfl rfl ?_
      obtain ⟨rfl, rfl⟩ := rt hM
      exact x_iret C hR rfl dX6_warm_67
theorem o_X6_warm_l38 {E : Ex} {g : Gx} (C : Ctx E RX6 cX6_warm rm_X6_warm 4 g) {rr : Int32} {wr : Wd} (hR : Rets E g (some .int) (some (.int rr)) wr) : ∀ (n : Nat) (x1 : Int32) (x2 : Int32) (x3 : Int32) (w : Wd), f_X6_warm_l38 n x1 x2 x3 w = some (rr, wr) → Xx E 4 g 38 [(0, .ref (ad g 92)), (1, .int x1), (2, .int x2), (3, .int x3)] [] w := by
  intro n
  induction n with
  | zero =>
    intro x1 x2 x3 w hM
    rw [f_X6_warm_l38] at hM
    cases hM
  | succ n ih =>
    intro x1 x2 x3 w hM
    rw [f_X6_warm_l38] at hM
    exact o_X6_warm_h38 C hR ih x1 x2 x3 w hM
set_option maxHeartbeats 1000000 in
set_option maxRecDepth 20000 in
theorem o_X6_warm_b0 {E : Ex} {g : Gx} (C : Ctx E RX6 cX6_warm rm_X6_warm 4 g) {rr : Int32} {wr : Wd} (hR : Rets E g (some .int) (some (.int rr)) wr) (x1 : Int32) (x2 : Int32) (w : Wd) (hM : f_X6_warm_b0 x1 x2 w = some (rr, wr)) : Xx E 4 g 0 [(0, .ref (ad g 92)), (1, .int x1), (2, .int x2)] [] w := by
  unfold f_X6_warm_b0 at hM
  refine x_aload_n C dX6_warm_0 0 rfl rfl ?_
  refine x_iload_n C dX6_warm_1 1 rfl rfl ?_
  obtain ⟨r_2, w_1, h_3, hM⟩ := cl hM
  refine x_callV (As := [.int x1]) C (c_X6_isOne E.l g x1 w h_3) k_X6_isOne kd_92 (by decide) rfl rfl gw_859 rfl rfl ⟨Nat.le_of_ble_eq_true rfl, Nat.le_of_ble_eq_true rfl⟩ rfl rfl (Nat.le_of_ble_eq_true rfl) dX6_warm_2 ?_
  refine x_if_eq (tgt := 18) C dX6_warm_5 (by decide) (fun c_4 => ?_) (fun c_4 => ?_)
  · have hM := ip c_4 hM
    refine x_iconst (v := -1) C dX6_warm_18 (by decide) ?_
    obtain ⟨rfl, rfl⟩ := rt hM
    exact x_iret C hR rfl dX6_warm_19
  · have hM := iq c_4 hM
    refine x_iload_n C dX6_warm_8 2 rfl rfl ?_
    refine x_iconst (v := 1) C dX6_warm_9 (by decide) ?_
    refine x_bipush (v := 40) C dX6_warm_10 (by decide) ?_
    obtain ⟨r_6, w_5, h_7, hM⟩ := cl hM
    refine x_callS (As := [.int x2, .int (1 : Int32), .int (40 : Int32)]) C (c_X6_in E.l g x2 (1 : Int32) (40 : Int32) w_1 h_7) k_X6_in gw_813 rfl rfl ⟨Nat.le_of_ble_eq_true rfl, Nat.le_of_ble_eq_true rfl⟩ rfl rfl (Nat.le_of_ble_eq_true rfl) dX6_warm_12 ?_
    refine x_if_ne (tgt := 20) C dX6_warm_15 (by decide) (fun c_8 => ?_) (fun c_8 => ?_)
    · have hM := iq c_8 hM
      refine x_aload_n C dX6_warm_20 0 rfl rfl ?_
      refine xg_6_7 C kd_92 gw_721 dX6_warm_21 ?_
      refine x_iconst (v := 2) C dX6_warm_24 (by decide) ?_
      refine x_iload_n C dX6_warm_25 1 rfl rfl ?_
      refine x_iadd C dX6_warm_26 ?_
      obtain ⟨q_9, hM⟩ := gd hM
      refine x_iald C kd_96 ln_96 q_9 rfl dX6_warm_27 ?_
      refine x_bipush (v := -9) C dX6_warm_28 (by decide) ?_
      refine x_icmp_ne (tgt := 36) C dX6_warm_30 (by decide) (fun c_10 => ?_) (fun c_10 => ?_)
      · have hM := iq c_10 hM
        refine x_iconst (v := 0) C dX6_warm_36 (by decide) ?_
        obtain ⟨x3_11, e_12, hM⟩ := bd hM
        refine x_top e_12 ?_
        refine x_istore_n (L' := [(3, .int x3_11), (0, .ref (ad g 92)), (1, .int x1), (2, .int x2)]) C dX6_warm_37 rfl (by decide) rfl ?_
        refine x_sub (L' := [(0, .ref (ad g 92)), (1, .int x1), (2, .int x2), (3, .int x3_11)]) [1, 2, 3, 0] rfl ?_
        exact o_X6_warm_l38 C hR 300 x1 x2 x3_11 w_5 hM
      · have hM := ip c_10 hM
        refine x_bipush (v := -2) C dX6_warm_33 (by decide) ?_
        obtain ⟨rfl, rfl⟩ := rt hM
        exact x_iret C hR rfl dX6_warm_35
    · have hM := ip c_8 hM
      refine x_iconst (v := -1) C dX6_warm_18 (by decide) ?_
      obtain ⟨rfl, rfl⟩ := rt hM
      exact x_iret C hR rfl dX6_warm_19
theorem c_X6_warm (l : Launch) (g : Gx) (x1 : Int32) (x2 : Int32) (w : Wd) {rr : Int32} {wr : Wd} (hM : f_X6_warm x1 x2 w = some (rr, wr)) : MetM l yX6_warm cX6_warm 4 (some .int) rm_X6_warm g [.ref (ad g 92), .int x1, .int x2] w (some (.int rr)) wr := by
  refine met_of (by decide) (Nat.le_of_ble_eq_true rfl) (fun E hl C hR => ?_)
  refine x_sub (L' := [(0, .ref (ad g 92)), (1, .int x1), (2, .int x2)]) [0, 1, 2] rfl ?_
  exact o_X6_warm_b0 C hR x1 x2 w hM
abbrev rm_X6_isFirst : Room := { frames := 4, cells := 0, slots := 0, locals := 88 }
set_option maxHeartbeats 1000000 in
set_option maxRecDepth 20000 in
theorem o_X6_isFirst_b107 {E : Ex} {g : Gx} (C : Ctx E RX6 cX6_isFirst rm_X6_isFirst 6 g) {rr : Int32} {wr : Wd} (hR : Rets E g (some .boolean) (some (.int rr)) wr) {kh49 : (Int32 → Int32 → Int32 → Int32 → Wd → Option (Int32 × Wd))} (Hh49 : ∀ (x1 : Int32) (x2 : Int32) (x3 : Int32) (x4 : Int32) (w : Wd), kh49 x1 x2 x3 x4 w = some (rr, wr) → Xx E 6 g 49 [(0, .ref (ad g 92)), (1, .int x1), (2, .int x2), (3, .int x3), (4, .int x4)] [] w) {kh62 : (Int32 → Int32 → Int32 → Int32 → Int32 → Wd → Option (Int32 × Wd))} (Hh62 : ∀ (x1 : Int32) (x2 : Int32) (x3 : Int32) (x4 : Int32) (x5 : Int32) (w : Wd), kh62 x1 x2 x3 x4 x5 w = some (rr, wr) → Xx E 6 g 62 [(0, .ref (ad g 92)), (1, .int x1), (2, .int x2), (3, .int x3), (4, .int x4), (5, .int x5)] [] w) (x1 : Int32) (x2 : Int32) (x3 : Int32) (x4 : Int32) (x5 : Int32) (w : Wd) (hM : f_X6_isFirst_b107 kh49 kh62 x1 x2 x3 x4 x5 w = some (rr, wr)) : Xx E 6 g 107 [(0, .ref (ad g 92)), (1, .int x1), (2, .int x2), (3, .int x3), (4, .int x4), (5, .int x5)] [] w := by
  unfold f_X6_isFirst_b107 at hM
  obtain ⟨x5_1, e_2, hM⟩ := bd hM
  refine x_iinc (L' := [(5, .int x5_1), (0, .ref (ad g 92)), (1, .int x1), (2, .int x2), (3, .int x3), (4, .int x4)]) C dX6_isFirst_107 5 rfl (v := x5_1) (by rw [e_2]; first | rfl | decide) (by decide) rfl ?_
  refine x_goto (tgt := 62) C dX6_isFirst_110 (by decide) ?_
  refine x_sub (L' := [(0, .ref (ad g 92)), (1, .int x1), (2, .int x2), (3, .int x3), (4, .int x4), (5, .int x5_1)]) [1, 2, 3, 4, 5, 0] rfl ?_
  exact Hh62 x1 x2 x3 x4 x5_1 w hM
set_option maxHeartbeats 1000000 in
set_option maxRecDepth 20000 in
theorem o_X6_isFirst_h62 {E : Ex} {g : Gx} (C : Ctx E RX6 cX6_isFirst rm_X6_isFirst 6 g) {rr : Int32} {wr : Wd} (hR : Rets E g (some .boolean) (some (.int rr)) wr) {kh49 : (Int32 → Int32 → Int32 → Int32 → Wd → Option (Int32 × Wd))} (Hh49 : ∀ (x1 : Int32) (x2 : Int32) (x3 : Int32) (x4 : Int32) (w : Wd), kh49 x1 x2 x3 x4 w = some (rr, wr) → Xx E 6 g 49 [(0, .ref (ad g 92)), (1, .int x1), (2, .int x2), (3, .int x3), (4, .int x4)] [] w) {kh62 : (Int32 → Int32 → Int32 → Int32 → Int32 → Wd → Option (Int32 × Wd))} (Hh62 : ∀ (x1 : Int32) (x2 : Int32) (x3 : Int32) (x4 : Int32) (x5 : Int32) (w : Wd), kh62 x1 x2 x3 x4 x5 w = some (rr, wr) → Xx E 6 g 62 [(0, .ref (ad g 92)), (1, .int x1), (2, .int x2), (3, .int x3), (4, .int x4), (5, .int x5)] [] w) (x1 : Int32) (x2 : Int32) (x3 : Int32) (x4 : Int32) (x5 : Int32) (w : Wd) (hM : f_X6_isFirst_h62 kh49 kh62 x1 x2 x3 x4 x5 w = some (rr, wr)) : Xx E 6 g 62 [(0, .ref (ad g 92)), (1, .int x1), (2, .int x2), (3, .int x3), (4, .int x4), (5, .int x5)] [] w := by
  unfold f_X6_isFirst_h62 at hM
  refine x_iload C dX6_isFirst_62 5 rfl ?_
  refine x_aload_n C dX6_isFirst_64 0 rfl rfl ?_
  refine xg_6_0 C kd_92 gw_714 dX6_isFirst_65 ?_
  refine x_icmp_ge (tgt := 113) C dX6_isFirst_68 (by decide) (fun c_1 => ?_) (fun c_1 => ?_)
  · have hM := ip c_1 hM
    obtain ⟨x4_2, e_3, hM⟩ := bd hM
    refine x_iinc (L' := [(4, .int x4_2), (0, .ref (ad g 92)), (1, .int x1), (2, .int x2), (3, .int x3), (5, .int x5)]) C dX6_isFirst_113 4 rfl (v := x4_2) (by rw [e_3]; first | rfl | decide) (by decide) rfl ?_
    refine x_goto (tgt := 49) C dX6_isFirst_116 (by decide) ?_
    refine x_sub (L' := [(0, .ref (ad g 92)), (1, .int x1), (2, .int x2), (3, .int x3), (4, .int x4_2)]) [1, 2, 3, 4, 0] rfl ?_
    exact Hh49 x1 x2 x3 x4_2 w hM
  · have hM := iq c_1 hM
    refine x_aload_n C dX6_isFirst_71 0 rfl rfl ?_
    refine xg_6_28 C kd_92 gw_742 dX6_isFirst_72 ?_
    refine x_bipush (v := 20) C dX6_isFirst_75 (by decide) ?_
    refine x_iload C dX6_isFirst_77 5 rfl ?_
    refine x_iadd C dX6_isFirst_79 ?_
    obtain ⟨q_4, hM⟩ := gd hM
    refine x_iald C kd_103 ln_103 q_4 rfl dX6_isFirst_80 ?_
    refine x_bipush (v := -9) C dX6_isFirst_81 (by decide) ?_
    refine x_icmp_eq (tgt := 107) C dX6_isFirst_83 (by decide) (fun c_5 => ?_) (fun c_5 => ?_)
    · have hM := ip c_5 hM
      refine x_sub (L' := [(0, .ref (ad g 92)), (1, .int x1), (2, .int x2), (3, .int x3), (4, .int x4), (5, .int x5)]) [0, 1, 2, 3, 4, 5] rfl ?_
      exact o_X6_isFirst_b107 C hR Hh49 Hh62 x1 x2 x3 x4 x5 w hM
    · have hM := iq c_5 hM
      refine x_iload_n C dX6_isFirst_86 3 rfl rfl ?_
      refine x_iload C dX6_isFirst_87 5 rfl ?_
      obtain ⟨r_7, w_6, h_8, hM⟩ := cl hM
      refine x_callS (As := [.int x3, .int x5]) C (c_X6_has E.l g x3 x5 w h_8) k_X6_has gw_890 rfl rfl ⟨Nat.le_of_ble_eq_true rfl, Nat.le_of_ble_eq_true rfl⟩ rfl rfl (Nat.le_of_ble_eq_true rfl) dX6_isFirst_89 ?_
      refine x_if_ne (tgt := 107) C dX6_isFirst_92 (by decide) (fun c_9 => ?_) (fun c_9 => ?_)
      · have hM := iq c_9 hM
        refine x_sub (L' := [(0, .ref (ad g 92)), (1, .int x1), (2, .int x2), (3, .int x3), (4, .int x4), (5, .int x5)]) [0, 1, 2, 3, 4, 5] rfl ?_
        exact o_X6_isFirst_b107 C hR Hh49 Hh62 x1 x2 x3 x4 x5 w_6 hM
      · have hM := ip c_9 hM
        refine x_iload C dX6_isFirst_95 5 rfl ?_
        refine x_iload_n C dX6_isFirst_97 1 rfl rfl ?_
        refine x_icmp_ne (tgt := 105) C dX6_isFirst_98 (by decide) (fun c_10 => ?_) (fun c_10 => ?_)
        · have hM := iq c_10 hM
          refine x_iconst (v := 0) C dX6_isFirst_105 (by decide) ?_
          obtain ⟨rfl, rfl⟩ := rt hM
          exact x_zret C hR (by rfl) rfl dX6_isFirst_106
        · have hM := ip c_10 hM
          refine x_iconst (v := 1) C dX6_isFirst_101 (by decide) ?_
          refine x_goto (tgt := 106) C dX6_isFirst_102 (by decide) ?_
          obtain ⟨rfl, rfl⟩ := rt hM
          exact x_zret C hR (by rfl) rfl dX6_isFirst_106
theorem o_X6_isFirst_l62 {E : Ex} {g : Gx} (C : Ctx E RX6 cX6_isFirst rm_X6_isFirst 6 g) {rr : Int32} {wr : Wd} (hR : Rets E g (some .boolean) (some (.int rr)) wr) {kh49 : (Int32 → Int32 → Int32 → Int32 → Wd → Option (Int32 × Wd))} (Hh49 : ∀ (x1 : Int32) (x2 : Int32) (x3 : Int32) (x4 : Int32) (w : Wd), kh49 x1 x2 x3 x4 w = some (rr, wr) → Xx E 6 g 49 [(0, .ref (ad g 92)), (1, .int x1), (2, .int x2), (3, .int x3), (4, .int x4)] [] w) : ∀ (n : Nat) (x1 : Int32) (x2 : Int32) (x3 : Int32) (x4 : Int32) (x5 : Int32) (w : Wd), f_X6_isFirst_l62 kh49 n x1 x2 x3 x4 x5 w = some (rr, wr) → Xx E 6 g 62 [(0, .ref (ad g 92)), (1, .int x1), (2, .int x2), (3, .int x3), (4, .int x4), (5, .int x5)] [] w := by
  intro n
  induction n with
  | zero =>
    intro x1 x2 x3 x4 x5 w hM
    rw [f_X6_isFirst_l62] at hM
    cases hM
  | succ n ih =>
    intro x1 x2 x3 x4 x5 w hM
    rw [f_X6_isFirst_l62] at hM
    exact o_X6_isFirst_h62 C hR Hh49 ih x1 x2 x3 x4 x5 w hM
set_option maxHeartbeats 1000000 in
set_option maxRecDepth 20000 in
theorem o_X6_isFirst_h49 {E : Ex} {g : Gx} (C : Ctx E RX6 cX6_isFirst rm_X6_isFirst 6 g) {rr : Int32} {wr : Wd} (hR : Rets E g (some .boolean) (some (.int rr)) wr) {kh49 : (Int32 → Int32 → Int32 → Int32 → Wd → Option (Int32 × Wd))} (Hh49 : ∀ (x1 : Int32) (x2 : Int32) (x3 : Int32) (x4 : Int32) (w : Wd), kh49 x1 x2 x3 x4 w = some (rr, wr) → Xx E 6 g 49 [(0, .ref (ad g 92)), (1, .int x1), (2, .int x2), (3, .int x3), (4, .int x4)] [] w) (x1 : Int32) (x2 : Int32) (x3 : Int32) (x4 : Int32) (w : Wd) (hM : f_X6_isFirst_h49 kh49 x1 x2 x3 x4 w = some (rr, wr)) : Xx E 6 g 49 [(0, .ref (ad g 92)), (1, .int x1), (2, .int x2), (3, .int x3), (4, .int x4)] [] w := by
  unfold f_X6_isFirst_h49 at hM
  refine x_iload C dX6_isFirst_49 4 rfl ?_
  refine x_iload_n C dX6_isFirst_51 2 rfl rfl ?_
  refine x_icmp_ge (tgt := 119) C dX6_isFirst_52 (by decide) (fun c_1 => ?_) (fun c_1 => ?_)
  · have hM := ip c_1 hM
    refine x_iconst (v := 0) C dX6_isFirst_119 (by decide) ?_
    obtain ⟨rfl, rfl⟩ := rt hM
    exact x_zret C hR (by rfl) rfl dX6_isFirst_120
  · have hM := iq c_1 hM
    refine x_aload_n C dX6_isFirst_55 0 rfl rfl ?_
    obtain ⟨r_3, w_2, h_4, hM⟩ := cl hM
    refine x_callVv (As := []) C (c_X6_goesBy E.l g  w h_4) k_X6_goesBy kd_92 (by decide) rfl rfl gw_916 rfl rfl ⟨Nat.le_of_ble_eq_true rfl, Nat.le_of_ble_eq_true rfl⟩ rfl rfl (Nat.le_of_ble_eq_true rfl) dX6_isFirst_56 ?_
    refine x_iconst (v := 0) C dX6_isFirst_59 (by decide) ?_
    obtain ⟨x5_5, e_6, hM⟩ := bd hM
    refine x_top e_6 ?_
    refine x_istore (L' := [(5, .int x5_5), (0, .ref (ad g 92)), (1, .int x1), (2, .int x2), (3, .int x3), (4, .int x4)]) C dX6_isFirst_60 (by decide) rfl ?_
    refine x_sub (L' := [(0, .ref (ad g 92)), (1, .int x1), (2, .int x2), (3, .int x3), (4, .int x4), (5, .int x5_5)]) [1, 2, 3, 4, 5, 0] rfl ?_
    exact o_X6_isFirst_l62 C hR Hh49 300 x1 x2 x3 x4 x5_5 w_2 hM
theorem o_X6_isFirst_l49 {E : Ex} {g : Gx} (C : Ctx E RX6 cX6_isFirst rm_X6_isFirst 6 g) {rr : Int32} {wr : Wd} (hR : Rets E g (some .boolean) (some (.int rr)) wr) : ∀ (n : Nat) (x1 : Int32) (x2 : Int32) (x3 : Int32) (x4 : Int32) (w : Wd), f_X6_isFirst_l49 n x1 x2 x3 x4 w = some (rr, wr) → Xx E 6 g 49 [(0, .ref (ad g 92)), (1, .int x1), (2, .int x2), (3, .int x3), (4, .int x4)] [] w := by
  intro n
  induction n with
  | zero =>
    intro x1 x2 x3 x4 w hM
    rw [f_X6_isFirst_l49] at hM
    cases hM
  | succ n ih =>
    intro x1 x2 x3 x4 w hM
    rw [f_X6_isFirst_l49] at hM
    exact o_X6_isFirst_h49 C hR ih x1 x2 x3 x4 w hM
set_option maxHeartbeats 1000000 in
set_option maxRecDepth 20000 in
theorem o_X6_isFirst_h5 {E : Ex} {g : Gx} (C : Ctx E RX6 cX6_isFirst rm_X6_isFirst 6 g) {rr : Int32} {wr : Wd} (hR : Rets E g (some .boolean) (some (.int rr)) wr) {kh5 : (Int32 → Int32 → Int32 → Int32 → Wd → Option (Int32 × Wd))} (Hh5 : ∀ (x1 : Int32) (x2 : Int32) (x3 : Int32) (x4 : Int32) (w : Wd), kh5 x1 x2 x3 x4 w = some (rr, wr) → Xx E 6 g 5 [(0, .ref (ad g 92)), (1, .int x1), (2, .int x2), (3, .int x3), (4, .int x4)] [] w) (x1 : Int32) (x2 : Int32) (x3 : Int32) (x4 : Int32) (w : Wd) (hM : f_X6_isFirst_h5 kh5 x1 x2 x3 x4 w = some (rr, wr)) : Xx E 6 g 5 [(0, .ref (ad g 92)), (1, .int x1), (2, .int x2), (3, .int x3), (4, .int x4)] [] w := by
  unfold f_X6_isFirst_h5 at hM
  refine x_iload C dX6_isFirst_5 4 rfl ?_
  refine x_aload_n C dX6_isFirst_7 0 rfl rfl ?_
  refine xg_6_0 C kd_92 gw_714 dX6_isFirst_8 ?_
  refine x_icmp_ge (tgt := 46) C dX6_isFirst_11 (by decide) (fun c_1 => ?_) (fun c_1 => ?_)
  · have hM := ip c_1 hM
    refine x_iconst (v := 0) C dX6_isFirst_46 (by decide) ?_
    obtain ⟨x4_2, e_3, hM⟩ := bd hM
    refine x_top e_3 ?_
    refine x_istore (L' := [(4, .int x4_2), (0, .ref (ad g 92)), (1, .int x1), (2, .int x2), (3, .int x3)]) C dX6_isFirst_47 (by decide) rfl ?_
    refine x_sub (L' := [(0, .ref (ad g 92)), (1, .int x1), (2, .int x2), (3, .int x3), (4, .int x4_2)]) [1, 2, 3, 4, 0] rfl ?_
    exact o_X6_isFirst_l49 C hR 300 x1 x2 x3 x4_2 w hM
  · have hM := iq c_1 hM
    refine x_iload_n C dX6_isFirst_14 3 rfl rfl ?_
    refine x_aload_n C dX6_isFirst_15 0 rfl rfl ?_
    refine xg_6_28 C kd_92 gw_742 dX6_isFirst_16 ?_
    refine x_bipush (v := 20) C dX6_isFirst_19 (by decide) ?_
    refine x_iload C dX6_isFirst_21 4 rfl ?_
    refine x_iadd C dX6_isFirst_23 ?_
    obtain ⟨q_4, hM⟩ := gd hM
    refine x_iald C kd_103 ln_103 q_4 rfl dX6_isFirst_24 ?_
    refine x_bipush (v := -9) C dX6_isFirst_25 (by decide) ?_
    refine x_icmp_ne (tgt := 34) C dX6_isFirst_27 (by decide) (fun c_5 => ?_) (fun c_5 => ?_)
    · have hM := iq c_5 hM
      refine x_iconst (v := 1) C dX6_isFirst_34 (by decide) ?_
      refine x_iload C dX6_isFirst_35 4 rfl ?_
      refine x_ishl C dX6_isFirst_37 ?_
      refine x_ior C dX6_isFirst_38 ?_
      obtain ⟨x3_6, e_7, hM⟩ := bd hM
      refine x_top e_7 ?_
      refine x_istore_n (L' := [(3, .int x3_6), (0, .ref (ad g 92)), (1, .int x1), (2, .int x2), (4, .int x4)]) C dX6_isFirst_39 rfl (by decide) rfl ?_
      obtain ⟨x4_8, e_9, hM⟩ := bd hM
      refine x_iinc (L' := [(4, .int x4_8), (3, .int x3_6), (0, .ref (ad g 92)), (1, .int x1), (2, .int x2)]) C dX6_isFirst_40 4 rfl (v := x4_8) (by rw [e_9]; first | rfl | decide) (by decide) rfl ?_
      refine x_goto (tgt := 5) C dX6_isFirst_43 (by decide) ?_
      refine x_sub (L' := [(0, .ref (ad g 92)), (1, .int x1), (2, .int x2), (3, .int x3_6), (4, .int x4_8)]) [2, 3, 4, 1, 0] rfl ?_
      exact Hh5 x1 x2 x3_6 x4_8 w hM
    · have hM := ip c_5 hM
      refine x_iconst (v := 0) C dX6_isFirst_30 (by decide) ?_
      refine x_goto (tgt := 38) C dX6_isFirst_31 (by decide) ?_
      refine x_ior C dX6_isFirst_38 ?_
      obtain ⟨x3_10, e_11, hM⟩ := bd hM
      refine x_top e_11 ?_
      refine x_istore_n (L' := [(3, .int x3_10), (0, .ref (ad g 92)), (1, .int x1), (2, .int x2), (4, .int x4)]) C dX6_isFirst_39 rfl (by decide) rfl ?_
      obtain ⟨x4_12, e_13, hM⟩ := bd hM
      refine x_iinc (L' := [(4, .int x4_12), (3, .int x3_10), (0, .ref (ad g 92)), (1, .int x1), (2, .int x2)]) C dX6_isFirst_40 4 rfl (v := x4_12) (by rw [e_13]; first | rfl | decide) (by decide) rfl ?_
      refine x_goto (tgt := 5) C dX6_isFirst_43 (by decide) ?_
      refine x_sub (L' := [(0, .ref (ad g 92)), (1, .int x1), (2, .int x2), (3, .int x3_10), (4, .int x4_12)]) [2, 3, 4, 1, 0] rfl ?_
      exact Hh5 x1 x2 x3_10 x4_12 w hM
theorem o_X6_isFirst_l5 {E : Ex} {g : Gx} (C : Ctx E RX6 cX6_isFirst rm_X6_isFirst 6 g) {rr : Int32} {wr : Wd} (hR : Rets E g (some .boolean) (some (.int rr)) wr) : ∀ (n : Nat) (x1 : Int32) (x2 : Int32) (x3 : Int32) (x4 : Int32) (w : Wd), f_X6_isFirst_l5 n x1 x2 x3 x4 w = some (rr, wr) → Xx E 6 g 5 [(0, .ref (ad g 92)), (1, .int x1), (2, .int x2), (3, .int x3), (4, .int x4)] [] w := by
  intro n
  induction n with
  | zero =>
    intro x1 x2 x3 x4 w hM
    rw [f_X6_isFirst_l5] at hM
    cases hM
  | succ n ih =>
    intro x1 x2 x3 x4 w hM
    rw [f_X6_isFirst_l5] at hM
    exact o_X6_isFirst_h5 C hR ih x1 x2 x3 x4 w hM
set_option maxHeartbeats 1000000 in
set_option maxRecDepth 20000 in
theorem o_X6_isFirst_b0 {E : Ex} {g : Gx} (C : Ctx E RX6 cX6_isFirst rm_X6_isFirst 6 g) {rr : Int32} {wr : Wd} (hR : Rets E g (some .boolean) (some (.int rr)) wr) (x1 : Int32) (x2 : Int32) (w : Wd) (hM : f_X6_isFirst_b0 x1 x2 w = some (rr, wr)) : Xx E 6 g 0 [(0, .ref (ad g 92)), (1, .int x1), (2, .int x2)] [] w := by
  unfold f_X6_isFirst_b0 at hM
  refine x_iconst (v := 0) C dX6_isFirst_0 (by decide) ?_
  obtain ⟨x3_1, e_2, hM⟩ := bd hM
  refine x_top e_2 ?_
  refine x_istore_n (L' := [(3, .int x3_1), (0, .ref (ad g 92)), (1, .int x1), (2, .int x2)]) C dX6_isFirst_1 rfl (by decide) rfl ?_
  refine x_iconst (v := 0) C dX6_isFirst_2 (by decide) ?_
  obtain ⟨x4_3, e_4, hM⟩ := bd hM
  refine x_top e_4 ?_
  refine x_istore (L' := [(4, .int x4_3), (3, .int x3_1), (0, .ref (ad g 92)), (1, .int x1), (2, .int x2)]) C dX6_isFirst_3 (by decide) rfl ?_
  refine x_sub (L' := [(0, .ref (ad g 92)), (1, .int x1), (2, .int x2), (3, .int x3_1), (4, .int x4_3)]) [2, 3, 4, 1, 0] rfl ?_
  exact o_X6_isFirst_l5 C hR 300 x1 x2 x3_1 x4_3 w hM
theorem c_X6_isFirst (l : Launch) (g : Gx) (x1 : Int32) (x2 : Int32) (w : Wd) {rr : Int32} {wr : Wd} (hM : f_X6_isFirst x1 x2 w = some (rr, wr)) : MetM l yX6_isFirst cX6_isFirst 6 (some .boolean) rm_X6_isFirst g [.ref (ad g 92), .int x1, .int x2] w (some (.int rr)) wr := by
  refine met_of (by decide) (Nat.le_of_ble_eq_true rfl) (fun E hl C hR => ?_)
  refine x_sub (L' := [(0, .ref (ad g 92)), (1, .int x1), (2, .int x2)]) [0, 1, 2] rfl ?_
  exact o_X6_isFirst_b0 C hR x1 x2 w hM
