abbrev rm_X6_greatestPart : Room := { frames := 2, cells := 0, slots := 0, locals := 51 }
set_option maxHeartbeats 1000000 in
set_option maxRecDepth 20000 in
theorem o_X6_greatestPart_h26 {E : Ex} {g : Gx} (C : Ctx E RX6 cX6_greatestPart rm_X6_greatestPart 6 g) {rr : Int32} {wr : Wd} (hR : Rets E g (some .int) (some (.int rr)) wr) {kh26 : (Int32 → Int32 → Int32 → Int32 → Wd → Option (Int32 × Wd))} (Hh26 : ∀ (x1 : Int32) (x2 : Int32) (x3 : Int32) (x4 : Int32) (w : Wd), kh26 x1 x2 x3 x4 w = some (rr, wr) → Xx E 6 g 26 [(0, .ref (ad g 92)), (1, .int x1), (2, .int x2), (3, .int x3), (4, .int x4)] [] w) (x1 : Int32) (x2 : Int32) (x3 : Int32) (x4 : Int32) (w : Wd) (hM : f_X6_greatestPart_h26 kh26 x1 x2 x3 x4 w = some (rr, wr)) : Xx E 6 g 26 [(0, .ref (ad g 92)), (1, .int x1), (2, .int x2), (3, .int x3), (4, .int x4)] [] w := by
  unfold f_X6_greatestPart_h26 at hM
  refine x_iload C dX6_greatestPart_26 4 rfl ?_
  refine x_bipush (v := 40) C dX6_greatestPart_28 (by decide) ?_
  refine x_icmp_gt (tgt := 97) C dX6_greatestPart_30 (by decide) (fun c_1 => ?_) (fun c_1 => ?_)
  · have hM := ip c_1 hM
    refine x_iload_n C dX6_greatestPart_97 3 rfl rfl ?_
    obtain ⟨rfl, rfl⟩ := rt hM
    exact x_iret C hR rfl dX6_greatestPart_98
  · have hM := iq c_1 hM
    refine x_aload_n C dX6_greatestPart_33 0 rfl rfl ?_
    refine x_iload_n C dX6_greatestPart_34 1 rfl rfl ?_
    refine x_iload C dX6_greatestPart_35 4 rfl ?_
    refine x_iload_n C dX6_greatestPart_37 2 rfl rfl ?_
    obtain ⟨r_3, w_2, h_4, hM⟩ := cl hM
    refine x_callV (As := [.int x1, .int x4, .int x2]) C (c_X6_deepAlone E.l g x1 x4 x2 w h_4) k_X6_deepAlone kd_92 (by decide) rfl rfl gw_1015 rfl rfl ⟨Nat.le_of_ble_eq_true rfl, Nat.le_of_ble_eq_true rfl⟩ rfl rfl (Nat.le_of_ble_eq_true rfl) dX6_greatestPart_38 ?_
    obtain ⟨x5_5, e_6, hM⟩ := bd hM
    refine x_top e_6 ?_
    refine x_istore (L' := [(5, .int x5_5), (0, .ref (ad g 92)), (1, .int x1), (2, .int x2), (3, .int x3), (4, .int x4)]) C dX6_greatestPart_41 (by decide) rfl ?_
    refine x_aload_n C dX6_greatestPart_43 1 rfl rfl ?_
    refine xg_6_30 C kd_92 gw_744 dX6_greatestPart_44 ?_
    refine x_iload C dX6_greatestPart_47 0 rfl ?_
    refine x_dup2 C dX6_greatestPart_49 rfl rfl ?_
    obtain ⟨q_7, hM⟩ := gd hM
    refine x_iald C kd_105 ln_105 q_7 rfl dX6_greatestPart_50 ?_
    refine x_aload_n C dX6_greatestPart_51 1 rfl rfl ?_
    refine x_iload_n C dX6_greatestPart_52 2 rfl rfl ?_
    refine x_iload C dX6_greatestPart_53 5 rfl ?_
    obtain ⟨r_9, w_8, h_10, hM⟩ := cl hM
    refine x_callV (As := [.int x1, .int x4]) C (c_X6_isSo E.l g x1 x4 w_2 h_10) k_X6_isSo kd_92 (by decide) rfl rfl gw_1011 rfl rfl ⟨Nat.le_of_ble_eq_true rfl, Nat.le_of_ble_eq_true rfl⟩ rfl rfl (Nat.le_of_ble_eq_true rfl) dX6_greatestPart_55 ?_
    refine x_if_eq (tgt := 65) C dX6_greatestPart_58 (by decide) (fun c_11 => ?_) (fun c_11 => ?_)
    · have hM := ip c_11 hM
      refine x_iconst (v := 0) C dX6_greatestPart_65 (by decide) ?_
      refine x_iadd C dX6_greatestPart_66 ?_
      obtain ⟨q_12, hM⟩ := gd hM
      obtain ⟨w_13, e_14, hM⟩ := bd hM
      refine x_iast C kd_105 ln_105 q_12 rfl dX6_greatestPart_67 ?_
      refine x_w e_14 ?_
      refine x_aload_n C dX6_greatestPart_68 1 rfl rfl ?_
      refine xg_6_30 C kd_92 gw_744 dX6_greatestPart_69 ?_
      refine x_iload C dX6_greatestPart_72 0 rfl ?_
      obtain ⟨q_15, hM⟩ := gd hM
      refine x_iald C kd_105 ln_105 q_15 rfl dX6_greatestPart_74 ?_
      refine x_iload_n C dX6_greatestPart_75 4 rfl rfl ?_
      refine x_icmp_le (tgt := 89) C dX6_greatestPart_76 (by decide) (fun c_16 => ?_) (fun c_16 => ?_)
      · have hM := ip c_16 hM
        refine x_iload_n C dX6_greatestPart_89 4 rfl rfl ?_
        obtain ⟨x3_17, e_18, hM⟩ := bd hM
        refine x_top e_18 ?_
        refine x_istore_n (L' := [(3, .int x3_17), (5, .int x5_5), (0, .ref (ad g 92)), (1, .int x1), (2, .int x2), (4, .int x4)]) C dX6_greatestPart_90 rfl (by decide) rfl ?_
        obtain ⟨x4_19, e_20, hM⟩ := bd hM
        refine x_iinc (L' := [(4, .int x4_19), (3, .int x3_17), (5, .int x5_5), (0, .ref (ad g 92)), (1, .int x1), (2, .int x2)]) C dX6_greatestPart_91 5 rfl (v := x4_19) (by rw [e_20]; first | rfl | decide) (by decide) rfl ?_
        refine x_goto (tgt := 26) C dX6_greatestPart_94 (by decide) ?_
        refine x_sub (L' := [(0, .ref (ad g 92)), (1, .int x1), (2, .int x2), (3, .int x3_17), (4, .int x4_19)]) [3, 4, 5, 1, 0] rfl ?_
        exact Hh26 x1 x2 x3_17 x4_19 w_13 hM
      · have hM := iq c_16 hM
        refine x_aload_n C dX6_greatestPart_79 1 rfl rfl ?_
        refine xg_6_30 C kd_92 gw_744 dX6_greatestPart_80 ?_
        refine x_iload C dX6_greatestPart_83 0 rfl ?_
        obtain ⟨q_21, hM⟩ := gd hM
        refine x_iald C kd_105 ln_105 q_21 rfl dX6_greatestPart_85 ?_
        refine x_goto (tgt := 90) C dX6_greatestPart_86 (by decide) ?_
        obtain ⟨x3_22, e_23, hM⟩ := bd hM
        refine x_top e_23 ?_
        refine x_istore_n (L' := [(3, .int x3_22), (5, .int x5_5), (0, .ref (ad g 92)), (1, .int x1), (2, .int x2), (4, .int x4)]) C dX6_greatestPart_90 rfl (by decide) rfl ?_
        obtain ⟨x4_24, e_25, hM⟩ := bd hM
        refine x_iinc (L' := [(4, .int x4_24), (3, .int x3_22), (5, .int x5_5), (0, .ref (ad g 92)), (1, .int x1), (2, .int x2)]) C dX6_greatestPart_91 5 rfl (v := x4_24) (by rw [e_25]; first | rfl | decide) (by decide) rfl ?_
        refine x_goto (tgt := 26) C dX6_greatestPart_94 (by decide) ?_
        refine x_sub (L' := [(0, .ref (ad g 92)), (1, .int x1), (2, .int x2), (3, .int x3_22), (4, .int x4_24)]) [3, 4, 5, 1, 0] rfl ?_
        exact Hh26 x1 x2 x3_22 x4_24 w_13 hM
    · have hM := iq c_11 hM
      refine x_iconst (v := 1) C dX6_greatestPart_61 (by decide) ?_
      refine x_goto (tgt := 66) C dX6_greatestPart_62 (by decide) ?_
      refine x_iadd C dX6_greatestPart_66 ?_
      obtain ⟨q_26, hM⟩ := gd hM
      obtain ⟨w_27, e_28, hM⟩ := bd hM
      refine x_iast C kd_105 ln_105 q_26 rfl dX6_greatestPart_67 ?_
      refine x_w e_28 ?_
      refine x_aload_n C dX6_greatestPart_68 1 rfl rfl ?_
      refine xg_6_30 C kd_92 gw_744 dX6_greatestPart_69 ?_
      refine x_iload C dX6_greatestPart_72 0 rfl ?_
      obtain ⟨q_29, hM⟩ := gd hM
      refine x_iald C kd_105 ln_105 q_29 rfl dX6_greatestPart_74 ?_
      refine x_iload_n C dX6_greatestPart_75 4 rfl rfl ?_
      refine x_icmp_le (tgt := 89) C dX6_greatestPart_76 (by decide) (fun c_30 => ?_) (fun c_30 => ?_)
      · have hM := ip c_30 hM
        refine x_iload_n C dX6_greatestPart_89 4 rfl rfl ?_
        obtain ⟨x3_31, e_32, hM⟩ := bd hM
        refine x_top e_32 ?_
        refine x_istore_n (L' := [(3, .int x3_31), (5, .int x5_5), (0, .ref (ad g 92)), (1, .int x1), (2, .int x2), (4, .int x4)]) C dX6_greatestPart_90 rfl (by decide) rfl ?_
        obtain ⟨x4_33, e_34, hM⟩ := bd hM
        refine x_iinc (L' := [(4, .int x4_33), (3, .int x3_31), (5, .int x5_5), (0, .ref (ad g 92)), (1, .int x1), (2, .int x2)]) C dX6_greatestPart_91 5 rfl (v := x4_33) (by rw [e_34]; first | rfl | decide) (by decide) rfl ?_
        refine x_goto (tgt := 26) C dX6_greatestPart_94 (by decide) ?_
        refine x_sub (L' := [(0, .ref (ad g 92)), (1, .int x1), (2, .int x2), (3, .int x3_31), (4, .int x4_33)]) [3, 4, 5, 1, 0] rfl ?_
        exact Hh26 x1 x2 x3_31 x4_33 w_27 hM
      · have hM := iq c_30 hM
        refine x_aload_n C dX6_greatestPart_79 1 rfl rfl ?_
        refine xg_6_30 C kd_92 gw_744 dX6_greatestPart_80 ?_
        refine x_iload C dX6_greatestPart_83 0 rfl ?_
        obtain ⟨q_35, hM⟩ := gd hM
        refine x_iald C kd_105 ln_105 q_35 rfl dX6_greatestPart_85 ?_
        refine x_goto (tgt := 90) C dX6_greatestPart_86 (by decide) ?_
        obtain ⟨x3_36, e_37, hM⟩ := bd hM
        refine x_top e_37 ?_
        refine x_istore_n (L' := [(3, .int x3_36), (5, .int x5_5), (0, .ref (ad g 92)), (1, .int x1), (2, .int x2), (4, .int x4)]) C dX6_greatestPart_90 rfl (by decide) rfl ?_
        obtain ⟨x4_38, e_39, hM⟩ := bd hM
        refine x_iinc (L' := [(4, .int x4_38), (3, .int x3_36), (5, .int x5_5), (0, .ref (ad g 92)), (1, .int x1), (2, .int x2)]) C dX6_greatestPart_91 5 rfl (v := x4_38) (by rw [e_39]; first | rfl | decide) (by decide) rfl ?_
        refine x_goto (tgt := 26) C dX6_greatestPart_94 (by decide) ?_
        refine x_sub (L' := [(0, .ref (ad g 92)), (1, .int x1), (2, .int x2), (3, .int x3_36), (4, .int x4_38)]) [3, 4, 5, 1, 0] rfl ?_
        exact Hh26 x1 x2 x3_36 x4_38 w_27 hM
theorem o_X6_greatestPart_l26 {E : Ex} {g : Gx} (C : Ctx E RX6 cX6_greatestPart rm_X6_greatestPart 6 g) {rr : Int32} {wr : Wd} (hR : Rets E g (some .int) (some (.int rr)) wr) : ∀ (n : Nat) (x1 : Int32) (x2 : Int32) (x3 : Int32) (x4 : Int32) (w : Wd), f_X6_greatestPart_l26 n x1 x2 x3 x4 w = some (rr, wr) → Xx E 6 g 26 [(0, .ref (ad g 92)), (1, .int x1), (2, .int x2), (3, .int x3), (4, .int x4)] [] w := by
  intro n
  induction n with
  | zero =>
    intro x1 x2 x3 x4 w hM
    rw [f_X6_greatestPart_l26] at hM
    cases hM
  | succ n ih =>
    intro x1 x2 x3 x4 w hM
    rw [f_X6_greatestPart_l26] at hM
    exact o_X6_greatestPart_h26 C hR ih x1 x2 x3 x4 w hM
set_option maxHeartbeats 1000000 in
set_option maxRecDepth 20000 in
theorem o_X6_greatestPart_h2 {E : Ex} {g : Gx} (C : Ctx E RX6 cX6_greatestPart rm_X6_greatestPart 6 g) {rr : Int32} {wr : Wd} (hR : Rets E g (some .int) (some (.int rr)) wr) {kh2 : (Int32 → Int32 → Int32 → Wd → Option (Int32 × Wd))} (Hh2 : ∀ (x1 : Int32) (x2 : Int32) (x3 : Int32) (w : Wd), kh2 x1 x2 x3 w = some (rr, wr) → Xx E 6 g 2 [(0, .ref (ad g 92)), (1, .int x1), (2, .int x2), (3, .int x3)] [] w) (x1 : Int32) (x2 : Int32) (x3 : Int32) (w : Wd) (hM : f_X6_greatestPart_h2 kh2 x1 x2 x3 w = some (rr, wr)) : Xx E 6 g 2 [(0, .ref (ad g 92)), (1, .int x1), (2, .int x2), (3, .int x3)] [] w := by
  unfold f_X6_greatestPart_h2 at hM
  refine x_iload_n C dX6_greatestPart_2 3 rfl rfl ?_
  refine x_bipush (v := 10) C dX6_greatestPart_3 (by decide) ?_
  refine x_icmp_gt (tgt := 21) C dX6_greatestPart_5 (by decide) (fun c_1 => ?_) (fun c_1 => ?_)
  · have hM := ip c_1 hM
    refine x_iconst (v := 0) C dX6_greatestPart_21 (by decide) ?_
    obtain ⟨x3_2, e_3, hM⟩ := bd hM
    refine x_top e_3 ?_
    refine x_istore_n (L' := [(3, .int x3_2), (0, .ref (ad g 92)), (1, .int x1), (2, .int x2)]) C dX6_greatestPart_22 rfl (by decide) rfl ?_
    refine x_iconst (v := 0) C dX6_greatestPart_23 (by decide) ?_
    obtain ⟨x4_4, e_5, hM⟩ := bd hM
    refine x_top e_5 ?_
    refine x_istore (L' := [(4, .int x4_4), (3, .int x3_2), (0, .ref (ad g 92)), (1, .int x1), (2, .int x2)]) C dX6_greatestPart_24 (by decide) rfl ?_
    refine x_sub (L' := [(0, .ref (ad g 92)), (1, .int x1), (2, .int x2), (3, .int x3_2), (4, .int x4_4)]) [2, 3, 4, 1, 0] rfl ?_
    exact o_X6_greatestPart_l26 C hR 300 x1 x2 x3_2 x4_4 w hM
  · have hM := iq c_1 hM
    refine x_aload_n C dX6_greatestPart_8 0 rfl rfl ?_
    refine xg_6_30 C kd_92 gw_744 dX6_greatestPart_9 ?_
    refine x_iload_n C dX6_greatestPart_12 3 rfl rfl ?_
    refine x_iconst (v := 0) C dX6_greatestPart_13 (by decide) ?_
    obtain ⟨q_6, hM⟩ := gd hM
    obtain ⟨w_7, e_8, hM⟩ := bd hM
    refine x_iast C kd_105 ln_105 q_6 rfl dX6_greatestPart_14 ?_
    refine x_w e_8 ?_
    obtain ⟨x3_9, e_10, hM⟩ := bd hM
    refine x_iinc (L' := [(3, .int x3_9), (0, .ref (ad g 92)), (1, .int x1), (2, .int x2)]) C dX6_greatestPart_15 3 rfl (v := x3_9) (by rw [e_10]; first | rfl | decide) (by decide) rfl ?_
    refine x_goto (tgt := 2) C dX6_greatestPart_18 (by decide) ?_
    refine x_sub (L' := [(0, .ref (ad g 92)), (1, .int x1), (2, .int x2), (3, .int x3_9)]) [1, 2, 3, 0] rfl ?_
    exact Hh2 x1 x2 x3_9 w_7 hM
theorem o_X6_greatestPart_l2 {E : Ex} {g : Gx} (C : Ctx E RX6 cX6_greatestPart rm_X6_greatestPart 6 g) {rr : Int32} {wr : Wd} (hR : Rets E g (some .int) (some (.int rr)) wr) : ∀ (n : Nat) (x1 : Int32) (x2 : Int32) (x3 : Int32) (w : Wd), f_X6_greatestPart_l2 n x1 x2 x3 w = some (rr, wr) → Xx E 6 g 2 [(0, .ref (ad g 92)), (1, .int x1), (2, .int x2), (3, .int x3)] [] w := by
  intro n
  induction n with
  | zero =>
    intro x1 x2 x3 w hM
    rw [f_X6_greatestPart_l2] at hM
    cases hM
  | succ n ih =>
    intro x1 x2 x3 w hM
    rw [f_X6_greatestPart_l2] at hM
    exact o_X6_greatestPart_h2 C hR ih x1 x2 x3 w hM
set_option maxHeartbeats 1000000 in
set_option maxRecDepth 20000 in
theorem o_X6_greatestPart_b0 {E : Ex} {g : Gx} (C : Ctx E RX6 cX6_greatestPart rm_X6_greatestPart 6 g) {rr : Int32} {wr : Wd} (hR : Rets E g (some .int) (some (.int rr)) wr) (x1 : Int32) (x2 : Int32) (w : Wd) (hM : f_X6_greatestPart_b0 x1 x2 w = some (rr, wr)) : Xx E 6 g 0 [(0, .ref (ad g 92)), (1, .int x1), (2, .int x2)] [] w := by
  unfold f_X6_greatestPart_b0 at hM
  refine x_iconst (v := 0) C dX6_greatestPart_0 (by decide) ?_
  obtain ⟨x3_1, e_2, hM⟩ := bd hM
  refine x_top e_2 ?_
  refine x_istore_n (L' := [(3, .int x3_1), (0, .ref (ad g 92)), (1, .int x1), (2, .int x2)]) C dX6_greatestPart_1 rfl (by decide) rfl ?_
  refine x_sub (L' := [(0, .ref (ad g 92)), (1, .int x1), (2, .int x2), (3, .int x3_1)]) [1, 2, 3, 0] rfl ?_
  exact o_X6_greatestPart_l2 C hR 300 x1 x2 x3_1 w hM
theorem c_X6_greatestPart (l : Launch) (g : Gx) (x1 : Int32) (x2 : Int32) (w : Wd) {rr : Int32} {wr : Wd} (hM : f_X6_greatestPart x1 x2 w = some (rr, wr)) : MetM l yX6_greatestPart cX6_greatestPart 6 (some .int) rm_X6_greatestPart g [.ref (ad g 92), .int x1, .int x2] w (some (.int rr)) wr := by
  refine met_of (by decide) (Nat.le_of_ble_eq_true rfl) (fun E hl C hR => ?_)
  refine x_sub (L' := [(0, .ref (ad g 92)), (1, .int x1), (2, .int x2)]) [0, 1, 2] rfl ?_
  exact o_X6_greatestPart_b0 C hR x1 x2 w hM
abbrev rm_X6_look : Room := { frames := 3, cells := 0, slots := 0, locals := 77 }
set_option maxHeartbeats 1000000 in
set_option maxRecDepth 20000 in
theorem o_X6_look_b57 {E : Ex} {g : Gx} (C : Ctx E RX6 cX6_look rm_X6_look 7 g) {rr : Int32} {wr : Wd} (hR : Rets E g (some .int) (some (.int rr)) wr) {kh31 : (Int32 → Int32 → Int32 → Int32 → Wd → Option (Int32 × Wd))} (Hh31 : ∀ (x1 : Int32) (x2 : Int32) (x3 : Int32) (x4 : Int32) (w : Wd), kh31 x1 x2 x3 x4 w = some (rr, wr) → Xx E 7 g 31 [(0, .ref (ad g 92)), (1, .int x1), (2, .int x2), (3, .int x3), (4, .int x4)] [] w) (x1 : Int32) (x2 : Int32) (x3 : Int32) (x4 : Int32) (x5 : Int32) (w : Wd) (hM : f_X6_look_b57 kh31 x1 x2 x3 x4 x5 w = some (rr, wr)) : Xx E 7 g 57 [(0, .ref (ad g 92)), (1, .int x1), (2, .int x2), (3, .int x3), (4, .int x4), (5, .int x5)] [] w := by
  unfold f_X6_look_b57 at hM
  refine x_iconst (v := 1) C dX6_look_57 (by decide) ?_
  refine x_goto (tgt := 62) C dX6_look_58 (by decide) ?_
  obtain ⟨x6_1, e_2, hM⟩ := bd hM
  refine x_top e_2 ?_
  refine x_istore (L' := [(6, .int x6_1), (0, .ref (ad g 92)), (1, .int x1), (2, .int x2), (3, .int x3), (4, .int x4), (5, .int x5)]) C dX6_look_62 (by decide) rfl ?_
  refine x_iload C dX6_look_64 0 rfl ?_
  refine x_if_eq (tgt := 74) C dX6_look_66 (by decide) (fun c_3 => ?_) (fun c_3 => ?_)
  · have hM := ip c_3 hM
    refine x_iload_n C dX6_look_74 3 rfl rfl ?_
    obtain ⟨x2_4, e_5, hM⟩ := bd hM
    refine x_top e_5 ?_
    refine x_istore_n (L' := [(2, .int x2_4), (6, .int x6_1), (0, .ref (ad g 92)), (1, .int x1), (3, .int x3), (4, .int x4), (5, .int x5)]) C dX6_look_75 rfl (by decide) rfl ?_
    refine x_iload C dX6_look_76 1 rfl ?_
    refine x_if_eq (tgt := 86) C dX6_look_78 (by decide) (fun c_6 => ?_) (fun c_6 => ?_)
    · have hM := ip c_6 hM
      refine x_iload_n C dX6_look_86 4 rfl rfl ?_
      obtain ⟨x3_7, e_8, hM⟩ := bd hM
      refine x_top e_8 ?_
      refine x_istore_n (L' := [(3, .int x3_7), (2, .int x2_4), (6, .int x6_1), (0, .ref (ad g 92)), (1, .int x1), (4, .int x4), (5, .int x5)]) C dX6_look_87 rfl (by decide) rfl ?_
      obtain ⟨x4_9, e_10, hM⟩ := bd hM
      refine x_iinc (L' := [(4, .int x4_9), (3, .int x3_7), (2, .int x2_4), (6, .int x6_1), (0, .ref (ad g 92)), (1, .int x1), (5, .int x5)]) C dX6_look_88 5 rfl (v := x4_9) (by rw [e_10]; first | rfl | decide) (by decide) rfl ?_
      refine x_goto (tgt := 31) C dX6_look_91 (by decide) ?_
      refine x_sub (L' := [(0, .ref (ad g 92)), (1, .int x1), (2, .int x2_4), (3, .int x3_7), (4, .int x4_9)]) [4, 5, 2, 1, 0] rfl ?_
      exact Hh31 x1 x2_4 x3_7 x4_9 w hM
    · have hM := iq c_6 hM
      refine x_iload C dX6_look_81 6 rfl ?_
      refine x_goto (tgt := 87) C dX6_look_83 (by decide) ?_
      obtain ⟨x3_11, e_12, hM⟩ := bd hM
      refine x_top e_12 ?_
      refine x_istore_n (L' := [(3, .int x3_11), (2, .int x2_4), (6, .int x6_1), (0, .ref (ad g 92)), (1, .int x1), (4, .int x4), (5, .int x5)]) C dX6_look_87 rfl (by decide) rfl ?_
      obtain ⟨x4_13, e_14, hM⟩ := bd hM
      refine x_iinc (L' := [(4, .int x4_13), (3, .int x3_11), (2, .int x2_4), (6, .int x6_1), (0, .ref (ad g 92)), (1, .int x1), (5, .int x5)]) C dX6_look_88 5 rfl (v := x4_13) (by rw [e_14]; first | rfl | decide) (by decide) rfl ?_
      refine x_goto (tgt := 31) C dX6_look_91 (by decide) ?_
      refine x_sub (L' := [(0, .ref (ad g 92)), (1, .int x1), (2, .int x2_4), (3, .int x3_11), (4, .int x4_13)]) [4, 5, 2, 1, 0] rfl ?_
      exact Hh31 x1 x2_4 x3_11 x4_13 w hM
  · have hM := iq c_3 hM
    refine x_iload C dX6_look_69 5 rfl ?_
    refine x_goto (tgt := 75) C dX6_look_71 (by decide) ?_
    obtain ⟨x2_15, e_16, hM⟩ := bd hM
    refine x_top e_16 ?_
    refine x_istore_n (L' := [(2, .int x2_15), (6, .int x6_1), (0, .ref (ad g 92)), (1, .int x1), (3, .int x3), (4, .int x4), (5, .int x5)]) C dX6_look_75 rfl (by decide) rfl ?_
    refine x_iload C dX6_look_76 1 rfl ?_
    refine x_if_eq (tgt := 86) C dX6_look_78 (by decide) (fun c_17 => ?_) (fun c_17 => ?_)
    · have hM := ip c_17 hM
      refine x_iload_n C dX6_look_86 4 rfl rfl ?_
      obtain ⟨x3_18, e_19, hM⟩ := bd hM
      refine x_top e_19 ?_
      refine x_istore_n (L' := [(3, .int x3_18), (2, .int x2_15), (6, .int x6_1), (0, .ref (ad g 92)), (1, .int x1), (4, .int x4), (5, .int x5)]) C dX6_look_87 rfl (by decide) rfl ?_
      obtain ⟨x4_20, e_21, hM⟩ := bd hM
      refine x_iinc (L' := [(4, .int x4_20), (3, .int x3_18), (2, .int x2_15), (6, .int x6_1), (0, .ref (ad g 92)), (1, .int x1), (5, .int x5)]) C dX6_look_88 5 rfl (v := x4_20) (by rw [e_21]; first | rfl | decide) (by decide) rfl ?_
      refine x_goto (tgt := 31) C dX6_look_91 (by decide) ?_
      refine x_sub (L' := [(0, .ref (ad g 92)), (1, .int x1), (2, .int x2_15), (3, .int x3_18), (4, .int x4_20)]) [4, 5, 2, 1, 0] rfl ?_
      exact Hh31 x1 x2_15 x3_18 x4_20 w hM
    · have hM := iq c_17 hM
      refine x_iload C dX6_look_81 6 rfl ?_
      refine x_goto (tgt := 87) C dX6_look_83 (by decide) ?_
      obtain ⟨x3_22, e_23, hM⟩ := bd hM
      refine x_top e_23 ?_
      refine x_istore_n (L' := [(3, .int x3_22), (2, .int x2_15), (6, .int x6_1), (0, .ref (ad g 92)), (1, .int x1), (4, .int x4), (5, .int x5)]) C dX6_look_87 rfl (by decide) rfl ?_
      obtain ⟨x4_24, e_25, hM⟩ := bd hM
      refine x_iinc (L' := [(4, .int x4_24), (3, .int x3_22), (2, .int x2_15), (6, .int x6_1), (0, .ref (ad g 92)), (1, .int x1), (5, .int x5)]) C dX6_look_88 5 rfl (v := x4_24) (by rw [e_25]; first | rfl | decide) (by decide) rfl ?_
      refine x_goto (tgt := 31) C dX6_look_91 (by decide) ?_
      refine x_sub (L' := [(0, .ref (ad g 92)), (1, .int x1), (2, .int x2_15), (3, .int x3_22), (4, .int x4_24)]) [4, 5, 2, 1, 0] rfl ?_
      exact Hh31 x1 x2_15 x3_22 x4_24 w hM
set_option maxHeartbeats 1000000 in
set_option maxRecDepth 20000 in
theorem o_X6_look_h31 {E : Ex} {g : Gx} (C : Ctx E RX6 cX6_look rm_X6_look 7 g) {rr : Int32} {wr : Wd} (hR : Rets E g (some .int) (some (.int rr)) wr) {kh31 : (Int32 → Int32 → Int32 → Int32 → Wd → Option (Int32 × Wd))} (Hh31 : ∀ (x1 : Int32) (x2 : Int32) (x3 : Int32) (x4 : Int32) (w : Wd), kh31 x1 x2 x3 x4 w = some (rr, wr) → Xx E 7 g 31 [(0, .ref (ad g 92)), (1, .int x1), (2, .int x2), (3, .int x3), (4, .int x4)] [] w) (x1 : Int32) (x2 : Int32) (x3 : Int32) (x4 : Int32) (w : Wd) (hM : f_X6_look_h31 kh31 x1 x2 x3 x4 w = some (rr, wr)) : Xx E 7 g 31 [(0, .ref (ad g 92)), (1, .int x1), (2, .int x2), (3, .int x3), (4, .int x4)] [] w := by
  unfold f_X6_look_h31 at hM
  refine x_iload C dX6_look_31 4 rfl ?_
  refine x_bipush (v := 20) C dX6_look_33 (by decide) ?_
  refine x_icmp_gt (tgt := 94) C dX6_look_35 (by decide) (fun c_1 => ?_) (fun c_1 => ?_)
  · have hM := ip c_1 hM
    refine x_iload_n C dX6_look_94 2 rfl rfl ?_
    obtain ⟨rfl, rfl⟩ := rt hM
    exact x_iret C hR rfl dX6_look_95
  · have hM := iq c_1 hM
    refine x_aload_n C dX6_look_38 0 rfl rfl ?_
    refine x_iload_n C dX6_look_39 1 rfl rfl ?_
    refine x_iload C dX6_look_40 4 rfl ?_
    obtain ⟨r_3, w_2, h_4, hM⟩ := cl hM
    refine x_callV (As := [.int x1, .int x4]) C (c_X6_greatestPart E.l g x1 x4 w h_4) k_X6_greatestPart kd_92 (by decide) rfl rfl gw_1024 rfl rfl ⟨Nat.le_of_ble_eq_true rfl, Nat.le_of_ble_eq_true rfl⟩ rfl rfl (Nat.le_of_ble_eq_true rfl) dX6_look_42 ?_
    obtain ⟨x5_5, e_6, hM⟩ := bd hM
    refine x_top e_6 ?_
    refine x_istore (L' := [(5, .int x5_5), (0, .ref (ad g 92)), (1, .int x1), (2, .int x2), (3, .int x3), (4, .int x4)]) C dX6_look_45 (by decide) rfl ?_
    refine x_iload_n C dX6_look_47 3 rfl rfl ?_
    refine x_if_lt (tgt := 57) C dX6_look_48 (by decide) (fun c_7 => ?_) (fun c_7 => ?_)
    · have hM := ip c_7 hM
      refine x_sub (L' := [(0, .ref (ad g 92)), (1, .int x1), (2, .int x2), (3, .int x3), (4, .int x4), (5, .int x5_5)]) [1, 2, 3, 4, 5, 0] rfl ?_
      exact o_X6_look_b57 C hR Hh31 x1 x2 x3 x4 x5_5 w_2 hM
    · have hM := iq c_7 hM
      refine x_iload C dX6_look_51 0 rfl ?_
      refine x_iload_n C dX6_look_53 4 rfl rfl ?_
      refine x_icmp_ge (tgt := 61) C dX6_look_54 (by decide) (fun c_8 => ?_) (fun c_8 => ?_)
      · have hM := ip c_8 hM
        refine x_iconst (v := 0) C dX6_look_61 (by decide) ?_
        obtain ⟨x6_9, e_10, hM⟩ := bd hM
        refine x_top e_10 ?_
        refine x_istore (L' := [(6, .int x6_9), (5, .int x5_5), (0, .ref (ad g 92)), (1, .int x1), (2, .int x2), (3, .int x3), (4, .int x4)]) C dX6_look_62 (by decide) rfl ?_
        refine x_iload C dX6_look_64 0 rfl ?_
        refine x_if_eq (tgt := 74) C dX6_look_66 (by decide) (fun c_11 => ?_) (fun c_11 => ?_)
        · have hM := ip c_11 hM
          refine x_iload_n C dX6_look_74 4 rfl rfl ?_
          obtain ⟨x2_12, e_13, hM⟩ := bd hM
          refine x_top e_13 ?_
          refine x_istore_n (L' := [(2, .int x2_12), (6, .int x6_9), (5, .int x5_5), (0, .ref (ad g 92)), (1, .int x1), (3, .int x3), (4, .int x4)]) C dX6_look_75 rfl (by decide) rfl ?_
          refine x_iload C dX6_look_76 1 rfl ?_
          refine x_if_eq (tgt := 86) C dX6_look_78 (by decide) (fun c_14 => ?_) (fun c_14 => ?_)
          · have hM := ip c_14 hM
            refine x_iload_n C dX6_look_86 5 rfl rfl ?_
            obtain ⟨x3_15, e_16, hM⟩ := bd hM
            refine x_top e_16 ?_
            refine x_istore_n (L' := [(3, .int x3_15), (2, .int x2_12), (6, .int x6_9), (5, .int x5_5), (0, .ref (ad g 92)), (1, .int x1), (4, .int x4)]) C dX6_look_87 rfl (by decide) rfl ?_
            obtain ⟨x4_17, e_18, hM⟩ := bd hM
            refine x_iinc (L' := [(4, .int x4_17), (3, .int x3_15), (2, .int x2_12), (6, .int x6_9), (5, .int x5_5), (0, .ref (ad g 92)), (1, .int x1)]) C dX6_look_88 6 rfl (v := x4_17) (by rw [e_18]; first | rfl | decide) (by decide) rfl ?_
            refine x_goto (tgt := 31) C dX6_look_91 (by decide) ?_
            refine x_sub (L' := [(0, .ref (ad g 92)), (1, .int x1), (2, .int x2_12), (3, .int x3_15), (4, .int x4_17)]) [5, 6, 2, 1, 0] rfl ?_
            exact Hh31 x1 x2_12 x3_15 x4_17 w_2 hM
          · have hM := iq c_14 hM
            refine x_iload C dX6_look_81 2 rfl ?_
            refine x_goto (tgt := 87) C dX6_look_83 (by decide) ?_
            obtain ⟨x3_19, e_20, hM⟩ := bd hM
            refine x_top e_20 ?_
            refine x_istore_n (L' := [(3, .int x3_19), (2, .int x2_12), (6, .int x6_9), (5, .int x5_5), (0, .ref (ad g 92)), (1, .int x1), (4, .int x4)]) C dX6_look_87 rfl (by decide) rfl ?_
            obtain ⟨x4_21, e_22, hM⟩ := bd hM
            refine x_iinc (L' := [(4, .int x4_21), (3, .int x3_19), (2, .int x2_12), (6, .int x6_9), (5, .int x5_5), (0, .ref (ad g 92)), (1, .int x1)]) C dX6_look_88 6 rfl (v := x4_21) (by rw [e_22]; first | rfl | decide) (by decide) rfl ?_
            refine x_goto (tgt := 31) C dX6_look_91 (by decide) ?_
            refine x_sub (L' := [(0, .ref (ad g 92)), (1, .int x1), (2, .int x2_12), (3, .int x3_19), (4, .int x4_21)]) [5, 6, 2, 1, 0] rfl ?_
            exact Hh31 x1 x2_12 x3_19 x4_21 w_2 hM
        · have hM := iq c_11 hM
          refine x_iload C dX6_look_69 6 rfl ?_
          refine x_goto (tgt := 75) C dX6_look_71 (by decide) ?_
          obtain ⟨x2_23, e_24, hM⟩ := bd hM
          refine x_top e_24 ?_
          refine x_istore_n (L' := [(2, .int x2_23), (6, .int x6_9), (5, .int x5_5), (0, .ref (ad g 92)), (1, .int x1), (3, .int x3), (4, .int x4)]) C dX6_look_75 rfl (by decide) rfl ?_
          refine x_iload C dX6_look_76 1 rfl ?_
          refine x_if_eq (tgt := 86) C dX6_look_78 (by decide) (fun c_25 => ?_) (fun c_25 => ?_)
          · have hM := ip c_25 hM
            refine x_iload_n C dX6_look_86 5 rfl rfl ?_
            obtain ⟨x3_26, e_27, hM⟩ := bd hM
            refine x_top e_27 ?_
            refine x_istore_n (L' := [(3, .int x3_26), (2, .int x2_23), (6, .int x6_9), (5, .int x5_5), (0, .ref (ad g 92)), (1, .int x1), (4, .int x4)]) C dX6_look_87 rfl (by decide) rfl ?_
            obtain ⟨x4_28, e_29, hM⟩ := bd hM
            refine x_iinc (L' := [(4, .int x4_28), (3, .int x3_26), (2, .int x2_23), (6, .int x6_9), (5, .int x5_5), (0, .ref (ad g 92)), (1, .int x1)]) C dX6_look_88 6 rfl (v := x4_28) (by rw [e_29]; first | rfl | decide) (by decide) rfl ?_
            refine x_goto (tgt := 31) C dX6_look_91 (by decide) ?_
            refine x_sub (L' := [(0, .ref (ad g 92)), (1, .int x1), (2, .int x2_23), (3, .int x3_26), (4, .int x4_28)]) [5, 6, 2, 1, 0] rfl ?_
            exact Hh31 x1 x2_23 x3_26 x4_28 w_2 hM
          · have hM := iq c_25 hM
            refine x_iload C dX6_look_81 2 rfl ?_
            refine x_goto (tgt := 87) C dX6_look_83 (by decide) ?_
            obtain ⟨x3_30, e_31, hM⟩ := bd hM
            refine x_top e_31 ?_
            refine x_istore_n (L' := [(3, .int x3_30), (2, .int x2_23), (6, .int x6_9), (5, .int x5_5), (0, .ref (ad g 92)), (1, .int x1), (4, .int x4)]) C dX6_look_87 rfl (by decide) rfl ?_
            obtain ⟨x4_32, e_33, hM⟩ := bd hM
            refine x_iinc (L' := [(4, .int x4_32), (3, .int x3_30), (2, .int x2_23), (6, .int x6_9), (5, .int x5_5), (0, .ref (ad g 92)), (1, .int x1)]) C dX6_look_88 6 rfl (v := x4_32) (by rw [e_33]; first | rfl | decide) (by decide) rfl ?_
            refine x_goto (tgt := 31) C dX6_look_91 (by decide) ?_
            refine x_sub (L' := [(0, .ref (ad g 92)), (1, .int x1), (2, .int x2_23), (3, .int x3_30), (4, .int x4_32)]) [5, 6, 2, 1, 0] rfl ?_
            exact Hh31 x1 x2_23 x3_30 x4_32 w_2 hM
      · have hM := iq c_8 hM
        refine x_sub (L' := [(0, .ref (ad g 92)), (1, .int x1), (2, .int x2), (3, .int x3), (4, .int x4), (5, .int x5_5)]) [1, 2, 3, 4, 5, 0] rfl ?_
        exact o_X6_look_b57 C hR Hh31 x1 x2 x3 x4 x5_5 w_2 hM
theorem o_X6_look_l31 {E : Ex} {g : Gx} (C : Ctx E RX6 cX6_look rm_X6_look 7 g) {rr : Int32} {wr : Wd} (hR : Rets E g (some .int) (some (.int rr)) wr) : ∀ (n : Nat) (x1 : Int32) (x2 : Int32) (x3 : Int32) (x4 : Int32) (w : Wd), f_X6_look_l31 n x1 x2 x3 x4 w = some (rr, wr) → Xx E 7 g 31 [(0, .ref (ad g 92)), (1, .int x1), (2, .int x2), (3, .int x3), (4, .int x4)] [] w := by
  intro n
  induction n with
  | zero =>
    intro x1 x2 x3 x4 w hM
    rw [f_X6_look_l31] at hM
    cases hM
  | succ n ih =>
    intro x1 x2 x3 x4 w hM
    rw [f_X6_look_l31] at hM
    exact o_X6_look_h31 C hR ih x1 x2 x3 x4 w hM
set_option maxHeartbeats 1000000 in
set_option maxRecDepth 20000 in
theorem o_X6_look_b0 {E : Ex} {g : Gx} (C : Ctx E RX6 cX6_look rm_X6_look 7 g) {rr : Int32} {wr : Wd} (hR : Rets E g (some .int) (some (.int rr)) wr) (x1 : Int32) (w : Wd) (hM : f_X6_look_b0 x1 w = some (rr, wr)) : Xx E 7 g 0 [(0, .ref (ad g 92)), (1, .int x1)] [] w := by
  unfold f_X6_look_b0 at hM
  refine x_aload_n C dX6_look_0 0 rfl rfl ?_
  refine x_iload_n C dX6_look_1 1 rfl rfl ?_
  obtain ⟨r_2, w_1, h_3, hM⟩ := cl hM
  refine x_callV (As := [.int x1]) C (c_X6_isOne E.l g x1 w h_3) k_X6_isOne kd_92 (by decide) rfl rfl gw_859 rfl rfl ⟨Nat.le_of_ble_eq_true rfl, Nat.le_of_ble_eq_true rfl⟩ rfl rfl (Nat.le_of_ble_eq_true rfl) dX6_look_2 ?_
  refine x_if_ne (tgt := 10) C dX6_look_5 (by decide) (fun c_4 => ?_) (fun c_4 => ?_)
  · have hM := iq c_4 hM
    refine x_aload_n C dX6_look_10 0 rfl rfl ?_
    refine x_iload_n C dX6_look_11 1 rfl rfl ?_
    refine x_iconst (v := 0) C dX6_look_12 (by decide) ?_
    obtain ⟨r_6, w_5, h_7, hM⟩ := cl hM
    refine x_callV (As := [.int x1, .int (0 : Int32)]) C (c_X6_weights E.l g x1 (0 : Int32) w_1 h_7) k_X6_weights kd_92 (by decide) rfl rfl gw_1023 rfl rfl ⟨Nat.le_of_ble_eq_true rfl, Nat.le_of_ble_eq_true rfl⟩ rfl rfl (Nat.le_of_ble_eq_true rfl) dX6_look_13 ?_
    refine x_iconst (v := 2) C dX6_look_16 (by decide) ?_
    refine x_icmp_ge (tgt := 23) C dX6_look_17 (by decide) (fun c_8 => ?_) (fun c_8 => ?_)
    · have hM := ip c_8 hM
      refine x_bipush (v := -9) C dX6_look_23 (by decide) ?_
      obtain ⟨x2_9, e_10, hM⟩ := bd hM
      refine x_top e_10 ?_
      refine x_istore_n (L' := [(2, .int x2_9), (0, .ref (ad g 92)), (1, .int x1)]) C dX6_look_25 rfl (by decide) rfl ?_
      refine x_iconst (v := 0) C dX6_look_26 (by decide) ?_
      obtain ⟨x3_11, e_12, hM⟩ := bd hM
      refine x_top e_12 ?_
      refine x_istore_n (L' := [(3, .int x3_11), (2, .int x2_9), (0, .ref (ad g 92)), (1, .int x1)]) C dX6_look_27 rfl (by decide) rfl ?_
      refine x_iconst (v := 1) C dX6_look_28 (by decide) ?_
      obtain ⟨x4_13, e_14, hM⟩ := bd hM
      refine x_top e_14 ?_
      refine x_istore (L' := [(4, .int x4_13), (3, .int x3_11), (2, .int x2_9), (0, .ref (ad g 92)), (1, .int x1)]) C dX6_look_29 (by decide) rfl ?_
      refine x_sub (L' := [(0, .ref (ad g 92)), (1, .int x1), (2, .int x2_9), (3, .int x3_11), (4, .int x4_13)]) [3, 4, 2, 1, 0] rfl ?_
      exact o_X6_look_l31 C hR 300 x1 x2_9 x3_11 x4_13 w_5 hM
    · have hM := iq c_8 hM
      refine x_bipush (v := -9) C dX6_look_20 (by decide) ?_
      obtain ⟨rfl, rfl⟩ := rt hM
      exact x_iret C hR rfl dX6_look_22
  · have hM := ip c_4 hM
    refine x_iconst (v := -1) C dX6_look_8 (by decide) ?_
    obtain ⟨rfl, rfl⟩ := rt hM
    exact x_iret C hR rfl dX6_look_9
theorem c_X6_look (l : Launch) (g : Gx) (x1 : Int32) (w : Wd) {rr : Int32} {wr : Wd} (hM : f_X6_look x1 w = some (rr, wr)) : MetM l yX6_look cX6_look 7 (some .int) rm_X6_look g [.ref (ad g 92), .int x1] w (some (.int rr)) wr := by
  refine met_of (by decide) (Nat.le_of_ble_eq_true rfl) (fun E hl C hR => ?_)
  refine x_sub (L' := [(0, .ref (ad g 92)), (1, .int x1)]) [0, 1] rfl ?_
  exact o_X6_look_b0 C hR x1 w hM
abbrev rm_X6_rate : Room := { frames := 2, cells := 0, slots := 0, locals := 43 }
set_option maxHeartbeats 1000000 in
set_option maxRecDepth 20000 in
theorem o_X6_rate_b17 {E : Ex} {g : Gx} (C : Ctx E RX6 cX6_rate rm_X6_rate 6 g) {rr : Int32} {wr : Wd} (hR : Rets E g (some .int) (some (.int rr)) wr) (w : Wd) (hM : f_X6_rate_b17 w = some (rr, wr)) : Xx E 6 g 17 [] [] w := by
  unfold f_X6_rate_b17 at hM
  refine x_ldc (v := -1000000) C gw_1032 dX6_rate_17 ?_
  obtain ⟨rfl, rfl⟩ := rt hM
  exact x_iret C hR rfl dX6_rate_19
set_option maxHeartbeats 1000000 in
set_option maxRecDepth 20000 in
theorem o_X6_rate_b0 {E : Ex} {g : Gx} (C : Ctx E RX6 cX6_rate rm_X6_rate 6 g) {rr : Int32} {wr : Wd} (hR : Rets E g (some .int) (some (.int rr)) wr) (x1 : Int32) (x2 : Int32) (w : Wd) (hM : f_X6_rate_b0 x1 x2 w = some (rr, wr)) : Xx E 6 g 0 [(0, .ref (ad g 92)), (1, .int x1), (2, .int x2)] [] w := by
  unfold f_X6_rate_b0 at hM
  refine x_iload_n C dX6_rate_0 1 rfl rfl ?_
  refine x_iconst (v := 0) C dX6_rate_1 (by decide) ?_
  refine x_iconst (v := 5) C dX6_rate_2 (by decide) ?_
  obtain ⟨r_2, w_1, h_3, hM⟩ := cl hM
  refine x_callS (As := [.int x1, .int (0 : Int32), .int (5 : Int32)]) C (c_X6_in E.l g x1 (0 : Int32) (5 : Int32) w h_3) k_X6_in gw_813 rfl rfl ⟨Nat.le_of_ble_eq_true rfl, Nat.le_of_ble_eq_true rfl⟩ rfl rfl (Nat.le_of_ble_eq_true rfl) dX6_rate_3 ?_
  refine x_if_eq (tgt := 17) C dX6_rate_6 (by decide) (fun c_4 => ?_) (fun c_4 => ?_)
  · have hM := ip c_4 hM
    refine x_sub (L' := []) [] rfl ?_
    exact o_X6_rate_b17 C hR w_1 hM
  · have hM := iq c_4 hM
    refine x_aload_n C dX6_rate_9 0 rfl rfl ?_
    refine x_iload_n C dX6_rate_10 2 rfl rfl ?_
    obtain ⟨r_6, w_5, h_7, hM⟩ := cl hM
    refine x_callV (As := [.int x2]) C (c_X6_isOne E.l g x2 w_1 h_7) k_X6_isOne kd_92 (by decide) rfl rfl gw_859 rfl rfl ⟨Nat.le_of_ble_eq_true rfl, Nat.le_of_ble_eq_true rfl⟩ rfl rfl (Nat.le_of_ble_eq_true rfl) dX6_rate_11 ?_
    refine x_if_ne (tgt := 20) C dX6_rate_14 (by decide) (fun c_8 => ?_) (fun c_8 => ?_)
    · have hM := iq c_8 hM
      refine x_aload_n C dX6_rate_20 0 rfl rfl ?_
      refine xg_6_7 C kd_92 gw_721 dX6_rate_21 ?_
      refine x_bipush (v := 8) C dX6_rate_24 (by decide) ?_
      refine x_iload_n C dX6_rate_26 2 rfl rfl ?_
      refine x_iadd C dX6_rate_27 ?_
      obtain ⟨q_9, hM⟩ := gd hM
      refine x_iald C kd_96 ln_96 q_9 rfl dX6_rate_28 ?_
      obtain ⟨x3_10, e_11, hM⟩ := bd hM
      refine x_top e_11 ?_
      refine x_istore_n (L' := [(3, .int x3_10), (0, .ref (ad g 92)), (1, .int x1), (2, .int x2)]) C dX6_rate_29 rfl (by decide) rfl ?_
      refine x_iload_n C dX6_rate_30 0 rfl rfl ?_
      refine x_aload_n C dX6_rate_31 1 rfl rfl ?_
      refine xg_6_1 C kd_92 gw_715 dX6_rate_32 ?_
      refine x_iload_n C dX6_rate_35 3 rfl rfl ?_
      obtain ⟨q_12, hM⟩ := gd hM
      refine x_iald C kd_93 ln_93 q_12 rfl dX6_rate_36 ?_
      refine x_iadd C dX6_rate_37 ?_
      obtain ⟨x4_13, e_14, hM⟩ := bd hM
      refine x_top e_14 ?_
      refine x_istore (L' := [(4, .int x4_13), (3, .int x3_10), (0, .ref (ad g 92)), (1, .int x1), (2, .int x2)]) C dX6_rate_38 (by decide) rfl ?_
      refine x_iload_n C dX6_rate_40 1 rfl rfl ?_
      refine x_aload_n C dX6_rate_41 2 rfl rfl ?_
      refine xg_6_7 C kd_92 gw_721 dX6_rate_42 ?_
      refine x_bipush (v := 14) C dX6_rate_45 (by decide) ?_
      refine x_iload_n C dX6_rate_47 4 rfl rfl ?_
      refine x_iadd C dX6_rate_48 ?_
      obtain ⟨q_15, hM⟩ := gd hM
      refine x_iald C kd_96 ln_96 q_15 rfl dX6_rate_49 ?_
      obtain ⟨r_17, w_16, h_18, hM⟩ := cl hM
      refine x_callS (As := [.int (wget w_5 96 (((14 : Int32) + x2).toNatClampNeg))]) C (c_X6_bits E.l g (wget w_5 96 (((14 : Int32) + x2).toNatClampNeg)) w_5 h_18) k_X6_bits gw_909 rfl rfl ⟨Nat.le_of_ble_eq_true rfl, Nat.le_of_ble_eq_true rfl⟩ rfl rfl (Nat.le_of_ble_eq_true rfl) dX6_rate_50 ?_
      refine x_isub C dX6_rate_53 ?_
      obtain ⟨x5_19, e_20, hM⟩ := bd hM
      refine x_top e_20 ?_
      refine x_istore (L' := [(5, .int x5_19), (4, .int x4_13), (3, .int x3_10), (0, .ref (ad g 92)), (1, .int x1), (2, .int x2)]) C dX6_rate_54 (by decide) rfl ?_
      refine x_iload_n C dX6_rate_56 4 rfl rfl ?_
      by_cases c_23 : x1 = 1
      · have hM := ip c_23 hM
        refine x_tableIn (off := 35) (tgt := 92) C dX6_rate_57 (by rw [c_23]; decide) (by rw [c_23]; decide) (by rw [c_23]; rfl) (by decide) ?_
        refine x_aload_n C dX6_rate_92 3 rfl rfl ?_
        refine x_dup C dX6_rate_93 rfl ?_
        refine xg_6_14 C kd_92 gw_728 dX6_rate_94 ?_
        refine x_ldc2 (v := 11) C gw_1033 dX6_rate_97 ?_
        refine x_ladd C dX6_rate_100 ?_
        obtain ⟨w_21, e_22, hM⟩ := bd hM
        refine xp_6_14 C kd_92 gw_728 dX6_rate_101 ?_
        refine x_w e_22 ?_
        refine x_iload C dX6_rate_104 1 rfl ?_
        obtain ⟨rfl, rfl⟩ := rt hM
        exact x_iret C hR rfl dX6_rate_106
      have hM := iq c_23 hM
      by_cases c_26 : x1 = 2
      · have hM := ip c_26 hM
        refine x_tableIn (off := 50) (tgt := 107) C dX6_rate_57 (by rw [c_26]; decide) (by rw [c_26]; decide) (by rw [c_26]; rfl) (by decide) ?_
        refine x_aload_n C dX6_rate_107 3 rfl rfl ?_
        refine x_dup C dX6_rate_108 rfl ?_
        refine xg_6_14 C kd_92 gw_728 dX6_rate_109 ?_
        refine x_ldc2 (v := 101) C gw_1034 dX6_rate_112 ?_
        refine x_ladd C dX6_rate_115 ?_
        obtain ⟨w_24, e_25, hM⟩ := bd hM
        refine xp_6_14 C kd_92 gw_728 dX6_rate_116 ?_
        refine x_w e_25 ?_
        refine x_iload C dX6_rate_119 0 rfl ?_
        obtain ⟨rfl, rfl⟩ := rt hM
        exact x_iret C hR rfl dX6_rate_121
      have hM := iq c_26 hM
      by_cases c_29 : x1 = 3
      · have hM := ip c_29 hM
        refine x_tableIn (off := 65) (tgt := 122) C dX6_rate_57 (by rw [c_29]; decide) (by rw [c_29]; decide) (by rw [c_29]; rfl) (by decide) ?_
        refine x_aload_n C dX6_rate_122 3 rfl rfl ?_
        refine x_dup C dX6_rate_123 rfl ?_
        refine xg_6_14 C kd_92 gw_728 dX6_rate_124 ?_
        refine x_ldc2 (v := 1011) C gw_1035 dX6_rate_127 ?_
        refine x_ladd C dX6_rate_130 ?_
        obtain ⟨w_27, e_28, hM⟩ := bd hM
        refine xp_6_14 C kd_92 gw_728 dX6_rate_131 ?_
        refine x_w e_28 ?_
        refine x_iconst (v := 2) C dX6_rate_134 (by decide) ?_
        refine x_iload C dX6_rate_135 1 rfl ?_
        refine x_imul C dX6_rate_137 ?_
        obtain ⟨rfl, rfl⟩ := rt hM
        exact x_iret C hR rfl dX6_rate_138
      have hM := iq c_29 hM
      by_cases c_32 : x1 = 4
      · have hM := ip c_32 hM
        refine x_tableIn (off := 82) (tgt := 139) C dX6_rate_57 (by rw [c_32]; decide) (by rw [c_32]; decide) (by rw [c_32]; rfl) (by decide) ?_
        refine x_aload_n C dX6_rate_139 3 rfl rfl ?_
        refine x_dup C dX6_rate_140 rfl ?_
        refine xg_6_14 C kd_92 gw_728 dX6_rate_141 ?_
        refine x_ldc2 (v := 10101) C gw_1036 dX6_rate_144 ?_
        refine x_ladd C dX6_rate_147 ?_
        obtain ⟨w_30, e_31, hM⟩ := bd hM
        refine xp_6_14 C kd_92 gw_728 dX6_rate_148 ?_
        refine x_w e_31 ?_
        refine x_iload C dX6_rate_151 0 rfl ?_
        refine x_iload_n C dX6_rate_153 5 rfl rfl ?_
        refine x_iadd C dX6_rate_154 ?_
        obtain ⟨rfl, rfl⟩ := rt hM
        exact x_iret C hR rfl dX6_rate_155
      have hM := iq c_32 hM
      by_cases c_35 : x1 = 5
      · have hM := ip c_35 hM
        refine x_tableIn (off := 99) (tgt := 156) C dX6_rate_57 (by rw [c_35]; decide) (by rw [c_35]; decide) (by rw [c_35]; rfl) (by decide) ?_
        refine x_aload_n C dX6_rate_156 3 rfl rfl ?_
        refine x_dup C dX6_rate_157 rfl ?_
        refine xg_6_14 C kd_92 gw_728 dX6_rate_158 ?_
        refine x_ldc2 (v := 100001) C gw_1037 dX6_rate_161 ?_
        refine x_ladd C dX6_rate_164 ?_
        obtain ⟨w_33, e_34, hM⟩ := bd hM
        refine xp_6_14 C kd_92 gw_728 dX6_rate_165 ?_
        refine x_w e_34 ?_
        refine x_iload_n C dX6_rate_168 2 rfl rfl ?_
        refine x_aload_n C dX6_rate_169 3 rfl rfl ?_
        refine xg_6_7 C kd_92 gw_721 dX6_rate_170 ?_
        refine x_iconst (v := 1) C dX6_rate_173 (by decide) ?_
        refine x_iald C kd_96 ln_96 (by decide) (j := 1) (by decide) dX6_rate_174 ?_
        refine x_iadd C dX6_rate_175 ?_
        obtain ⟨rfl, rfl⟩ := rt hM
        exact x_iret C hR rfl dX6_rate_176
      have hM := iq c_35 hM
      have tc_23 := lv_neT (a := 1) c_23 (by decide)
      have tc_26 := lv_neT (a := 2) c_26 (by decide)
      have tc_29 := lv_neT (a := 3) c_29 (by decide)
      have tc_32 := lv_neT (a := 4) c_32 (by decide)
      have tc_35 := lv_neT (a := 5) c_35 (by decide)
      refine x_tableOut (tgt := 177) C dX6_rate_57 (by omega) (by decide) ?_
      refine x_aload_n C dX6_rate_177 3 rfl rfl ?_
      refine x_dup C dX6_rate_178 rfl ?_
      refine xg_6_14 C kd_92 gw_728 dX6_rate_179 ?_
      refine x_lconst (v := 1) C dX6_rate_182 (by decide) ?_
      refine x_ladd C dX6_rate_183 ?_
      obtain ⟨w_36, e_37, hM⟩ := bd hM
      refine xp_6_14 C kd_92 gw_728 dX6_rate_184 ?_
      refine x_w e_37 ?_
      refine x_iload_n C dX6_rate_187 2 rfl rfl ?_
      obtain ⟨rfl, rfl⟩ := rt hM
      exact x_iret C hR rfl dX6_rate_188
    · have hM := ip c_8 hM
      refine x_sub (L' := []) [] rfl ?_
      exact o_X6_rate_b17 C hR w_5 hM
theorem c_X6_rate (l : Launch) (g : Gx) (x1 : Int32) (x2 : Int32) (w : Wd) {rr : Int32} {wr : Wd} (hM : f_X6_rate x1 x2 w = some (rr, wr)) : MetM l yX6_rate cX6_rate 6 (some .int) rm_X6_rate g [.ref (ad g 92), .int x1, .int x2] w (some (.int rr)) wr := by
  refine met_of (by decide) (Nat.le_of_ble_eq_true rfl) (fun E hl C hR => ?_)
  refine x_sub (L' := [(0, .ref (ad g 92)), (1, .int x1), (2, .int x2)]) [0, 1, 2] rfl ?_
  exact o_X6_rate_b0 C hR x1 x2 w hM
abbrev rm_X6_keep : Room := { frames := 1, cells := 0, slots := 0, locals := 24 }
set_option maxHeartbeats 1000000 in
set_option maxRecDepth 20000 in
theorem o_X6_keep_b0 {E : Ex} {g : Gx} (C : Ctx E RX6 cX6_keep rm_X6_keep 2 g) {rr : Int32} {wr : Wd} (hR : Rets E g (some .int) (some (.int rr)) wr) (x1 : Int32) (w : Wd) (hM : f_X6_keep_b0 x1 w = some (rr, wr)) : Xx E 2 g 0 [(0, .ref (ad g 92)), (1, .int x1)] [] w := by
  unfold f_X6_keep_b0 at hM
  refine x_iload_n C dX6_keep_0 1 rfl rfl ?_
  refine x_iconst (v := 0) C dX6_keep_1 (by decide) ?_
  refine x_iconst (v := 1) C dX6_keep_2 (by decide) ?_
  obtain ⟨r_2, w_1, h_3, hM⟩ := cl hM
  refine x_callS (As := [.int x1, .int (0 : Int32), .int (1 : Int32)]) C (c_X6_in E.l g x1 (0 : Int32) (1 : Int32) w h_3) k_X6_in gw_813 rfl rfl ⟨Nat.le_of_ble_eq_true rfl, Nat.le_of_ble_eq_true rfl⟩ rfl rfl (Nat.le_of_ble_eq_true rfl) dX6_keep_3 ?_
  refine x_if_ne (tgt := 11) C dX6_keep_6 (by decide) (fun c_4 => ?_) (fun c_4 => ?_)
  · have hM := iq c_4 hM
    refine x_aload_n C dX6_keep_11 0 rfl rfl ?_
    refine xg_6_10 C kd_92 gw_724 dX6_keep_12 ?_
    refine x_bipush (v := 26) C dX6_keep_15 (by decide) ?_
    refine x_iload_n C dX6_keep_17 1 rfl rfl ?_
    refine x_imul C dX6_keep_18 ?_
    refine x_aload_n C dX6_keep_19 0 rfl rfl ?_
    refine xg_6_7 C kd_92 gw_721 dX6_keep_20 ?_
    refine x_iconst (v := 0) C dX6_keep_23 (by decide) ?_
    obtain ⟨r_6, w_5, h_7, hM⟩ := cl hM
    refine x_callSv (As := [.ref (ad g 98), .int ((26 : Int32) * x1), .ref (ad g 96), .int (0 : Int32)]) C (c_X6_copy E.l g 98 96 ((26 : Int32) * x1) (0 : Int32) kd_98 kd_96 w_1 h_7) k_X6_copy gw_871 rfl rfl ⟨Nat.le_of_ble_eq_true rfl, Nat.le_of_ble_eq_true rfl⟩ rfl rfl (Nat.le_of_ble_eq_true rfl) dX6_keep_24 ?_
    refine x_aload_n C dX6_keep_27 0 rfl rfl ?_
    refine xg_6_11 C kd_92 gw_725 dX6_keep_28 ?_
    refine x_iload_n C dX6_keep_31 1 rfl rfl ?_
    refine x_iconst (v := 1) C dX6_keep_32 (by decide) ?_
    obtain ⟨q_8, hM⟩ := gd hM
    obtain ⟨w_9, e_10, hM⟩ := bd hM
    refine x_zast C kd_99 ln_99 q_8 rfl (by decide) dX6_keep_33 ?_
    refine x_w e_10 ?_
    refine x_aload_n C dX6_keep_34 0 rfl rfl ?_
    refine xg_6_7 C kd_92 gw_721 dX6_keep_35 ?_
    refine x_iconst (v := 0) C dX6_keep_38 (by decide) ?_
    refine x_iald C kd_96 ln_96 (by decide) (j := 0) (by decide) dX6_keep_39 ?_
    obtain ⟨rfl, rfl⟩ := rt hM
    exact x_iret C hR rfl dX6_keep_40
  · have hM := ip c_4 hM
    refine x_iconst (v := -1) C dX6_keep_9 (by decide) ?_
    obtain ⟨rfl, rfl⟩ := rt hM
    exact x_iret C hR rfl dX6_keep_10
theorem c_X6_keep (l : Launch) (g : Gx) (x1 : Int32) (w : Wd) {rr : Int32} {wr : Wd} (hM : f_X6_keep x1 w = some (rr, wr)) : MetM l yX6_keep cX6_keep 2 (some .int) rm_X6_keep g [.ref (ad g 92), .int x1] w (some (.int rr)) wr := by
  refine met_of (by decide) (Nat.le_of_ble_eq_true rfl) (fun E hl C hR => ?_)
  refine x_sub (L' := [(0, .ref (ad g 92)), (1, .int x1)]) [0, 1] rfl ?_
  exact o_X6_keep_b0 C hR x1 w hM
abbrev rm_X6_back : Room := { frames := 1, cells := 0, slots := 0, locals := 24 }
set_option maxHeartbeats 1000000 in
set_option maxRecDepth 20000 in
theorem o_X6_back_b0 {E : Ex} {g : Gx} (C : Ctx E RX6 cX6_back rm_X6_back 2 g) {rr : Int32} {wr : Wd} (hR : Rets E g (some .int) (some (.int rr)) wr) (x1 : Int32) (w : Wd) (hM : f_X6_back_b0 x1 w = some (rr, wr)) : Xx E 2 g 0 [(0, .ref (ad g 92)), (1, .int x1)] [] w := by
  unfold f_X6_back_b0 at hM
  refine x_iload_n C dX6_back_0 1 rfl rfl ?_
  refine x_iconst (v := 0) C dX6_back_1 (by decide) ?_
  refine x_iconst (v := 1) C dX6_back_2 (by decide) ?_
  obtain ⟨r_2, w_1, h_3, hM⟩ := cl hM
  refine x_callS (As := [.int x1, .int (0 : Int32), .int (1 : Int32)]) C (c_X6_in E.l g x1 (0 : Int32) (1 : Int32) w h_3) k_X6_in gw_813 rfl rfl ⟨Nat.le_of_ble_eq_true rfl, Nat.le_of_ble_eq_true rfl⟩ rfl rfl (Nat.le_of_ble_eq_true rfl) dX6_back_3 ?_
  refine x_if_ne (tgt := 11) C dX6_back_6 (by decide) (fun c_4 => ?_) (fun c_4 => ?_)
  · have hM := iq c_4 hM
    refine x_aload_n C dX6_back_11 0 rfl rfl ?_
    refine xg_6_11 C kd_92 gw_725 dX6_back_12 ?_
    refine x_iload_n C dX6_back_15 1 rfl rfl ?_
    obtain ⟨q_5, hM⟩ := gd hM
    refine x_zald C kd_99 ln_99 q_5 rfl dX6_back_16 ?_
    refine x_if_ne (tgt := 23) C dX6_back_17 (by decide) (fun c_6 => ?_) (fun c_6 => ?_)
    · have hM := iq c_6 hM
      refine x_aload_n C dX6_back_23 0 rfl rfl ?_
      refine xg_6_7 C kd_92 gw_721 dX6_back_24 ?_
      refine x_iconst (v := 0) C dX6_back_27 (by decide) ?_
      refine x_aload_n C dX6_back_28 0 rfl rfl ?_
      refine xg_6_10 C kd_92 gw_724 dX6_back_29 ?_
      refine x_bipush (v := 26) C dX6_back_32 (by decide) ?_
      refine x_iload_n C dX6_back_34 1 rfl rfl ?_
      refine x_imul C dX6_back_35 ?_
      obtain ⟨r_8, w_7, h_9, hM⟩ := cl hM
      refine x_callSv (As := [.ref (ad g 96), .int (0 : Int32), .ref (ad g 98), .int ((26 : Int32) * x1)]) C (c_X6_copy E.l g 96 98 (0 : Int32) ((26 : Int32) * x1) kd_96 kd_98 w_1 h_9) k_X6_copy gw_871 rfl rfl ⟨Nat.le_of_ble_eq_true rfl, Nat.le_of_ble_eq_true rfl⟩ rfl rfl (Nat.le_of_ble_eq_true rfl) dX6_back_36 ?_
      refine x_aload_n C dX6_back_39 0 rfl rfl ?_
      refine x_iconst (v := 0) C dX6_back_40 (by decide) ?_
      obtain ⟨w_10, e_11, hM⟩ := bd hM
      refine xp_6_9 C kd_92 gw_723 dX6_back_41 ?_
      refine x_w e_11 ?_
      refine x_aload_n C dX6_back_44 0 rfl rfl ?_
      refine xg_6_7 C kd_92 gw_721 dX6_back_45 ?_
      refine x_iconst (v := 0) C dX6_back_48 (by decide) ?_
      refine x_iald C kd_96 ln_96 (by decide) (j := 0) (by decide) dX6_back_49 ?_
      obtain ⟨rfl, rfl⟩ := rt hM
      exact x_iret C hR rfl dX6_back_50
    · have hM := ip c_6 hM
      refine x_bipush (v := -2) C dX6_back_20 (by decide) ?_
      obtain ⟨rfl, rfl⟩ := rt hM
      exact x_iret C hR rfl dX6_back_22
  · have hM := ip c_4 hM
    refine x_iconst (v := -1) C dX6_back_9 (by decide) ?_
    obtain ⟨rfl, rfl⟩ := rt hM
    exact x_iret C hR rfl dX6_back_10
theorem c_X6_back (l : Launch) (g : Gx) (x1 : Int32) (w : Wd) {rr : Int32} {wr : Wd} (hM : f_X6_back x1 w = some (rr, wr)) : MetM l yX6_back cX6_back 2 (some .int) rm_X6_back g [.ref (ad g 92), .int x1] w (some (.int rr)) wr := by
  refine met_of (by decide) (Nat.le_of_ble_eq_true rfl) (fun E hl C hR => ?_)
  refine x_sub (L' := [(0, .ref (ad g 92)), (1, .int x1)]) [0, 1] rfl ?_
  exact o_X6_back_b0 C hR x1 w hM
abbrev rm_X6_count : Room := { frames := 0, cells := 0, slots := 0, locals := 0 }
set_option maxHeartbeats 1000000 in
set_option maxRecDepth 20000 in
theorem o_X6_count_b0 {E : Ex} {g : Gx} (C : Ctx E RX6 cX6_count rm_X6_count 2 g) {rr : Int32} {wr : Wd} (hR : Rets E g (some .int) (some (.int rr)) wr) (x1 : Int32) (w : Wd) (hM : f_X6_count_b0 x1 w = some (rr, wr)) : Xx E 2 g 0 [(0, .ref (ad g 92)), (1, .int x1)] [] w := by
  unfold f_X6_count_b0 at hM
  refine x_iload_n C dX6_count_0 1 rfl rfl ?_
  by_cases c_1 : x1 = 0
  · have hM := ip c_1 hM
    refine x_tableIn (off := 39) (tgt := 40) C dX6_count_1 (by rw [c_1]; decide) (by rw [c_1]; decide) (by rw [c_1]; rfl) (by decide) ?_
    refine x_aload_n C dX6_count_40 0 rfl rfl ?_
    refine xg_6_0 C kd_92 gw_714 dX6_count_41 ?_
    obtain ⟨rfl, rfl⟩ := rt hM
    exact x_iret C hR rfl dX6_count_44
  have hM := iq c_1 hM
  by_cases c_2 : x1 = 1
  · have hM := ip c_2 hM
    refine x_tableIn (off := 44) (tgt := 45) C dX6_count_1 (by rw [c_2]; decide) (by rw [c_2]; decide) (by rw [c_2]; rfl) (by decide) ?_
    refine x_aload_n C dX6_count_45 0 rfl rfl ?_
    refine xg_6_4 C kd_92 gw_718 dX6_count_46 ?_
    obtain ⟨rfl, rfl⟩ := rt hM
    exact x_iret C hR rfl dX6_count_49
  have hM := iq c_2 hM
  by_cases c_3 : x1 = 2
  · have hM := ip c_3 hM
    refine x_tableIn (off := 49) (tgt := 50) C dX6_count_1 (by rw [c_3]; decide) (by rw [c_3]; decide) (by rw [c_3]; rfl) (by decide) ?_
    refine x_aload_n C dX6_count_50 0 rfl rfl ?_
    refine xg_6_5 C kd_92 gw_719 dX6_count_51 ?_
    obtain ⟨rfl, rfl⟩ := rt hM
    exact x_iret C hR rfl dX6_count_54
  have hM := iq c_3 hM
  by_cases c_4 : x1 = 3
  · have hM := ip c_4 hM
    refine x_tableIn (off := 54) (tgt := 55) C dX6_count_1 (by rw [c_4]; decide) (by rw [c_4]; decide) (by rw [c_4]; rfl) (by decide) ?_
    refine x_aload_n C dX6_count_55 0 rfl rfl ?_
    refine xg_6_6 C kd_92 gw_720 dX6_count_56 ?_
    obtain ⟨rfl, rfl⟩ := rt hM
    exact x_iret C hR rfl dX6_count_59
  have hM := iq c_4 hM
  by_cases c_5 : x1 = 4
  · have hM := ip c_5 hM
    refine x_tableIn (off := 59) (tgt := 60) C dX6_count_1 (by rw [c_5]; decide) (by rw [c_5]; decide) (by rw [c_5]; rfl) (by decide) ?_
    refine x_aload_n C dX6_count_60 0 rfl rfl ?_
    refine xg_6_12 C kd_92 gw_726 dX6_count_61 ?_
    obtain ⟨rfl, rfl⟩ := rt hM
    exact x_iret C hR rfl dX6_count_64
  have hM := iq c_5 hM
  by_cases c_6 : x1 = 5
  · have hM := ip c_6 hM
    refine x_tableIn (off := 64) (tgt := 65) C dX6_count_1 (by rw [c_6]; decide) (by rw [c_6]; decide) (by rw [c_6]; rfl) (by decide) ?_
    refine x_aload_n C dX6_count_65 0 rfl rfl ?_
    refine xg_6_16 C kd_92 gw_730 dX6_count_66 ?_
    obtain ⟨rfl, rfl⟩ := rt hM
    exact x_iret C hR rfl dX6_count_69
  have hM := iq c_6 hM
  have tc_1 := lv_neT (a := 0) c_1 (by decide)
  have tc_2 := lv_neT (a := 1) c_2 (by decide)
  have tc_3 := lv_neT (a := 2) c_3 (by decide)
  have tc_4 := lv_neT (a := 3) c_4 (by decide)
  have tc_5 := lv_neT (a := 4) c_5 (by decide)
  have tc_6 := lv_neT (a := 5) c_6 (by decide)
  refine x_tableOut (tgt := 70) C dX6_count_1 (by omega) (by decide) ?_
  refine x_iconst (v := -1) C dX6_count_70 (by decide) ?_
  obtain ⟨rfl, rfl⟩ := rt hM
  exact x_iret C hR rfl dX6_count_71
theorem c_X6_count (l : Launch) (g : Gx) (x1 : Int32) (w : Wd) {rr : Int32} {wr : Wd} (hM : f_X6_count x1 w = some (rr, wr)) : MetM l yX6_count cX6_count 2 (some .int) rm_X6_count g [.ref (ad g 92), .int x1] w (some (.int rr)) wr := by
  refine met_of (by decide) (Nat.le_of_ble_eq_true rfl) (fun E hl C hR => ?_)
  refine x_sub (L' := [(0, .ref (ad g 92)), (1, .int x1)]) [0, 1] rfl ?_
  exact o_X6_count_b0 C hR x1 w hM
abbrev rm_X6_trace : Room := { frames := 0, cells := 0, slots := 0, locals := 0 }
set_option maxHeartbeats 1000000 in
set_option maxRecDepth 20000 in
theorem o_X6_trace_b0 {E : Ex} {g : Gx} (C : Ctx E RX6 cX6_trace rm_X6_trace 1 g) {rr : Int64} {wr : Wd} (hR : Rets E g (some .long) (some (.long rr)) wr) (w : Wd) (hM : f_X6_trace_b0 w = some (rr, wr)) : Xx E 1 g 0 [(0, .ref (ad g 92))] [] w := by
  unfold f_X6_trace_b0 at hM
  refine x_aload_n C dX6_trace_0 0 rfl rfl ?_
  refine xg_6_14 C kd_92 gw_728 dX6_trace_1 ?_
  obtain ⟨rfl, rfl⟩ := rt hM
  exact x_lret C hR rfl dX6_trace_4
theorem c_X6_trace (l : Launch) (g : Gx) (w : Wd) {rr : Int64} {wr : Wd} (hM : f_X6_trace w = some (rr, wr)) : MetM l yX6_trace cX6_trace 1 (some .long) rm_X6_trace g [.ref (ad g 92)] w (some (.long rr)) wr := by
  refine met_of (by decide) (Nat.le_of_ble_eq_true rfl) (fun E hl C hR => ?_)
  refine x_sub (L' := [(0, .ref (ad g 92))]) [0] rfl ?_
  exact o_X6_trace_b0 C hR w hM
