abbrev rm_X6_kept : Room := { frames := 5, cells := 0, slots := 0, locals := 113 }
set_option maxHeartbeats 1000000 in
set_option maxRecDepth 20000 in
theorem o_X6_kept_b193 {E : Ex} {g : Gx} (C : Ctx E RX6 cX6_kept rm_X6_kept 7 g) {rr : Int32} {wr : Wd} (hR : Rets E g (some .int) (some (.int rr)) wr) {kh68 : (Int32 → Int32 → Int32 → Int32 → Int32 → Wd → Option (Int32 × Wd))} (Hh68 : ∀ (x1 : Int32) (x2 : Int32) (x3 : Int32) (x4 : Int32) (x5 : Int32) (w : Wd), kh68 x1 x2 x3 x4 x5 w = some (rr, wr) → Xx E 7 g 68 [(0, .ref (ad g 92)), (1, .int x1), (2, .int x2), (3, .int x3), (4, .int x4), (5, .int x5)] [] w) (x1 : Int32) (x2 : Int32) (x3 : Int32) (x4 : Int32) (x5 : Int32) (w : Wd) (hM : f_X6_kept_b193 kh68 x1 x2 x3 x4 x5 w = some (rr, wr)) : Xx E 7 g 193 [(0, .ref (ad g 92)), (1, .int x1), (2, .int x2), (3, .int x3), (4, .int x4), (5, .int x5)] [] w := by
  unfold f_X6_kept_b193 at hM
  obtain ⟨x5_1, e_2, hM⟩ := bd hM
  refine x_iinc (L' := [(5, .int x5_1), (0, .ref (ad g 92)), (1, .int x1), (2, .int x2), (3, .int x3), (4, .int x4)]) C dX6_kept_193 5 rfl (v := x5_1) (by rw [e_2]; first | rfl | decide) (by decide) rfl ?_
  refine x_goto (tgt := 68) C dX6_kept_196 (by decide) ?_
  refine x_sub (L' := [(0, .ref (ad g 92)), (1, .int x1), (2, .int x2), (3, .int x3), (4, .int x4), (5, .int x5_1)]) [1, 2, 3, 4, 5, 0] rfl ?_
  exact Hh68 x1 x2 x3 x4 x5_1 w hM
set_option maxHeartbeats 1000000 in
set_option maxRecDepth 20000 in
theorem o_X6_kept_h113 {E : Ex} {g : Gx} (C : Ctx E RX6 cX6_kept rm_X6_kept 7 g) {rr : Int32} {wr : Wd} (hR : Rets E g (some .int) (some (.int rr)) wr) {kh68 : (Int32 → Int32 → Int32 → Int32 → Int32 → Wd → Option (Int32 × Wd))} (Hh68 : ∀ (x1 : Int32) (x2 : Int32) (x3 : Int32) (x4 : Int32) (x5 : Int32) (w : Wd), kh68 x1 x2 x3 x4 x5 w = some (rr, wr) → Xx E 7 g 68 [(0, .ref (ad g 92)), (1, .int x1), (2, .int x2), (3, .int x3), (4, .int x4), (5, .int x5)] [] w) {kh113 : (Int32 → Int32 → Int32 → Int32 → Int32 → Int32 → Wd → Option (Int32 × Wd))} (Hh113 : ∀ (x1 : Int32) (x2 : Int32) (x3 : Int32) (x4 : Int32) (x5 : Int32) (x6 : Int32) (w : Wd), kh113 x1 x2 x3 x4 x5 x6 w = some (rr, wr) → Xx E 7 g 113 [(0, .ref (ad g 92)), (1, .int x1), (2, .int x2), (3, .int x3), (4, .int x4), (5, .int x5), (6, .int x6)] [] w) (x1 : Int32) (x2 : Int32) (x3 : Int32) (x4 : Int32) (x5 : Int32) (x6 : Int32) (w : Wd) (hM : f_X6_kept_h113 kh68 kh113 x1 x2 x3 x4 x5 x6 w = some (rr, wr)) : Xx E 7 g 113 [(0, .ref (ad g 92)), (1, .int x1), (2, .int x2), (3, .int x3), (4, .int x4), (5, .int x5), (6, .int x6)] [] w := by
  unfold f_X6_kept_h113 at hM
  refine x_iload C dX6_kept_113 6 rfl ?_
  refine x_aload_n C dX6_kept_115 0 rfl rfl ?_
  refine xg_6_0 C kd_92 gw_714 dX6_kept_116 ?_
  refine x_icmp_ge (tgt := 175) C dX6_kept_119 (by decide) (fun c_1 => ?_) (fun c_1 => ?_)
  · have hM := ip c_1 hM
    refine x_aload_n C dX6_kept_175 0 rfl rfl ?_
    refine x_iload_n C dX6_kept_176 1 rfl rfl ?_
    refine x_iload_n C dX6_kept_177 2 rfl rfl ?_
    obtain ⟨r_3, w_2, h_4, hM⟩ := cl hM
    refine x_callV (As := [.int x1, .int x2]) C (c_X6_isFirst E.l g x1 x2 w h_4) k_X6_isFirst kd_92 (by decide) rfl rfl gw_976 rfl rfl ⟨Nat.le_of_ble_eq_true rfl, Nat.le_of_ble_eq_true rfl⟩ rfl rfl (Nat.le_of_ble_eq_true rfl) dX6_kept_178 ?_
    refine x_if_eq (tgt := 189) C dX6_kept_181 (by decide) (fun c_5 => ?_) (fun c_5 => ?_)
    · have hM := ip c_5 hM
      refine x_iload C dX6_kept_189 4 rfl ?_
      obtain ⟨x4_6, e_7, hM⟩ := bd hM
      refine x_top e_7 ?_
      refine x_istore (L' := [(4, .int x4_6), (0, .ref (ad g 92)), (1, .int x1), (2, .int x2), (3, .int x3), (5, .int x5), (6, .int x6)]) C dX6_kept_191 (by decide) rfl ?_
      refine x_sub (L' := [(0, .ref (ad g 92)), (1, .int x1), (2, .int x2), (3, .int x3), (4, .int x4_6), (5, .int x5)]) [1, 2, 3, 4, 0, 5] rfl ?_
      exact o_X6_kept_b193 C hR Hh68 x1 x2 x3 x4_6 x5 w_2 hM
    · have hM := iq c_5 hM
      refine x_iload C dX6_kept_184 5 rfl ?_
      refine x_goto (tgt := 191) C dX6_kept_186 (by decide) ?_
      obtain ⟨x4_8, e_9, hM⟩ := bd hM
      refine x_top e_9 ?_
      refine x_istore (L' := [(4, .int x4_8), (0, .ref (ad g 92)), (1, .int x1), (2, .int x2), (3, .int x3), (5, .int x5), (6, .int x6)]) C dX6_kept_191 (by decide) rfl ?_
      refine x_sub (L' := [(0, .ref (ad g 92)), (1, .int x1), (2, .int x2), (3, .int x3), (4, .int x4_8), (5, .int x5)]) [1, 2, 3, 4, 0, 5] rfl ?_
      exact o_X6_kept_b193 C hR Hh68 x1 x2 x3 x4_8 x5 w_2 hM
  · have hM := iq c_1 hM
    refine x_aload_n C dX6_kept_122 0 rfl rfl ?_
    refine xg_6_28 C kd_92 gw_742 dX6_kept_123 ?_
    refine x_iconst (v := 2) C dX6_kept_126 (by decide) ?_
    refine x_iload C dX6_kept_127 6 rfl ?_
    refine x_iadd C dX6_kept_129 ?_
    refine x_aload_n C dX6_kept_130 0 rfl rfl ?_
    refine xg_6_28 C kd_92 gw_742 dX6_kept_131 ?_
    refine x_iconst (v := 2) C dX6_kept_134 (by decide) ?_
    refine x_iload C dX6_kept_135 6 rfl ?_
    refine x_iadd C dX6_kept_137 ?_
    obtain ⟨q_10, hM⟩ := gd hM
    refine x_iald C kd_103 ln_103 q_10 rfl dX6_kept_138 ?_
    refine x_bipush (v := -9) C dX6_kept_139 (by decide) ?_
    refine x_icmp_ne (tgt := 159) C dX6_kept_141 (by decide) (fun c_11 => ?_) (fun c_11 => ?_)
    · have hM := iq c_11 hM
      refine x_aload_n C dX6_kept_159 0 rfl rfl ?_
      refine xg_6_28 C kd_92 gw_742 dX6_kept_160 ?_
      refine x_iconst (v := 2) C dX6_kept_163 (by decide) ?_
      refine x_iload C dX6_kept_164 6 rfl ?_
      refine x_iadd C dX6_kept_166 ?_
      obtain ⟨q_12, hM⟩ := gd hM
      refine x_iald C kd_103 ln_103 q_12 rfl dX6_kept_167 ?_
      obtain ⟨q_13, hM⟩ := gd hM
      obtain ⟨w_14, e_15, hM⟩ := bd hM
      refine x_iast C kd_103 ln_103 q_13 rfl dX6_kept_168 ?_
      refine x_w e_15 ?_
      obtain ⟨x6_16, e_17, hM⟩ := bd hM
      refine x_iinc (L' := [(6, .int x6_16), (0, .ref (ad g 92)), (1, .int x1), (2, .int x2), (3, .int x3), (4, .int x4), (5, .int x5)]) C dX6_kept_169 6 rfl (v := x6_16) (by rw [e_17]; first | rfl | decide) (by decide) rfl ?_
      refine x_goto (tgt := 113) C dX6_kept_172 (by decide) ?_
      refine x_sub (L' := [(0, .ref (ad g 92)), (1, .int x1), (2, .int x2), (3, .int x3), (4, .int x4), (5, .int x5), (6, .int x6_16)]) [1, 2, 3, 4, 5, 6, 0] rfl ?_
      exact Hh113 x1 x2 x3 x4 x5 x6_16 w_14 hM
    · have hM := ip c_11 hM
      refine x_iload C dX6_kept_144 5 rfl ?_
      refine x_iload C dX6_kept_146 6 rfl ?_
      obtain ⟨r_19, w_18, h_20, hM⟩ := cl hM
      refine x_callS (As := [.int x5, .int x6]) C (c_X6_has E.l g x5 x6 w h_20) k_X6_has gw_890 rfl rfl ⟨Nat.le_of_ble_eq_true rfl, Nat.le_of_ble_eq_true rfl⟩ rfl rfl (Nat.le_of_ble_eq_true rfl) dX6_kept_148 ?_
      refine x_if_ne (tgt := 159) C dX6_kept_151 (by decide) (fun c_21 => ?_) (fun c_21 => ?_)
      · have hM := iq c_21 hM
        refine x_aload_n C dX6_kept_159 0 rfl rfl ?_
        refine xg_6_28 C kd_92 gw_742 dX6_kept_160 ?_
        refine x_iconst (v := 2) C dX6_kept_163 (by decide) ?_
        refine x_iload C dX6_kept_164 6 rfl ?_
        refine x_iadd C dX6_kept_166 ?_
        obtain ⟨q_22, hM⟩ := gd hM
        refine x_iald C kd_103 ln_103 q_22 rfl dX6_kept_167 ?_
        obtain ⟨q_23, hM⟩ := gd hM
        obtain ⟨w_24, e_25, hM⟩ := bd hM
        refine x_iast C kd_103 ln_103 q_23 rfl dX6_kept_168 ?_
        refine x_w e_25 ?_
        obtain ⟨x6_26, e_27, hM⟩ := bd hM
        refine x_iinc (L' := [(6, .int x6_26), (0, .ref (ad g 92)), (1, .int x1), (2, .int x2), (3, .int x3), (4, .int x4), (5, .int x5)]) C dX6_kept_169 6 rfl (v := x6_26) (by rw [e_27]; first | rfl | decide) (by decide) rfl ?_
        refine x_goto (tgt := 113) C dX6_kept_172 (by decide) ?_
        refine x_sub (L' := [(0, .ref (ad g 92)), (1, .int x1), (2, .int x2), (3, .int x3), (4, .int x4), (5, .int x5), (6, .int x6_26)]) [1, 2, 3, 4, 5, 6, 0] rfl ?_
        exact Hh113 x1 x2 x3 x4 x5 x6_26 w_24 hM
      · have hM := ip c_21 hM
        refine x_bipush (v := 10) C dX6_kept_154 (by decide) ?_
        refine x_goto (tgt := 168) C dX6_kept_156 (by decide) ?_
        obtain ⟨q_28, hM⟩ := gd hM
        obtain ⟨w_29, e_30, hM⟩ := bd hM
        refine x_iast C kd_103 ln_103 q_28 rfl dX6_kept_168 ?_
        refine x_w e_30 ?_
        obtain ⟨x6_31, e_32, hM⟩ := bd hM
        refine x_iinc (L' := [(6, .int x6_31), (0, .ref (ad g 92)), (1, .int x1), (2, .int x2), (3, .int x3), (4, .int x4), (5, .int x5)]) C dX6_kept_169 6 rfl (v := x6_31) (by rw [e_32]; first | rfl | decide) (by decide) rfl ?_
        refine x_goto (tgt := 113) C dX6_kept_172 (by decide) ?_
        refine x_sub (L' := [(0, .ref (ad g 92)), (1, .int x1), (2, .int x2), (3, .int x3), (4, .int x4), (5, .int x5), (6, .int x6_31)]) [1, 2, 3, 4, 5, 6, 0] rfl ?_
        exact Hh113 x1 x2 x3 x4 x5 x6_31 w_29 hM
theorem o_X6_kept_l113 {E : Ex} {g : Gx} (C : Ctx E RX6 cX6_kept rm_X6_kept 7 g) {rr : Int32} {wr : Wd} (hR : Rets E g (some .int) (some (.int rr)) wr) {kh68 : (Int32 → Int32 → Int32 → Int32 → Int32 → Wd → Option (Int32 × Wd))} (Hh68 : ∀ (x1 : Int32) (x2 : Int32) (x3 : Int32) (x4 : Int32) (x5 : Int32) (w : Wd), kh68 x1 x2 x3 x4 x5 w = some (rr, wr) → Xx E 7 g 68 [(0, .ref (ad g 92)), (1, .int x1), (2, .int x2), (3, .int x3), (4, .int x4), (5, .int x5)] [] w) : ∀ (n : Nat) (x1 : Int32) (x2 : Int32) (x3 : Int32) (x4 : Int32) (x5 : Int32) (x6 : Int32) (w : Wd), f_X6_kept_l113 kh68 n x1 x2 x3 x4 x5 x6 w = some (rr, wr) → Xx E 7 g 113 [(0, .ref (ad g 92)), (1, .int x1), (2, .int x2), (3, .int x3), (4, .int x4), (5, .int x5), (6, .int x6)] [] w := by
  intro n
  induction n with
  | zero =>
    intro x1 x2 x3 x4 x5 x6 w hM
    rw [f_X6_kept_l113] at hM
    cases hM
  | succ n ih =>
    intro x1 x2 x3 x4 x5 x6 w hM
    rw [f_X6_kept_l113] at hM
    exact o_X6_kept_h113 C hR Hh68 ih x1 x2 x3 x4 x5 x6 w hM
set_option maxHeartbeats 1000000 in
set_option maxRecDepth 20000 in
theorem o_X6_kept_b106 {E : Ex} {g : Gx} (C : Ctx E RX6 cX6_kept rm_X6_kept 7 g) {rr : Int32} {wr : Wd} (hR : Rets E g (some .int) (some (.int rr)) wr) {kh68 : (Int32 → Int32 → Int32 → Int32 → Int32 → Wd → Option (Int32 × Wd))} (Hh68 : ∀ (x1 : Int32) (x2 : Int32) (x3 : Int32) (x4 : Int32) (x5 : Int32) (w : Wd), kh68 x1 x2 x3 x4 x5 w = some (rr, wr) → Xx E 7 g 68 [(0, .ref (ad g 92)), (1, .int x1), (2, .int x2), (3, .int x3), (4, .int x4), (5, .int x5)] [] w) (x1 : Int32) (x2 : Int32) (x3 : Int32) (x4 : Int32) (x5 : Int32) (w : Wd) (hM : f_X6_kept_b106 kh68 x1 x2 x3 x4 x5 w = some (rr, wr)) : Xx E 7 g 106 [(0, .ref (ad g 92)), (1, .int x1), (2, .int x2), (3, .int x3), (4, .int x4), (5, .int x5)] [] w := by
  unfold f_X6_kept_b106 at hM
  refine x_aload_n C dX6_kept_106 0 rfl rfl ?_
  obtain ⟨r_2, w_1, h_3, hM⟩ := cl hM
  refine x_callVv (As := []) C (c_X6_asItIs E.l g  w h_3) k_X6_asItIs kd_92 (by decide) rfl rfl gw_867 rfl rfl ⟨Nat.le_of_ble_eq_true rfl, Nat.le_of_ble_eq_true rfl⟩ rfl rfl (Nat.le_of_ble_eq_true rfl) dX6_kept_107 ?_
  refine x_iconst (v := 0) C dX6_kept_110 (by decide) ?_
  obtain ⟨x6_4, e_5, hM⟩ := bd hM
  refine x_top e_5 ?_
  refine x_istore (L' := [(6, .int x6_4), (0, .ref (ad g 92)), (1, .int x1), (2, .int x2), (3, .int x3), (4, .int x4), (5, .int x5)]) C dX6_kept_111 (by decide) rfl ?_
  refine x_sub (L' := [(0, .ref (ad g 92)), (1, .int x1), (2, .int x2), (3, .int x3), (4, .int x4), (5, .int x5), (6, .int x6_4)]) [1, 2, 3, 4, 5, 6, 0] rfl ?_
  exact o_X6_kept_l113 C hR Hh68 300 x1 x2 x3 x4 x5 x6_4 w_1 hM
set_option maxHeartbeats 1000000 in
set_option maxRecDepth 20000 in
theorem o_X6_kept_h68 {E : Ex} {g : Gx} (C : Ctx E RX6 cX6_kept rm_X6_kept 7 g) {rr : Int32} {wr : Wd} (hR : Rets E g (some .int) (some (.int rr)) wr) {kh68 : (Int32 → Int32 → Int32 → Int32 → Int32 → Wd → Option (Int32 × Wd))} (Hh68 : ∀ (x1 : Int32) (x2 : Int32) (x3 : Int32) (x4 : Int32) (x5 : Int32) (w : Wd), kh68 x1 x2 x3 x4 x5 w = some (rr, wr) → Xx E 7 g 68 [(0, .ref (ad g 92)), (1, .int x1), (2, .int x2), (3, .int x3), (4, .int x4), (5, .int x5)] [] w) (x1 : Int32) (x2 : Int32) (x3 : Int32) (x4 : Int32) (x5 : Int32) (w : Wd) (hM : f_X6_kept_h68 kh68 x1 x2 x3 x4 x5 w = some (rr, wr)) : Xx E 7 g 68 [(0, .ref (ad g 92)), (1, .int x1), (2, .int x2), (3, .int x3), (4, .int x4), (5, .int x5)] [] w := by
  unfold f_X6_kept_h68 at hM
  refine x_iload C dX6_kept_68 5 rfl ?_
  refine x_iconst (v := 1) C dX6_kept_70 (by decide) ?_
  refine x_aload_n C dX6_kept_71 0 rfl rfl ?_
  refine xg_6_0 C kd_92 gw_714 dX6_kept_72 ?_
  refine x_ishl C dX6_kept_75 ?_
  refine x_icmp_ge (tgt := 199) C dX6_kept_76 (by decide) (fun c_1 => ?_) (fun c_1 => ?_)
  · have hM := ip c_1 hM
    refine x_iload C dX6_kept_199 4 rfl ?_
    obtain ⟨rfl, rfl⟩ := rt hM
    exact x_iret C hR rfl dX6_kept_201
  · have hM := iq c_1 hM
    refine x_iload C dX6_kept_79 5 rfl ?_
    refine x_iload_n C dX6_kept_81 3 rfl rfl ?_
    refine x_iconst (v := -1) C dX6_kept_82 (by decide) ?_
    refine x_ixor C dX6_kept_83 ?_
    refine x_iand C dX6_kept_84 ?_
    refine x_if_ne (tgt := 193) C dX6_kept_85 (by decide) (fun c_2 => ?_) (fun c_2 => ?_)
    · have hM := iq c_2 hM
      refine x_sub (L' := [(0, .ref (ad g 92)), (1, .int x1), (2, .int x2), (3, .int x3), (4, .int x4), (5, .int x5)]) [0, 1, 2, 3, 4, 5] rfl ?_
      exact o_X6_kept_b193 C hR Hh68 x1 x2 x3 x4 x5 w hM
    · have hM := ip c_2 hM
      refine x_iload C dX6_kept_88 4 rfl ?_
      refine x_if_lt (tgt := 106) C dX6_kept_90 (by decide) (fun c_3 => ?_) (fun c_3 => ?_)
      · have hM := ip c_3 hM
        refine x_sub (L' := [(0, .ref (ad g 92)), (1, .int x1), (2, .int x2), (3, .int x3), (4, .int x4), (5, .int x5)]) [0, 1, 2, 3, 4, 5] rfl ?_
        exact o_X6_kept_b106 C hR Hh68 x1 x2 x3 x4 x5 w hM
      · have hM := iq c_3 hM
        refine x_iload C dX6_kept_93 5 rfl ?_
        obtain ⟨r_5, w_4, h_6, hM⟩ := cl hM
        refine x_callS (As := [.int x5]) C (c_X6_bits E.l g x5 w h_6) k_X6_bits gw_909 rfl rfl ⟨Nat.le_of_ble_eq_true rfl, Nat.le_of_ble_eq_true rfl⟩ rfl rfl (Nat.le_of_ble_eq_true rfl) dX6_kept_95 ?_
        refine x_iload C dX6_kept_98 4 rfl ?_
        obtain ⟨r_8, w_7, h_9, hM⟩ := cl hM
        refine x_callS (As := [.int x4]) C (c_X6_bits E.l g x4 w_4 h_9) k_X6_bits gw_909 rfl rfl ⟨Nat.le_of_ble_eq_true rfl, Nat.le_of_ble_eq_true rfl⟩ rfl rfl (Nat.le_of_ble_eq_true rfl) dX6_kept_100 ?_
        refine x_icmp_ge (tgt := 193) C dX6_kept_103 (by decide) (fun c_10 => ?_) (fun c_10 => ?_)
        · have hM := ip c_10 hM
          refine x_sub (L' := [(0, .ref (ad g 92)), (1, .int x1), (2, .int x2), (3, .int x3), (4, .int x4), (5, .int x5)]) [0, 1, 2, 3, 4, 5] rfl ?_
          exact o_X6_kept_b193 C hR Hh68 x1 x2 x3 x4 x5 w_7 hM
        · have hM := iq c_10 hM
          refine x_sub (L' := [(0, .ref (ad g 92)), (1, .int x1), (2, .int x2), (3, .int x3), (4, .int x4), (5, .int x5)]) [0, 1, 2, 3, 4, 5] rfl ?_
          exact o_X6_kept_b106 C hR Hh68 x1 x2 x3 x4 x5 w_7 hM
theorem o_X6_kept_l68 {E : Ex} {g : Gx} (C : Ctx E RX6 cX6_kept rm_X6_kept 7 g) {rr : Int32} {wr : Wd} (hR : Rets E g (some .int) (some (.int rr)) wr) : ∀ (n : Nat) (x1 : Int32) (x2 : Int32) (x3 : Int32) (x4 : Int32) (x5 : Int32) (w : Wd), f_X6_kept_l68 n x1 x2 x3 x4 x5 w = some (rr, wr) → Xx E 7 g 68 [(0, .ref (ad g 92)), (1, .int x1), (2, .int x2), (3, .int x3), (4, .int x4), (5, .int x5)] [] w := by
  intro n
  induction n with
  | zero =>
    intro x1 x2 x3 x4 x5 w hM
    rw [f_X6_kept_l68] at hM
    cases hM
  | succ n ih =>
    intro x1 x2 x3 x4 x5 w hM
    rw [f_X6_kept_l68] at hM
    exact o_X6_kept_h68 C hR ih x1 x2 x3 x4 x5 w hM
set_option maxHeartbeats 1000000 in
set_option maxRecDepth 20000 in
theorem o_X6_kept_b0 {E : Ex} {g : Gx} (C : Ctx E RX6 cX6_kept rm_X6_kept 7 g) {rr : Int32} {wr : Wd} (hR : Rets E g (some .int) (some (.int rr)) wr) (x1 : Int32) (x2 : Int32) (w : Wd) (hM : f_X6_kept_b0 x1 x2 w = some (rr, wr)) : Xx E 7 g 0 [(0, .ref (ad g 92)), (1, .int x1), (2, .int x2)] [] w := by
  unfold f_X6_kept_b0 at hM
  refine x_aload_n C dX6_kept_0 0 rfl rfl ?_
  refine x_iload_n C dX6_kept_1 1 rfl rfl ?_
  obtain ⟨r_2, w_1, h_3, hM⟩ := cl hM
  refine x_callV (As := [.int x1]) C (c_X6_isOne E.l g x1 w h_3) k_X6_isOne kd_92 (by decide) rfl rfl gw_859 rfl rfl ⟨Nat.le_of_ble_eq_true rfl, Nat.le_of_ble_eq_true rfl⟩ rfl rfl (Nat.le_of_ble_eq_true rfl) dX6_kept_2 ?_
  refine x_if_eq (tgt := 18) C dX6_kept_5 (by decide) (fun c_4 => ?_) (fun c_4 => ?_)
  · have hM := ip c_4 hM
    refine x_iconst (v := -1) C dX6_kept_18 (by decide) ?_
    obtain ⟨rfl, rfl⟩ := rt hM
    exact x_iret C hR rfl dX6_kept_19
  · have hM := iq c_4 hM
    refine x_iload_n C dX6_kept_8 2 rfl rfl ?_
    refine x_iconst (v := 1) C dX6_kept_9 (by decide) ?_
    refine x_bipush (v := 40) C dX6_kept_10 (by decide) ?_
    obtain ⟨r_6, w_5, h_7, hM⟩ := cl hM
    refine x_callS (As := [.int x2, .int (1 : Int32), .int (40 : Int32)]) C (c_X6_in E.l g x2 (1 : Int32) (40 : Int32) w_1 h_7) k_X6_in gw_813 rfl rfl ⟨Nat.le_of_ble_eq_true rfl, Nat.le_of_ble_eq_true rfl⟩ rfl rfl (Nat.le_of_ble_eq_true rfl) dX6_kept_12 ?_
    refine x_if_ne (tgt := 20) C dX6_kept_15 (by decide) (fun c_8 => ?_) (fun c_8 => ?_)
    · have hM := iq c_8 hM
      refine x_aload_n C dX6_kept_20 0 rfl rfl ?_
      refine xg_6_7 C kd_92 gw_721 dX6_kept_21 ?_
      refine x_iconst (v := 2) C dX6_kept_24 (by decide) ?_
      refine x_iload_n C dX6_kept_25 1 rfl rfl ?_
      refine x_iadd C dX6_kept_26 ?_
      obtain ⟨q_9, hM⟩ := gd hM
      refine x_iald C kd_96 ln_96 q_9 rfl dX6_kept_27 ?_
      refine x_bipush (v := -9) C dX6_kept_28 (by decide) ?_
      refine x_icmp_ne (tgt := 47) C dX6_kept_30 (by decide) (fun c_10 => ?_) (fun c_10 => ?_)
      · have hM := iq c_10 hM
        refine x_bipush (v := -2) C dX6_kept_47 (by decide) ?_
        obtain ⟨rfl, rfl⟩ := rt hM
        exact x_iret C hR rfl dX6_kept_49
      · have hM := ip c_10 hM
        refine x_aload_n C dX6_kept_33 0 rfl rfl ?_
        refine xg_6_7 C kd_92 gw_721 dX6_kept_34 ?_
        refine x_bipush (v := 20) C dX6_kept_37 (by decide) ?_
        refine x_iload_n C dX6_kept_39 1 rfl rfl ?_
        refine x_iadd C dX6_kept_40 ?_
        obtain ⟨q_11, hM⟩ := gd hM
        refine x_iald C kd_96 ln_96 q_11 rfl dX6_kept_41 ?_
        refine x_bipush (v := -9) C dX6_kept_42 (by decide) ?_
        refine x_icmp_eq (tgt := 50) C dX6_kept_44 (by decide) (fun c_12 => ?_) (fun c_12 => ?_)
        · have hM := ip c_12 hM
          refine x_aload_n C dX6_kept_50 0 rfl rfl ?_
          obtain ⟨r_14, w_13, h_15, hM⟩ := cl hM
          refine x_callV (As := []) C (c_X6_dry E.l g  w_5 h_15) k_X6_dry kd_92 (by decide) rfl rfl gw_905 rfl rfl ⟨Nat.le_of_ble_eq_true rfl, Nat.le_of_ble_eq_true rfl⟩ rfl rfl (Nat.le_of_ble_eq_true rfl) dX6_kept_51 ?_
          refine x_iconst (v := 1) C dX6_kept_54 (by decide) ?_
          refine x_iload_n C dX6_kept_55 1 rfl rfl ?_
          refine x_ishl C dX6_kept_56 ?_
          refine x_iconst (v := -1) C dX6_kept_57 (by decide) ?_
          refine x_ixor C dX6_kept_58 ?_
          refine x_iand C dX6_kept_59 ?_
          obtain ⟨x3_16, e_17, hM⟩ := bd hM
          refine x_top e_17 ?_
          refine x_istore_n (L' := [(3, .int x3_16), (0, .ref (ad g 92)), (1, .int x1), (2, .int x2)]) C dX6_kept_60 rfl (by decide) rfl ?_
          refine x_bipush (v := -9) C dX6_kept_61 (by decide) ?_
          obtain ⟨x4_18, e_19, hM⟩ := bd hM
          refine x_top e_19 ?_
          refine x_istore (L' := [(4, .int x4_18), (3, .int x3_16), (0, .ref (ad g 92)), (1, .int x1), (2, .int x2)]) C dX6_kept_63 (by decide) rfl ?_
          refine x_iconst (v := 0) C dX6_kept_65 (by decide) ?_
          obtain ⟨x5_20, e_21, hM⟩ := bd hM
          refine x_top e_21 ?_
          refine x_istore (L' := [(5, .int x5_20), (4, .int x4_18), (3, .int x3_16), (0, .ref (ad g 92)), (1, .int x1), (2, .int x2)]) C dX6_kept_66 (by decide) rfl ?_
          refine x_sub (L' := [(0, .ref (ad g 92)), (1, .int x1), (2, .int x2), (3, .int x3_16), (4, .int x4_18), (5, .int x5_20)]) [3, 4, 5, 2, 1, 0] rfl ?_
          exact o_X6_kept_l68 C hR 300 x1 x2 x3_16 x4_18 x5_20 w_13 hM
        · have hM := iq c_12 hM
          refine x_bipush (v := -2) C dX6_kept_47 (by decide) ?_
          obtain ⟨rfl, rfl⟩ := rt hM
          exact x_iret C hR rfl dX6_kept_49
    · have hM := ip c_8 hM
      refine x_iconst (v := -1) C dX6_kept_18 (by decide) ?_
      obtain ⟨rfl, rfl⟩ := rt hM
      exact x_iret C hR rfl dX6_kept_19
theorem c_X6_kept (l : Launch) (g : Gx) (x1 : Int32) (x2 : Int32) (w : Wd) {rr : Int32} {wr : Wd} (hM : f_X6_kept x1 x2 w = some (rr, wr)) : MetM l yX6_kept cX6_kept 7 (some .int) rm_X6_kept g [.ref (ad g 92), .int x1, .int x2] w (some (.int rr)) wr := by
  refine met_of (by decide) (Nat.le_of_ble_eq_true rfl) (fun E hl C hR => ?_)
  refine x_sub (L' := [(0, .ref (ad g 92)), (1, .int x1), (2, .int x2)]) [0, 1, 2] rfl ?_
  exact o_X6_kept_b0 C hR x1 x2 w hM
abbrev rm_X6_seatsOf : Room := { frames := 1, cells := 0, slots := 0, locals := 21 }
set_option maxHeartbeats 1000000 in
set_option maxRecDepth 20000 in
theorem o_X6_seatsOf_h4 {E : Ex} {g : Gx} (C : Ctx E RX6 cX6_seatsOf rm_X6_seatsOf 4 g) {rr : Int32} {wr : Wd} (hR : Rets E g (some .int) (some (.int rr)) wr) {kh4 : (Int32 → Int32 → Int32 → Wd → Option (Int32 × Wd))} (Hh4 : ∀ (x1 : Int32) (x2 : Int32) (x3 : Int32) (w : Wd), kh4 x1 x2 x3 w = some (rr, wr) → Xx E 4 g 4 [(0, .ref (ad g 92)), (1, .int x1), (2, .int x2), (3, .int x3)] [] w) (x1 : Int32) (x2 : Int32) (x3 : Int32) (w : Wd) (hM : f_X6_seatsOf_h4 kh4 x1 x2 x3 w = some (rr, wr)) : Xx E 4 g 4 [(0, .ref (ad g 92)), (1, .int x1), (2, .int x2), (3, .int x3)] [] w := by
  unfold f_X6_seatsOf_h4 at hM
  refine x_iload_n C dX6_seatsOf_4 3 rfl rfl ?_
  refine x_aload_n C dX6_seatsOf_5 0 rfl rfl ?_
  refine xg_6_0 C kd_92 gw_714 dX6_seatsOf_6 ?_
  refine x_icmp_ge (tgt := 39) C dX6_seatsOf_9 (by decide) (fun c_1 => ?_) (fun c_1 => ?_)
  · have hM := ip c_1 hM
    refine x_iload_n C dX6_seatsOf_39 2 rfl rfl ?_
    obtain ⟨rfl, rfl⟩ := rt hM
    exact x_iret C hR rfl dX6_seatsOf_40
  · have hM := iq c_1 hM
    refine x_iload_n C dX6_seatsOf_12 2 rfl rfl ?_
    refine x_iload_n C dX6_seatsOf_13 1 rfl rfl ?_
    refine x_iload_n C dX6_seatsOf_14 3 rfl rfl ?_
    obtain ⟨r_3, w_2, h_4, hM⟩ := cl hM
    refine x_callS (As := [.int x1, .int x3]) C (c_X6_has E.l g x1 x3 w h_4) k_X6_has gw_890 rfl rfl ⟨Nat.le_of_ble_eq_true rfl, Nat.le_of_ble_eq_true rfl⟩ rfl rfl (Nat.le_of_ble_eq_true rfl) dX6_seatsOf_15 ?_
    refine x_if_eq (tgt := 30) C dX6_seatsOf_18 (by decide) (fun c_5 => ?_) (fun c_5 => ?_)
    · have hM := ip c_5 hM
      refine x_iconst (v := 0) C dX6_seatsOf_30 (by decide) ?_
      refine x_iadd C dX6_seatsOf_31 ?_
      obtain ⟨x2_6, e_7, hM⟩ := bd hM
      refine x_top e_7 ?_
      refine x_istore_n (L' := [(2, .int x2_6), (0, .ref (ad g 92)), (1, .int x1), (3, .int x3)]) C dX6_seatsOf_32 rfl (by decide) rfl ?_
      obtain ⟨x3_8, e_9, hM⟩ := bd hM
      refine x_iinc (L' := [(3, .int x3_8), (2, .int x2_6), (0, .ref (ad g 92)), (1, .int x1)]) C dX6_seatsOf_33 3 rfl (v := x3_8) (by rw [e_9]; first | rfl | decide) (by decide) rfl ?_
      refine x_goto (tgt := 4) C dX6_seatsOf_36 (by decide) ?_
      refine x_sub (L' := [(0, .ref (ad g 92)), (1, .int x1), (2, .int x2_6), (3, .int x3_8)]) [2, 3, 1, 0] rfl ?_
      exact Hh4 x1 x2_6 x3_8 w_2 hM
    · have hM := iq c_5 hM
      refine x_aload_n C dX6_seatsOf_21 0 rfl rfl ?_
      refine xg_6_3 C kd_92 gw_717 dX6_seatsOf_22 ?_
      refine x_iload_n C dX6_seatsOf_25 3 rfl rfl ?_
      obtain ⟨q_10, hM⟩ := gd hM
      refine x_iald C kd_95 ln_95 q_10 rfl dX6_seatsOf_26 ?_
      refine x_goto (tgt := 31) C dX6_seatsOf_27 (by decide) ?_
      refine x_iadd C dX6_seatsOf_31 ?_
      obtain ⟨x2_11, e_12, hM⟩ := bd hM
      refine x_top e_12 ?_
      refine x_istore_n (L' := [(2, .int x2_11), (0, .ref (ad g 92)), (1, .int x1), (3, .int x3)]) C dX6_seatsOf_32 rfl (by decide) rfl ?_
      obtain ⟨x3_13, e_14, hM⟩ := bd hM
      refine x_iinc (L' := [(3, .int x3_13), (2, .int x2_11), (0, .ref (ad g 92)), (1, .int x1)]) C dX6_seatsOf_33 3 rfl (v := x3_13) (by rw [e_14]; first | rfl | decide) (by decide) rfl ?_
      refine x_goto (tgt := 4) C dX6_seatsOf_36 (by decide) ?_
      refine x_sub (L' := [(0, .ref (ad g 92)), (1, .int x1), (2, .int x2_11), (3, .int x3_13)]) [2, 3, 1, 0] rfl ?_
      exact Hh4 x1 x2_11 x3_13 w_2 hM
theorem o_X6_seatsOf_l4 {E : Ex} {g : Gx} (C : Ctx E RX6 cX6_seatsOf rm_X6_seatsOf 4 g) {rr : Int32} {wr : Wd} (hR : Rets E g (some .int) (some (.int rr)) wr) : ∀ (n : Nat) (x1 : Int32) (x2 : Int32) (x3 : Int32) (w : Wd), f_X6_seatsOf_l4 n x1 x2 x3 w = some (rr, wr) → Xx E 4 g 4 [(0, .ref (ad g 92)), (1, .int x1), (2, .int x2), (3, .int x3)] [] w := by
  intro n
  induction n with
  | zero =>
    intro x1 x2 x3 w hM
    rw [f_X6_seatsOf_l4] at hM
    cases hM
  | succ n ih =>
    intro x1 x2 x3 w hM
    rw [f_X6_seatsOf_l4] at hM
    exact o_X6_seatsOf_h4 C hR ih x1 x2 x3 w hM
set_option maxHeartbeats 1000000 in
set_option maxRecDepth 20000 in
theorem o_X6_seatsOf_b0 {E : Ex} {g : Gx} (C : Ctx E RX6 cX6_seatsOf rm_X6_seatsOf 4 g) {rr : Int32} {wr : Wd} (hR : Rets E g (some .int) (some (.int rr)) wr) (x1 : Int32) (w : Wd) (hM : f_X6_seatsOf_b0 x1 w = some (rr, wr)) : Xx E 4 g 0 [(0, .ref (ad g 92)), (1, .int x1)] [] w := by
  unfold f_X6_seatsOf_b0 at hM
  refine x_iconst (v := 0) C dX6_seatsOf_0 (by decide) ?_
  obtain ⟨x2_1, e_2, hM⟩ := bd hM
  refine x_top e_2 ?_
  refine x_istore_n (L' := [(2, .int x2_1), (0, .ref (ad g 92)), (1, .int x1)]) C dX6_seatsOf_1 rfl (by decide) rfl ?_
  refine x_iconst (v := 0) C dX6_seatsOf_2 (by decide) ?_
  obtain ⟨x3_3, e_4, hM⟩ := bd hM
  refine x_top e_4 ?_
  refine x_istore_n (L' := [(3, .int x3_3), (2, .int x2_1), (0, .ref (ad g 92)), (1, .int x1)]) C dX6_seatsOf_3 rfl (by decide) rfl ?_
  refine x_sub (L' := [(0, .ref (ad g 92)), (1, .int x1), (2, .int x2_1), (3, .int x3_3)]) [2, 3, 1, 0] rfl ?_
  exact o_X6_seatsOf_l4 C hR 300 x1 x2_1 x3_3 w hM
theorem c_X6_seatsOf (l : Launch) (g : Gx) (x1 : Int32) (w : Wd) {rr : Int32} {wr : Wd} (hM : f_X6_seatsOf x1 w = some (rr, wr)) : MetM l yX6_seatsOf cX6_seatsOf 4 (some .int) rm_X6_seatsOf g [.ref (ad g 92), .int x1] w (some (.int rr)) wr := by
  refine met_of (by decide) (Nat.le_of_ble_eq_true rfl) (fun E hl C hR => ?_)
  refine x_sub (L' := [(0, .ref (ad g 92)), (1, .int x1)]) [0, 1] rfl ?_
  exact o_X6_seatsOf_b0 C hR x1 w hM
abbrev rm_X6_party : Room := { frames := 2, cells := 0, slots := 0, locals := 44 }
set_option maxHeartbeats 1000000 in
set_option maxRecDepth 20000 in
theorem o_X6_party_b51 {E : Ex} {g : Gx} (C : Ctx E RX6 cX6_party rm_X6_party 4 g) {rr : Int32} {wr : Wd} (hR : Rets E g (some .int) (some (.int rr)) wr) {kh17 : (Int32 → Int32 → Int32 → Wd → Option (Int32 × Wd))} (Hh17 : ∀ (x1 : Int32) (x2 : Int32) (x3 : Int32) (w : Wd), kh17 x1 x2 x3 w = some (rr, wr) → Xx E 4 g 17 [(0, .ref (ad g 92)), (1, .int x1), (2, .int x2), (3, .int x3)] [] w) (x1 : Int32) (x3 : Int32) (w : Wd) (hM : f_X6_party_b51 kh17 x1 x3 w = some (rr, wr)) : Xx E 4 g 51 [(0, .ref (ad g 92)), (1, .int x1), (3, .int x3)] [] w := by
  unfold f_X6_party_b51 at hM
  refine x_iload_n C dX6_party_51 2 rfl rfl ?_
  refine x_goto (tgt := 56) C dX6_party_52 (by decide) ?_
  obtain ⟨x2_1, e_2, hM⟩ := bd hM
  refine x_top e_2 ?_
  refine x_istore_n (L' := [(2, .int x2_1), (0, .ref (ad g 92)), (1, .int x1), (3, .int x3)]) C dX6_party_56 rfl (by decide) rfl ?_
  obtain ⟨x3_3, e_4, hM⟩ := bd hM
  refine x_iinc (L' := [(3, .int x3_3), (2, .int x2_1), (0, .ref (ad g 92)), (1, .int x1)]) C dX6_party_57 3 rfl (v := x3_3) (by rw [e_4]; first | rfl | decide) (by decide) rfl ?_
  refine x_goto (tgt := 17) C dX6_party_60 (by decide) ?_
  refine x_sub (L' := [(0, .ref (ad g 92)), (1, .int x1), (2, .int x2_1), (3, .int x3_3)]) [2, 3, 1, 0] rfl ?_
  exact Hh17 x1 x2_1 x3_3 w hM
set_option maxHeartbeats 1000000 in
set_option maxRecDepth 20000 in
theorem o_X6_party_b55 {E : Ex} {g : Gx} (C : Ctx E RX6 cX6_party rm_X6_party 4 g) {rr : Int32} {wr : Wd} (hR : Rets E g (some .int) (some (.int rr)) wr) {kh17 : (Int32 → Int32 → Int32 → Wd → Option (Int32 × Wd))} (Hh17 : ∀ (x1 : Int32) (x2 : Int32) (x3 : Int32) (w : Wd), kh17 x1 x2 x3 w = some (rr, wr) → Xx E 4 g 17 [(0, .ref (ad g 92)), (1, .int x1), (2, .int x2), (3, .int x3)] [] w) (x1 : Int32) (x2 : Int32) (x3 : Int32) (w : Wd) (hM : f_X6_party_b55 kh17 x1 x2 x3 w = some (rr, wr)) : Xx E 4 g 55 [(0, .ref (ad g 92)), (1, .int x1), (2, .int x2), (3, .int x3)] [] w := by
  unfold f_X6_party_b55 at hM
  refine x_iload_n C dX6_party_55 2 rfl rfl ?_
  obtain ⟨x2_1, e_2, hM⟩ := bd hM
  refine x_top e_2 ?_
  refine x_istore_n (L' := [(2, .int x2_1), (0, .ref (ad g 92)), (1, .int x1), (3, .int x3)]) C dX6_party_56 rfl (by decide) rfl ?_
  obtain ⟨x3_3, e_4, hM⟩ := bd hM
  refine x_iinc (L' := [(3, .int x3_3), (2, .int x2_1), (0, .ref (ad g 92)), (1, .int x1)]) C dX6_party_57 3 rfl (v := x3_3) (by rw [e_4]; first | rfl | decide) (by decide) rfl ?_
  refine x_goto (tgt := 17) C dX6_party_60 (by decide) ?_
  refine x_sub (L' := [(0, .ref (ad g 92)), (1, .int x1), (2, .int x2_1), (3, .int x3_3)]) [2, 3, 1, 0] rfl ?_
  exact Hh17 x1 x2_1 x3_3 w hM
set_option maxHeartbeats 1000000 in
set_option maxRecDepth 20000 in
theorem o_X6_party_h17 {E : Ex} {g : Gx} (C : Ctx E RX6 cX6_party rm_X6_party 4 g) {rr : Int32} {wr : Wd} (hR : Rets E g (some .int) (some (.int rr)) wr) {kh17 : (Int32 → Int32 → Int32 → Wd → Option (Int32 × Wd))} (Hh17 : ∀ (x1 : Int32) (x2 : Int32) (x3 : Int32) (w : Wd), kh17 x1 x2 x3 w = some (rr, wr) → Xx E 4 g 17 [(0, .ref (ad g 92)), (1, .int x1), (2, .int x2), (3, .int x3)] [] w) (x1 : Int32) (x2 : Int32) (x3 : Int32) (w : Wd) (hM : f_X6_party_h17 kh17 x1 x2 x3 w = some (rr, wr)) : Xx E 4 g 17 [(0, .ref (ad g 92)), (1, .int x1), (2, .int x2), (3, .int x3)] [] w := by
  unfold f_X6_party_h17 at hM
  refine x_iload_n C dX6_party_17 3 rfl rfl ?_
  refine x_iconst (v := 1) C dX6_party_18 (by decide) ?_
  refine x_aload_n C dX6_party_19 0 rfl rfl ?_
  refine xg_6_0 C kd_92 gw_714 dX6_party_20 ?_
  refine x_ishl C dX6_party_23 ?_
  refine x_icmp_ge (tgt := 63) C dX6_party_24 (by decide) (fun c_1 => ?_) (fun c_1 => ?_)
  · have hM := ip c_1 hM
    refine x_iload_n C dX6_party_63 2 rfl rfl ?_
    obtain ⟨rfl, rfl⟩ := rt hM
    exact x_iret C hR rfl dX6_party_64
  · have hM := iq c_1 hM
    refine x_aload_n C dX6_party_27 0 rfl rfl ?_
    refine x_iload_n C dX6_party_28 3 rfl rfl ?_
    obtain ⟨r_3, w_2, h_4, hM⟩ := cl hM
    refine x_callV (As := [.int x3]) C (c_X6_seatsOf E.l g x3 w h_4) k_X6_seatsOf kd_92 (by decide) rfl rfl gw_984 rfl rfl ⟨Nat.le_of_ble_eq_true rfl, Nat.le_of_ble_eq_true rfl⟩ rfl rfl (Nat.le_of_ble_eq_true rfl) dX6_party_29 ?_
    refine x_iload_n C dX6_party_32 1 rfl rfl ?_
    refine x_icmp_lt (tgt := 55) C dX6_party_33 (by decide) (fun c_5 => ?_) (fun c_5 => ?_)
    · have hM := ip c_5 hM
      refine x_sub (L' := [(0, .ref (ad g 92)), (1, .int x1), (2, .int x2), (3, .int x3)]) [0, 1, 2, 3] rfl ?_
      exact o_X6_party_b55 C hR Hh17 x1 x2 x3 w_2 hM
    · have hM := iq c_5 hM
      refine x_iload_n C dX6_party_36 2 rfl rfl ?_
      refine x_if_lt (tgt := 51) C dX6_party_37 (by decide) (fun c_6 => ?_) (fun c_6 => ?_)
      · have hM := ip c_6 hM
        refine x_sub (L' := [(0, .ref (ad g 92)), (1, .int x1), (3, .int x3)]) [0, 1, 3] rfl ?_
        exact o_X6_party_b51 C hR Hh17 x1 x3 w_2 hM
      · have hM := iq c_6 hM
        refine x_iload_n C dX6_party_40 3 rfl rfl ?_
        obtain ⟨r_8, w_7, h_9, hM⟩ := cl hM
        refine x_callS (As := [.int x3]) C (c_X6_bits E.l g x3 w_2 h_9) k_X6_bits gw_909 rfl rfl ⟨Nat.le_of_ble_eq_true rfl, Nat.le_of_ble_eq_true rfl⟩ rfl rfl (Nat.le_of_ble_eq_true rfl) dX6_party_41 ?_
        refine x_iload_n C dX6_party_44 2 rfl rfl ?_
        obtain ⟨r_11, w_10, h_12, hM⟩ := cl hM
        refine x_callS (As := [.int x2]) C (c_X6_bits E.l g x2 w_7 h_12) k_X6_bits gw_909 rfl rfl ⟨Nat.le_of_ble_eq_true rfl, Nat.le_of_ble_eq_true rfl⟩ rfl rfl (Nat.le_of_ble_eq_true rfl) dX6_party_45 ?_
        refine x_icmp_ge (tgt := 55) C dX6_party_48 (by decide) (fun c_13 => ?_) (fun c_13 => ?_)
        · have hM := ip c_13 hM
          refine x_sub (L' := [(0, .ref (ad g 92)), (1, .int x1), (2, .int x2), (3, .int x3)]) [0, 1, 2, 3] rfl ?_
          exact o_X6_party_b55 C hR Hh17 x1 x2 x3 w_10 hM
        · have hM := iq c_13 hM
          refine x_sub (L' := [(0, .ref (ad g 92)), (1, .int x1), (3, .int x3)]) [0, 1, 3] rfl ?_
          exact o_X6_party_b51 C hR Hh17 x1 x3 w_10 hM
theorem o_X6_party_l17 {E : Ex} {g : Gx} (C : Ctx E RX6 cX6_party rm_X6_party 4 g) {rr : Int32} {wr : Wd} (hR : Rets E g (some .int) (some (.int rr)) wr) : ∀ (n : Nat) (x1 : Int32) (x2 : Int32) (x3 : Int32) (w : Wd), f_X6_party_l17 n x1 x2 x3 w = some (rr, wr) → Xx E 4 g 17 [(0, .ref (ad g 92)), (1, .int x1), (2, .int x2), (3, .int x3)] [] w := by
  intro n
  induction n with
  | zero =>
    intro x1 x2 x3 w hM
    rw [f_X6_party_l17] at hM
    cases hM
  | succ n ih =>
    intro x1 x2 x3 w hM
    rw [f_X6_party_l17] at hM
    exact o_X6_party_h17 C hR ih x1 x2 x3 w hM
set_option maxHeartbeats 1000000 in
set_option maxRecDepth 20000 in
theorem o_X6_party_b0 {E : Ex} {g : Gx} (C : Ctx E RX6 cX6_party rm_X6_party 4 g) {rr : Int32} {wr : Wd} (hR : Rets E g (some .int) (some (.int rr)) wr) (x1 : Int32) (w : Wd) (hM : f_X6_party_b0 x1 w = some (rr, wr)) : Xx E 4 g 0 [(0, .ref (ad g 92)), (1, .int x1)] [] w := by
  unfold f_X6_party_b0 at hM
  refine x_iload_n C dX6_party_0 1 rfl rfl ?_
  refine x_iconst (v := 1) C dX6_party_1 (by decide) ?_
  refine x_bipush (v := 54) C dX6_party_2 (by decide) ?_
  obtain ⟨r_2, w_1, h_3, hM⟩ := cl hM
  refine x_callS (As := [.int x1, .int (1 : Int32), .int (54 : Int32)]) C (c_X6_in E.l g x1 (1 : Int32) (54 : Int32) w h_3) k_X6_in gw_813 rfl rfl ⟨Nat.le_of_ble_eq_true rfl, Nat.le_of_ble_eq_true rfl⟩ rfl rfl (Nat.le_of_ble_eq_true rfl) dX6_party_4 ?_
  refine x_if_ne (tgt := 12) C dX6_party_7 (by decide) (fun c_4 => ?_) (fun c_4 => ?_)
  · have hM := iq c_4 hM
    refine x_bipush (v := -9) C dX6_party_12 (by decide) ?_
    obtain ⟨x2_5, e_6, hM⟩ := bd hM
    refine x_top e_6 ?_
    refine x_istore_n (L' := [(2, .int x2_5), (0, .ref (ad g 92)), (1, .int x1)]) C dX6_party_14 rfl (by decide) rfl ?_
    refine x_iconst (v := 0) C dX6_party_15 (by decide) ?_
    obtain ⟨x3_7, e_8, hM⟩ := bd hM
    refine x_top e_8 ?_
    refine x_istore_n (L' := [(3, .int x3_7), (2, .int x2_5), (0, .ref (ad g 92)), (1, .int x1)]) C dX6_party_16 rfl (by decide) rfl ?_
    refine x_sub (L' := [(0, .ref (ad g 92)), (1, .int x1), (2, .int x2_5), (3, .int x3_7)]) [2, 3, 1, 0] rfl ?_
    exact o_X6_party_l17 C hR 300 x1 x2_5 x3_7 w_1 hM
  · have hM := ip c_4 hM
    refine x_iconst (v := -1) C dX6_party_10 (by decide) ?_
    obtain ⟨rfl, rfl⟩ := rt hM
    exact x_iret C hR rfl dX6_party_11
theorem c_X6_party (l : Launch) (g : Gx) (x1 : Int32) (w : Wd) {rr : Int32} {wr : Wd} (hM : f_X6_party x1 w = some (rr, wr)) : MetM l yX6_party cX6_party 4 (some .int) rm_X6_party g [.ref (ad g 92), .int x1] w (some (.int rr)) wr := by
  refine met_of (by decide) (Nat.le_of_ble_eq_true rfl) (fun E hl C hR => ?_)
  refine x_sub (L' := [(0, .ref (ad g 92)), (1, .int x1)]) [0, 1] rfl ?_
  exact o_X6_party_b0 C hR x1 w hM
abbrev rm_X6_power : Room := { frames := 2, cells := 0, slots := 0, locals := 44 }
set_option maxHeartbeats 1000000 in
set_option maxRecDepth 20000 in
theorem o_X6_power_h25 {E : Ex} {g : Gx} (C : Ctx E RX6 cX6_power rm_X6_power 5 g) {rr : Int32} {wr : Wd} (hR : Rets E g (some .int) (some (.int rr)) wr) {kh25 : (Int32 → Int32 → Int32 → Int32 → Wd → Option (Int32 × Wd))} (Hh25 : ∀ (x1 : Int32) (x2 : Int32) (x3 : Int32) (x4 : Int32) (w : Wd), kh25 x1 x2 x3 x4 w = some (rr, wr) → Xx E 5 g 25 [(0, .ref (ad g 92)), (1, .int x1), (2, .int x2), (3, .int x3), (4, .int x4)] [] w) (x1 : Int32) (x2 : Int32) (x3 : Int32) (x4 : Int32) (w : Wd) (hM : f_X6_power_h25 kh25 x1 x2 x3 x4 w = some (rr, wr)) : Xx E 5 g 25 [(0, .ref (ad g 92)), (1, .int x1), (2, .int x2), (3, .int x3), (4, .int x4)] [] w := by
  unfold f_X6_power_h25 at hM
  refine x_iload C dX6_power_25 4 rfl ?_
  refine x_iconst (v := 1) C dX6_power_27 (by decide) ?_
  refine x_aload_n C dX6_power_28 0 rfl rfl ?_
  refine xg_6_0 C kd_92 gw_714 dX6_power_29 ?_
  refine x_ishl C dX6_power_32 ?_
  refine x_icmp_ge (tgt := 86) C dX6_power_33 (by decide) (fun c_1 => ?_) (fun c_1 => ?_)
  · have hM := ip c_1 hM
    refine x_iload_n C dX6_power_86 3 rfl rfl ?_
    obtain ⟨rfl, rfl⟩ := rt hM
    exact x_iret C hR rfl dX6_power_87
  · have hM := iq c_1 hM
    refine x_iload_n C dX6_power_36 3 rfl rfl ?_
    refine x_iload C dX6_power_37 4 rfl ?_
    refine x_iload_n C dX6_power_39 1 rfl rfl ?_
    obtain ⟨r_3, w_2, h_4, hM⟩ := cl hM
    refine x_callS (As := [.int x4, .int x1]) C (c_X6_has E.l g x4 x1 w h_4) k_X6_has gw_890 rfl rfl ⟨Nat.le_of_ble_eq_true rfl, Nat.le_of_ble_eq_true rfl⟩ rfl rfl (Nat.le_of_ble_eq_true rfl) dX6_power_40 ?_
    refine x_if_ne (tgt := 77) C dX6_power_43 (by decide) (fun c_5 => ?_) (fun c_5 => ?_)
    · have hM := iq c_5 hM
      refine x_iconst (v := 0) C dX6_power_77 (by decide) ?_
      refine x_iadd C dX6_power_78 ?_
      obtain ⟨x3_6, e_7, hM⟩ := bd hM
      refine x_top e_7 ?_
      refine x_istore_n (L' := [(3, .int x3_6), (0, .ref (ad g 92)), (1, .int x1), (2, .int x2), (4, .int x4)]) C dX6_power_79 rfl (by decide) rfl ?_
      obtain ⟨x4_8, e_9, hM⟩ := bd hM
      refine x_iinc (L' := [(4, .int x4_8), (3, .int x3_6), (0, .ref (ad g 92)), (1, .int x1), (2, .int x2)]) C dX6_power_80 4 rfl (v := x4_8) (by rw [e_9]; first | rfl | decide) (by decide) rfl ?_
      refine x_goto (tgt := 25) C dX6_power_83 (by decide) ?_
      refine x_sub (L' := [(0, .ref (ad g 92)), (1, .int x1), (2, .int x2), (3, .int x3_6), (4, .int x4_8)]) [2, 3, 4, 1, 0] rfl ?_
      exact Hh25 x1 x2 x3_6 x4_8 w_2 hM
    · have hM := ip c_5 hM
      refine x_aload_n C dX6_power_46 0 rfl rfl ?_
      refine x_iload C dX6_power_47 4 rfl ?_
      obtain ⟨r_11, w_10, h_12, hM⟩ := cl hM
      refine x_callV (As := [.int x4]) C (c_X6_seatsOf E.l g x4 w_2 h_12) k_X6_seatsOf kd_92 (by decide) rfl rfl gw_984 rfl rfl ⟨Nat.le_of_ble_eq_true rfl, Nat.le_of_ble_eq_true rfl⟩ rfl rfl (Nat.le_of_ble_eq_true rfl) dX6_power_49 ?_
      refine x_iload_n C dX6_power_52 2 rfl rfl ?_
      refine x_icmp_ge (tgt := 77) C dX6_power_53 (by decide) (fun c_13 => ?_) (fun c_13 => ?_)
      · have hM := ip c_13 hM
        refine x_iconst (v := 0) C dX6_power_77 (by decide) ?_
        refine x_iadd C dX6_power_78 ?_
        obtain ⟨x3_14, e_15, hM⟩ := bd hM
        refine x_top e_15 ?_
        refine x_istore_n (L' := [(3, .int x3_14), (0, .ref (ad g 92)), (1, .int x1), (2, .int x2), (4, .int x4)]) C dX6_power_79 rfl (by decide) rfl ?_
        obtain ⟨x4_16, e_17, hM⟩ := bd hM
        refine x_iinc (L' := [(4, .int x4_16), (3, .int x3_14), (0, .ref (ad g 92)), (1, .int x1), (2, .int x2)]) C dX6_power_80 4 rfl (v := x4_16) (by rw [e_17]; first | rfl | decide) (by decide) rfl ?_
        refine x_goto (tgt := 25) C dX6_power_83 (by decide) ?_
        refine x_sub (L' := [(0, .ref (ad g 92)), (1, .int x1), (2, .int x2), (3, .int x3_14), (4, .int x4_16)]) [2, 3, 4, 1, 0] rfl ?_
        exact Hh25 x1 x2 x3_14 x4_16 w_10 hM
      · have hM := iq c_13 hM
        refine x_aload_n C dX6_power_56 0 rfl rfl ?_
        refine x_iload C dX6_power_57 4 rfl ?_
        obtain ⟨r_19, w_18, h_20, hM⟩ := cl hM
        refine x_callV (As := [.int x4]) C (c_X6_seatsOf E.l g x4 w_10 h_20) k_X6_seatsOf kd_92 (by decide) rfl rfl gw_984 rfl rfl ⟨Nat.le_of_ble_eq_true rfl, Nat.le_of_ble_eq_true rfl⟩ rfl rfl (Nat.le_of_ble_eq_true rfl) dX6_power_59 ?_
        refine x_aload_n C dX6_power_62 0 rfl rfl ?_
        refine xg_6_3 C kd_92 gw_717 dX6_power_63 ?_
        refine x_iload_n C dX6_power_66 1 rfl rfl ?_
        obtain ⟨q_21, hM⟩ := gd hM
        refine x_iald C kd_95 ln_95 q_21 rfl dX6_power_67 ?_
        refine x_iadd C dX6_power_68 ?_
        refine x_iload_n C dX6_power_69 2 rfl rfl ?_
        refine x_icmp_lt (tgt := 77) C dX6_power_70 (by decide) (fun c_22 => ?_) (fun c_22 => ?_)
        · have hM := ip c_22 hM
          refine x_iconst (v := 0) C dX6_power_77 (by decide) ?_
          refine x_iadd C dX6_power_78 ?_
          obtain ⟨x3_23, e_24, hM⟩ := bd hM
          refine x_top e_24 ?_
          refine x_istore_n (L' := [(3, .int x3_23), (0, .ref (ad g 92)), (1, .int x1), (2, .int x2), (4, .int x4)]) C dX6_power_79 rfl (by decide) rfl ?_
          obtain ⟨x4_25, e_26, hM⟩ := bd hM
          refine x_iinc (L' := [(4, .int x4_25), (3, .int x3_23), (0, .ref (ad g 92)), (1, .int x1), (2, .int x2)]) C dX6_power_80 4 rfl (v := x4_25) (by rw [e_26]; first | rfl | decide) (by decide) rfl ?_
          refine x_goto (tgt := 25) C dX6_power_83 (by decide) ?_
          refine x_sub (L' := [(0, .ref (ad g 92)), (1, .int x1), (2, .int x2), (3, .int x3_23), (4, .int x4_25)]) [2, 3, 4, 1, 0] rfl ?_
          exact Hh25 x1 x2 x3_23 x4_25 w_18 hM
        · have hM := iq c_22 hM
          refine x_iconst (v := 1) C dX6_power_73 (by decide) ?_
          refine x_goto (tgt := 78) C dX6_power_74 (by decide) ?_
          refine x_iadd C dX6_power_78 ?_
          obtain ⟨x3_27, e_28, hM⟩ := bd hM
          refine x_top e_28 ?_
          refine x_istore_n (L' := [(3, .int x3_27), (0, .ref (ad g 92)), (1, .int x1), (2, .int x2), (4, .int x4)]) C dX6_power_79 rfl (by decide) rfl ?_
          obtain ⟨x4_29, e_30, hM⟩ := bd hM
          refine x_iinc (L' := [(4, .int x4_29), (3, .int x3_27), (0, .ref (ad g 92)), (1, .int x1), (2, .int x2)]) C dX6_power_80 4 rfl (v := x4_29) (by rw [e_30]; first | rfl | decide) (by decide) rfl ?_
          refine x_goto (tgt := 25) C dX6_power_83 (by decide) ?_
          refine x_sub (L' := [(0, .ref (ad g 92)), (1, .int x1), (2, .int x2), (3, .int x3_27), (4, .int x4_29)]) [2, 3, 4, 1, 0] rfl ?_
          exact Hh25 x1 x2 x3_27 x4_29 w_18 hM
theorem o_X6_power_l25 {E : Ex} {g : Gx} (C : Ctx E RX6 cX6_power rm_X6_power 5 g) {rr : Int32} {wr : Wd} (hR : Rets E g (some .int) (some (.int rr)) wr) : ∀ (n : Nat) (x1 : Int32) (x2 : Int32) (x3 : Int32) (x4 : Int32) (w : Wd), f_X6_power_l25 n x1 x2 x3 x4 w = some (rr, wr) → Xx E 5 g 25 [(0, .ref (ad g 92)), (1, .int x1), (2, .int x2), (3, .int x3), (4, .int x4)] [] w := by
  intro n
  induction n with
  | zero =>
    intro x1 x2 x3 x4 w hM
    rw [f_X6_power_l25] at hM
    cases hM
  | succ n ih =>
    intro x1 x2 x3 x4 w hM
    rw [f_X6_power_l25] at hM
    exact o_X6_power_h25 C hR ih x1 x2 x3 x4 w hM
set_option maxHeartbeats 1000000 in
set_option maxRecDepth 20000 in
theorem o_X6_power_b0 {E : Ex} {g : Gx} (C : Ctx E RX6 cX6_power rm_X6_power 5 g) {rr : Int32} {wr : Wd} (hR : Rets E g (some .int) (some (.int rr)) wr) (x1 : Int32) (x2 : Int32) (w : Wd) (hM : f_X6_power_b0 x1 x2 w = some (rr, wr)) : Xx E 5 g 0 [(0, .ref (ad g 92)), (1, .int x1), (2, .int x2)] [] w := by
  unfold f_X6_power_b0 at hM
  refine x_aload_n C dX6_power_0 0 rfl rfl ?_
  refine x_iload_n C dX6_power_1 1 rfl rfl ?_
  obtain ⟨r_2, w_1, h_3, hM⟩ := cl hM
  refine x_callV (As := [.int x1]) C (c_X6_isOne E.l g x1 w h_3) k_X6_isOne kd_92 (by decide) rfl rfl gw_859 rfl rfl ⟨Nat.le_of_ble_eq_true rfl, Nat.le_of_ble_eq_true rfl⟩ rfl rfl (Nat.le_of_ble_eq_true rfl) dX6_power_2 ?_
  refine x_if_eq (tgt := 18) C dX6_power_5 (by decide) (fun c_4 => ?_) (fun c_4 => ?_)
  · have hM := ip c_4 hM
    refine x_iconst (v := -1) C dX6_power_18 (by decide) ?_
    obtain ⟨rfl, rfl⟩ := rt hM
    exact x_iret C hR rfl dX6_power_19
  · have hM := iq c_4 hM
    refine x_iload_n C dX6_power_8 2 rfl rfl ?_
    refine x_iconst (v := 1) C dX6_power_9 (by decide) ?_
    refine x_bipush (v := 54) C dX6_power_10 (by decide) ?_
    obtain ⟨r_6, w_5, h_7, hM⟩ := cl hM
    refine x_callS (As := [.int x2, .int (1 : Int32), .int (54 : Int32)]) C (c_X6_in E.l g x2 (1 : Int32) (54 : Int32) w_1 h_7) k_X6_in gw_813 rfl rfl ⟨Nat.le_of_ble_eq_true rfl, Nat.le_of_ble_eq_true rfl⟩ rfl rfl (Nat.le_of_ble_eq_true rfl) dX6_power_12 ?_
    refine x_if_ne (tgt := 20) C dX6_power_15 (by decide) (fun c_8 => ?_) (fun c_8 => ?_)
    · have hM := iq c_8 hM
      refine x_iconst (v := 0) C dX6_power_20 (by decide) ?_
      obtain ⟨x3_9, e_10, hM⟩ := bd hM
      refine x_top e_10 ?_
      refine x_istore_n (L' := [(3, .int x3_9), (0, .ref (ad g 92)), (1, .int x1), (2, .int x2)]) C dX6_power_21 rfl (by decide) rfl ?_
      refine x_iconst (v := 0) C dX6_power_22 (by decide) ?_
      obtain ⟨x4_11, e_12, hM⟩ := bd hM
      refine x_top e_12 ?_
      refine x_istore (L' := [(4, .int x4_11), (3, .int x3_9), (0, .ref (ad g 92)), (1, .int x1), (2, .int x2)]) C dX6_power_23 (by decide) rfl ?_
      refine x_sub (L' := [(0, .ref (ad g 92)), (1, .int x1), (2, .int x2), (3, .int x3_9), (4, .int x4_11)]) [2, 3, 4, 1, 0] rfl ?_
      exact o_X6_power_l25 C hR 300 x1 x2 x3_9 x4_11 w_5 hM
    · have hM := ip c_8 hM
      refine x_iconst (v := -1) C dX6_power_18 (by decide) ?_
      obtain ⟨rfl, rfl⟩ := rt hM
      exact x_iret C hR rfl dX6_power_19
theorem c_X6_power (l : Launch) (g : Gx) (x1 : Int32) (x2 : Int32) (w : Wd) {rr : Int32} {wr : Wd} (hM : f_X6_power x1 x2 w = some (rr, wr)) : MetM l yX6_power cX6_power 5 (some .int) rm_X6_power g [.ref (ad g 92), .int x1, .int x2] w (some (.int rr)) wr := by
  refine met_of (by decide) (Nat.le_of_ble_eq_true rfl) (fun E hl C hR => ?_)
  refine x_sub (L' := [(0, .ref (ad g 92)), (1, .int x1), (2, .int x2)]) [0, 1, 2] rfl ?_
  exact o_X6_power_b0 C hR x1 x2 w hM
abbrev rm_X6_lowest : Room := { frames := 0, cells := 0, slots := 0, locals := 0 }
set_option maxHeartbeats 1000000 in
set_option maxRecDepth 20000 in
theorem o_X6_lowest_h5 {E : Ex} {g : Gx} (C : Ctx E RX6 cX6_lowest rm_X6_lowest 6 g) {rr : Int32} {wr : Wd} (hR : Rets E g (some .int) (some (.int rr)) wr) {kh5 : (Int32 → Int32 → Int32 → Int32 → Int32 → Wd → Option (Int32 × Wd))} (Hh5 : ∀ (x0 : Int32) (x1 : Int32) (x2 : Int32) (x3 : Int32) (x4 : Int32) (w : Wd), kh5 x0 x1 x2 x3 x4 w = some (rr, wr) → Xx E 6 g 5 [(0, .int x0), (1, .int x1), (2, .int x2), (3, .int x3), (4, .int x4)] [] w) (x0 : Int32) (x1 : Int32) (x2 : Int32) (x3 : Int32) (x4 : Int32) (w : Wd) (hM : f_X6_lowest_h5 kh5 x0 x1 x2 x3 x4 w = some (rr, wr)) : Xx E 6 g 5 [(0, .int x0), (1, .int x1), (2, .int x2), (3, .int x3), (4, .int x4)] [] w := by
  unfold f_X6_lowest_h5 at hM
  refine x_iload C dX6_lowest_5 4 rfl ?_
  refine x_if_le (tgt := 26) C dX6_lowest_7 (by decide) (fun c_1 => ?_) (fun c_1 => ?_)
  · have hM := ip c_1 hM
    refine x_iload_n C dX6_lowest_26 2 rfl rfl ?_
    refine x_if_ne (tgt := 34) C dX6_lowest_27 (by decide) (fun c_2 => ?_) (fun c_2 => ?_)
    · have hM := iq c_2 hM
      refine x_iload_n C dX6_lowest_34 1 rfl rfl ?_
      refine x_iload_n C dX6_lowest_35 3 rfl rfl ?_
      obtain ⟨q_3, hM⟩ := gd hM
      refine x_idiv C dX6_lowest_36 (nz_ne q_3) ?_
      obtain ⟨rfl, rfl⟩ := rt hM
      exact x_iret C hR rfl dX6_lowest_37
    · have hM := ip c_2 hM
      refine x_iload_n C dX6_lowest_30 0 rfl rfl ?_
      refine x_goto (tgt := 35) C dX6_lowest_31 (by decide) ?_
      refine x_iload_n C dX6_lowest_35 3 rfl rfl ?_
      obtain ⟨q_4, hM⟩ := gd hM
      refine x_idiv C dX6_lowest_36 (nz_ne q_4) ?_
      obtain ⟨rfl, rfl⟩ := rt hM
      exact x_iret C hR rfl dX6_lowest_37
  · have hM := iq c_1 hM
    refine x_iload_n C dX6_lowest_10 3 rfl rfl ?_
    refine x_iload C dX6_lowest_11 4 rfl ?_
    obtain ⟨q_5, hM⟩ := gd hM
    refine x_irem C dX6_lowest_13 (nz_ne q_5) ?_
    obtain ⟨x5_6, e_7, hM⟩ := bd hM
    refine x_top e_7 ?_
    refine x_istore (L' := [(5, .int x5_6), (0, .int x0), (1, .int x1), (2, .int x2), (3, .int x3), (4, .int x4)]) C dX6_lowest_14 (by decide) rfl ?_
    refine x_iload C dX6_lowest_16 5 rfl ?_
    obtain ⟨x3_8, e_9, hM⟩ := bd hM
    refine x_top e_9 ?_
    refine x_istore_n (L' := [(3, .int x3_8), (5, .int x5_6), (0, .int x0), (1, .int x1), (2, .int x2), (4, .int x4)]) C dX6_lowest_18 rfl (by decide) rfl ?_
    refine x_iload C dX6_lowest_19 1 rfl ?_
    obtain ⟨x4_10, e_11, hM⟩ := bd hM
    refine x_top e_11 ?_
    refine x_istore (L' := [(4, .int x4_10), (3, .int x3_8), (5, .int x5_6), (0, .int x0), (1, .int x1), (2, .int x2)]) C dX6_lowest_21 (by decide) rfl ?_
    refine x_goto (tgt := 5) C dX6_lowest_23 (by decide) ?_
    refine x_sub (L' := [(0, .int x0), (1, .int x1), (2, .int x2), (3, .int x3_8), (4, .int x4_10)]) [3, 4, 5, 1, 0] rfl ?_
    exact Hh5 x0 x1 x2 x3_8 x4_10 w hM
theorem o_X6_lowest_l5 {E : Ex} {g : Gx} (C : Ctx E RX6 cX6_lowest rm_X6_lowest 6 g) {rr : Int32} {wr : Wd} (hR : Rets E g (some .int) (some (.int rr)) wr) : ∀ (n : Nat) (x0 : Int32) (x1 : Int32) (x2 : Int32) (x3 : Int32) (x4 : Int32) (w : Wd), f_X6_lowest_l5 n x0 x1 x2 x3 x4 w = some (rr, wr) → Xx E 6 g 5 [(0, .int x0), (1, .int x1), (2, .int x2), (3, .int x3), (4, .int x4)] [] w := by
  intro n
  induction n with
  | zero =>
    intro x0 x1 x2 x3 x4 w hM
    rw [f_X6_lowest_l5] at hM
    cases hM
  | succ n ih =>
    intro x0 x1 x2 x3 x4 w hM
    rw [f_X6_lowest_l5] at hM
    exact o_X6_lowest_h5 C hR ih x0 x1 x2 x3 x4 w hM
set_option maxHeartbeats 1000000 in
set_option maxRecDepth 20000 in
theorem o_X6_lowest_b0 {E : Ex} {g : Gx} (C : Ctx E RX6 cX6_lowest rm_X6_lowest 6 g) {rr : Int32} {wr : Wd} (hR : Rets E g (some .int) (some (.int rr)) wr) (x0 : Int32) (x1 : Int32) (x2 : Int32) (w : Wd) (hM : f_X6_lowest_b0 x0 x1 x2 w = some (rr, wr)) : Xx E 6 g 0 [(0, .int x0), (1, .int x1), (2, .int x2)] [] w := by
  unfold f_X6_lowest_b0 at hM
  refine x_iload_n C dX6_lowest_0 0 rfl rfl ?_
  obtain ⟨x3_1, e_2, hM⟩ := bd hM
  refine x_top e_2 ?_
  refine x_istore_n (L' := [(3, .int x3_1), (0, .int x0), (1, .int x1), (2, .int x2)]) C dX6_lowest_1 rfl (by decide) rfl ?_
  refine x_iload_n C dX6_lowest_2 2 rfl rfl ?_
  obtain ⟨x4_3, e_4, hM⟩ := bd hM
  refine x_top e_4 ?_
  refine x_istore (L' := [(4, .int x4_3), (3, .int x3_1), (0, .int x0), (1, .int x1), (2, .int x2)]) C dX6_lowest_3 (by decide) rfl ?_
  refine x_sub (L' := [(0, .int x0), (1, .int x1), (2, .int x2), (3, .int x3_1), (4, .int x4_3)]) [2, 3, 4, 1, 0] rfl ?_
  exact o_X6_lowest_l5 C hR 300 x0 x1 x2 x3_1 x4_3 w hM
theorem c_X6_lowest (l : Launch) (g : Gx) (x0 : Int32) (x1 : Int32) (x2 : Int32) (w : Wd) {rr : Int32} {wr : Wd} (hM : f_X6_lowest x0 x1 x2 w = some (rr, wr)) : MetM l yX6_lowest cX6_lowest 6 (some .int) rm_X6_lowest g [.int x0, .int x1, .int x2] w (some (.int rr)) wr := by
  refine met_of (by decide) (Nat.le_of_ble_eq_true rfl) (fun E hl C hR => ?_)
  refine x_sub (L' := [(0, .int x0), (1, .int x1), (2, .int x2)]) [0, 1, 2] rfl ?_
  exact o_X6_lowest_b0 C hR x0 x1 x2 w hM
abbrev rm_X6_odds : Room := { frames := 3, cells := 0, slots := 0, locals := 64 }
set_option maxHeartbeats 1000000 in
set_option maxRecDepth 20000 in
theorem o_X6_odds_h92 {E : Ex} {g : Gx} (C : Ctx E RX6 cX6_odds rm_X6_odds 10 g) {rr : Int32} {wr : Wd} (hR : Rets E g (some .int) (some (.int rr)) wr) {kh77 : (Int32 → Int32 → Int32 → Int32 → Int32 → Int32 → Int32 → Wd → Option (Int32 × Wd))} (Hh77 : ∀ (x1 : Int32) (x2 : Int32) (x3 : Int32) (x4 : Int32) (x5 : Int32) (x6 : Int32) (x7 : Int32) (w : Wd), kh77 x1 x2 x3 x4 x5 x6 x7 w = some (rr, wr) → Xx E 10 g 77 [(1, .int x1), (2, .int x2), (3, .int x3), (4, .int x4), (5, .int x5), (6, .int x6), (7, .int x7)] [] w) {kh92 : (Int32 → Int32 → Int32 → Int32 → Int32 → Int32 → Int32 → Int32 → Int32 → Wd → Option (Int32 × Wd))} (Hh92 : ∀ (x1 : Int32) (x2 : Int32) (x3 : Int32) (x4 : Int32) (x5 : Int32) (x6 : Int32) (x7 : Int32) (x8 : Int32) (x9 : Int32) (w : Wd), kh92 x1 x2 x3 x4 x5 x6 x7 x8 x9 w = some (rr, wr) → Xx E 10 g 92 [(1, .int x1), (2, .int x2), (3, .int x3), (4, .int x4), (5, .int x5), (6, .int x6), (7, .int x7), (8, .int x8), (9, .int x9)] [] w) (x1 : Int32) (x2 : Int32) (x3 : Int32) (x4 : Int32) (x5 : Int32) (x6 : Int32) (x7 : Int32) (x8 : Int32) (x9 : Int32) (w : Wd) (hM : f_X6_odds_h92 kh77 kh92 x1 x2 x3 x4 x5 x6 x7 x8 x9 w = some (rr, wr)) : Xx E 10 g 92 [(1, .int x1), (2, .int x2), (3, .int x3), (4, .int x4), (5, .int x5), (6, .int x6), (7, .int x7), (8, .int x8), (9, .int x9)] [] w := by
  unfold f_X6_odds_h92 at hM
  refine x_iload C dX6_odds_92 8 rfl ?_
  refine x_iload C dX6_odds_94 3 rfl ?_
  refine x_icmp_ge (tgt := 128) C dX6_odds_96 (by decide) (fun c_1 => ?_) (fun c_1 => ?_)
  · have hM := ip c_1 hM
    refine x_iload C dX6_odds_128 4 rfl ?_
    refine x_iload C dX6_odds_130 6 rfl ?_
    obtain ⟨r_3, w_2, h_4, hM⟩ := cl hM
    refine x_callS (As := [.int x7]) C (c_X6_bits E.l g x7 w h_4) k_X6_bits gw_909 rfl rfl ⟨Nat.le_of_ble_eq_true rfl, Nat.le_of_ble_eq_true rfl⟩ rfl rfl (Nat.le_of_ble_eq_true rfl) dX6_odds_132 ?_
    refine x_iload_n C dX6_odds_135 1 rfl rfl ?_
    refine x_icmp_gt (tgt := 144) C dX6_odds_136 (by decide) (fun c_5 => ?_) (fun c_5 => ?_)
    · have hM := ip c_5 hM
      refine x_iconst (v := 0) C dX6_odds_144 (by decide) ?_
      refine x_iadd C dX6_odds_145 ?_
      obtain ⟨x5_6, e_7, hM⟩ := bd hM
      refine x_top e_7 ?_
      refine x_istore (L' := [(5, .int x5_6), (1, .int x1), (2, .int x2), (3, .int x3), (4, .int x4), (6, .int x6), (7, .int x7), (8, .int x8), (9, .int x9)]) C dX6_odds_146 (by decide) rfl ?_
      obtain ⟨x7_8, e_9, hM⟩ := bd hM
      refine x_iinc (L' := [(7, .int x7_8), (5, .int x5_6), (1, .int x1), (2, .int x2), (3, .int x3), (4, .int x4), (6, .int x6), (8, .int x8), (9, .int x9)]) C dX6_odds_148 6 rfl (v := x7_8) (by rw [e_9]; first | rfl | decide) (by decide) rfl ?_
      refine x_goto (tgt := 77) C dX6_odds_151 (by decide) ?_
      refine x_sub (L' := [(1, .int x1), (2, .int x2), (3, .int x3), (4, .int x4), (5, .int x5_6), (6, .int x6), (7, .int x7_8)]) [2, 3, 4, 5, 1, 6, 0] rfl ?_
      exact Hh77 x1 x2 x3 x4 x5_6 x6 x7_8 w_2 hM
    · have hM := iq c_5 hM
      refine x_iload C dX6_odds_139 7 rfl ?_
      refine x_goto (tgt := 145) C dX6_odds_141 (by decide) ?_
      refine x_iadd C dX6_odds_145 ?_
      obtain ⟨x5_10, e_11, hM⟩ := bd hM
      refine x_top e_11 ?_
      refine x_istore (L' := [(5, .int x5_10), (1, .int x1), (2, .int x2), (3, .int x3), (4, .int x4), (6, .int x6), (7, .int x7), (8, .int x8), (9, .int x9)]) C dX6_odds_146 (by decide) rfl ?_
      obtain ⟨x7_12, e_13, hM⟩ := bd hM
      refine x_iinc (L' := [(7, .int x7_12), (5, .int x5_10), (1, .int x1), (2, .int x2), (3, .int x3), (4, .int x4), (6, .int x6), (8, .int x8), (9, .int x9)]) C dX6_odds_148 6 rfl (v := x7_12) (by rw [e_13]; first | rfl | decide) (by decide) rfl ?_
      refine x_goto (tgt := 77) C dX6_odds_151 (by decide) ?_
      refine x_sub (L' := [(1, .int x1), (2, .int x2), (3, .int x3), (4, .int x4), (5, .int x5_10), (6, .int x6), (7, .int x7_12)]) [2, 3, 4, 5, 1, 6, 0] rfl ?_
      exact Hh77 x1 x2 x3 x4 x5_10 x6 x7_12 w_2 hM
  · have hM := iq c_1 hM
    refine x_iload C dX6_odds_99 7 rfl ?_
    refine x_iload C dX6_odds_101 6 rfl ?_
    refine x_iload C dX6_odds_103 8 rfl ?_
    obtain ⟨r_15, w_14, h_16, hM⟩ := cl hM
    refine x_callS (As := [.int x7, .int x9]) C (c_X6_has E.l g x7 x9 w h_16) k_X6_has gw_890 rfl rfl ⟨Nat.le_of_ble_eq_true rfl, Nat.le_of_ble_eq_true rfl⟩ rfl rfl (Nat.le_of_ble_eq_true rfl) dX6_odds_105 ?_
    refine x_if_eq (tgt := 115) C dX6_odds_108 (by decide) (fun c_17 => ?_) (fun c_17 => ?_)
    · have hM := ip c_17 hM
      refine x_bipush (v := 10) C dX6_odds_115 (by decide) ?_
      refine x_iload_n C dX6_odds_117 0 rfl rfl ?_
      refine x_isub C dX6_odds_118 ?_
      refine x_imul C dX6_odds_119 ?_
      obtain ⟨x8_18, e_19, hM⟩ := bd hM
      refine x_top e_19 ?_
      refine x_istore (L' := [(8, .int x8_18), (1, .int x1), (2, .int x2), (3, .int x3), (4, .int x4), (5, .int x5), (6, .int x6), (7, .int x7), (9, .int x9)]) C dX6_odds_120 (by decide) rfl ?_
      obtain ⟨x9_20, e_21, hM⟩ := bd hM
      refine x_iinc (L' := [(9, .int x9_20), (8, .int x8_18), (1, .int x1), (2, .int x2), (3, .int x3), (4, .int x4), (5, .int x5), (6, .int x6), (7, .int x7)]) C dX6_odds_122 8 rfl (v := x9_20) (by rw [e_21]; first | rfl | decide) (by decide) rfl ?_
      refine x_goto (tgt := 92) C dX6_odds_125 (by decide) ?_
      refine x_sub (L' := [(1, .int x1), (2, .int x2), (3, .int x3), (4, .int x4), (5, .int x5), (6, .int x6), (7, .int x7), (8, .int x8_18), (9, .int x9_20)]) [2, 3, 4, 5, 6, 7, 8, 1, 0] rfl ?_
      exact Hh92 x1 x2 x3 x4 x5 x6 x7 x8_18 x9_20 w_14 hM
    · have hM := iq c_17 hM
      refine x_iload_n C dX6_odds_111 0 rfl rfl ?_
      refine x_goto (tgt := 119) C dX6_odds_112 (by decide) ?_
      refine x_imul C dX6_odds_119 ?_
      obtain ⟨x8_22, e_23, hM⟩ := bd hM
      refine x_top e_23 ?_
      refine x_istore (L' := [(8, .int x8_22), (1, .int x1), (2, .int x2), (3, .int x3), (4, .int x4), (5, .int x5), (6, .int x6), (7, .int x7), (9, .int x9)]) C dX6_odds_120 (by decide) rfl ?_
      obtain ⟨x9_24, e_25, hM⟩ := bd hM
      refine x_iinc (L' := [(9, .int x9_24), (8, .int x8_22), (1, .int x1), (2, .int x2), (3, .int x3), (4, .int x4), (5, .int x5), (6, .int x6), (7, .int x7)]) C dX6_odds_122 8 rfl (v := x9_24) (by rw [e_25]; first | rfl | decide) (by decide) rfl ?_
      refine x_goto (tgt := 92) C dX6_odds_125 (by decide) ?_
      refine x_sub (L' := [(1, .int x1), (2, .int x2), (3, .int x3), (4, .int x4), (5, .int x5), (6, .int x6), (7, .int x7), (8, .int x8_22), (9, .int x9_24)]) [2, 3, 4, 5, 6, 7, 8, 1, 0] rfl ?_
      exact Hh92 x1 x2 x3 x4 x5 x6 x7 x8_22 x9_24 w_14 hM
theorem o_X6_odds_l92 {E : Ex} {g : Gx} (C : Ctx E RX6 cX6_odds rm_X6_odds 10 g) {rr : Int32} {wr : Wd} (hR : Rets E g (some .int) (some (.int rr)) wr) {kh77 : (Int32 → Int32 → Int32 → Int32 → Int32 → Int32 → Int32 → Wd → Option (Int32 × Wd))} (Hh77 : ∀ (x1 : Int32) (x2 : Int32) (x3 : Int32) (x4 : Int32) (x5 : Int32) (x6 : Int32) (x7 : Int32) (w : Wd), kh77 x1 x2 x3 x4 x5 x6 x7 w = some (rr, wr) → Xx E 10 g 77 [(1, .int x1), (2, .int x2), (3, .int x3), (4, .int x4), (5, .int x5), (6, .int x6), (7, .int x7)] [] w) : ∀ (n : Nat) (x1 : Int32) (x2 : Int32) (x3 : Int32) (x4 : Int32) (x5 : Int32) (x6 : Int32) (x7 : Int32) (x8 : Int32) (x9 : Int32) (w : Wd), f_X6_odds_l92 kh77 n x1 x2 x3 x4 x5 x6 x7 x8 x9 w = some (rr, wr) → Xx E 10 g 92 [(1, .int x1), (2, .int x2), (3, .int x3), (4, .int x4), (5, .int x5), (6, .int x6), (7, .int x7), (8, .int x8), (9, .int x9)] [] w := by
  intro n
  induction n with
  | zero =>
    intro x1 x2 x3 x4 x5 x6 x7 x8 x9 w hM
    rw [f_X6_odds_l92] at hM
    cases hM
  | succ n ih =>
    intro x1 x2 x3 x4 x5 x6 x7 x8 x9 w hM
    rw [f_X6_odds_l92] at hM
    exact o_X6_odds_h92 C hR Hh77 ih x1 x2 x3 x4 x5 x6 x7 x8 x9 w hM
set_option maxHeartbeats 1000000 in
set_option maxRecDepth 20000 in
theorem o_X6_odds_h77 {E : Ex} {g : Gx} (C : Ctx E RX6 cX6_odds rm_X6_odds 10 g) {rr : Int32} {wr : Wd} (hR : Rets E g (some .int) (some (.int rr)) wr) {kh77 : (Int32 → Int32 → Int32 → Int32 → Int32 → Int32 → Int32 → Wd → Option (Int32 × Wd))} (Hh77 : ∀ (x1 : Int32) (x2 : Int32) (x3 : Int32) (x4 : Int32) (x5 : Int32) (x6 : Int32) (x7 : Int32) (w : Wd), kh77 x1 x2 x3 x4 x5 x6 x7 w = some (rr, wr) → Xx E 10 g 77 [(1, .int x1), (2, .int x2), (3, .int x3), (4, .int x4), (5, .int x5), (6, .int x6), (7, .int x7)] [] w) (x1 : Int32) (x2 : Int32) (x3 : Int32) (x4 : Int32) (x5 : Int32) (x6 : Int32) (x7 : Int32) (w : Wd) (hM : f_X6_odds_h77 kh77 x1 x2 x3 x4 x5 x6 x7 w = some (rr, wr)) : Xx E 10 g 77 [(1, .int x1), (2, .int x2), (3, .int x3), (4, .int x4), (5, .int x5), (6, .int x6), (7, .int x7)] [] w := by
  unfold f_X6_odds_h77 at hM
  refine x_iload C dX6_odds_77 6 rfl ?_
  refine x_iconst (v := 1) C dX6_odds_79 (by decide) ?_
  refine x_iload C dX6_odds_80 3 rfl ?_
  refine x_ishl C dX6_odds_82 ?_
  refine x_icmp_ge (tgt := 154) C dX6_odds_83 (by decide) (fun c_1 => ?_) (fun c_1 => ?_)
  · have hM := ip c_1 hM
    refine x_iload C dX6_odds_154 4 rfl ?_
    refine x_iload C dX6_odds_156 5 rfl ?_
    refine x_iload_n C dX6_odds_158 2 rfl rfl ?_
    obtain ⟨r_3, w_2, h_4, hM⟩ := cl hM
    refine x_callS (As := [.int x5, .int x6, .int x3]) C (c_X6_lowest E.l g x5 x6 x3 w h_4) k_X6_lowest gw_996 rfl rfl ⟨Nat.le_of_ble_eq_true rfl, Nat.le_of_ble_eq_true rfl⟩ rfl rfl (Nat.le_of_ble_eq_true rfl) dX6_odds_159 ?_
    obtain ⟨rfl, rfl⟩ := rt hM
    exact x_iret C hR rfl dX6_odds_162
  · have hM := iq c_1 hM
    refine x_iconst (v := 1) C dX6_odds_86 (by decide) ?_
    obtain ⟨x8_5, e_6, hM⟩ := bd hM
    refine x_top e_6 ?_
    refine x_istore (L' := [(8, .int x8_5), (1, .int x1), (2, .int x2), (3, .int x3), (4, .int x4), (5, .int x5), (6, .int x6), (7, .int x7)]) C dX6_odds_87 (by decide) rfl ?_
    refine x_iconst (v := 0) C dX6_odds_89 (by decide) ?_
    obtain ⟨x9_7, e_8, hM⟩ := bd hM
    refine x_top e_8 ?_
    refine x_istore (L' := [(9, .int x9_7), (8, .int x8_5), (1, .int x1), (2, .int x2), (3, .int x3), (4, .int x4), (5, .int x5), (6, .int x6), (7, .int x7)]) C dX6_odds_90 (by decide) rfl ?_
    refine x_sub (L' := [(1, .int x1), (2, .int x2), (3, .int x3), (4, .int x4), (5, .int x5), (6, .int x6), (7, .int x7), (8, .int x8_5), (9, .int x9_7)]) [2, 3, 4, 5, 6, 7, 8, 1, 0] rfl ?_
    exact o_X6_odds_l92 C hR Hh77 300 x1 x2 x3 x4 x5 x6 x7 x8_5 x9_7 w hM
theorem o_X6_odds_l77 {E : Ex} {g : Gx} (C : Ctx E RX6 cX6_odds rm_X6_odds 10 g) {rr : Int32} {wr : Wd} (hR : Rets E g (some .int) (some (.int rr)) wr) : ∀ (n : Nat) (x1 : Int32) (x2 : Int32) (x3 : Int32) (x4 : Int32) (x5 : Int32) (x6 : Int32) (x7 : Int32) (w : Wd), f_X6_odds_l77 n x1 x2 x3 x4 x5 x6 x7 w = some (rr, wr) → Xx E 10 g 77 [(1, .int x1), (2, .int x2), (3, .int x3), (4, .int x4), (5, .int x5), (6, .int x6), (7, .int x7)] [] w := by
  intro n
  induction n with
  | zero =>
    intro x1 x2 x3 x4 x5 x6 x7 w hM
    rw [f_X6_odds_l77] at hM
    cases hM
  | succ n ih =>
    intro x1 x2 x3 x4 x5 x6 x7 w hM
    rw [f_X6_odds_l77] at hM
    exact o_X6_odds_h77 C hR ih x1 x2 x3 x4 x5 x6 x7 w hM
set_option maxHeartbeats 1000000 in
set_option maxRecDepth 20000 in
theorem o_X6_odds_h54 {E : Ex} {g : Gx} (C : Ctx E RX6 cX6_odds rm_X6_odds 10 g) {rr : Int32} {wr : Wd} (hR : Rets E g (some .int) (some (.int rr)) wr) {kh54 : (Int32 → Int32 → Int32 → Int32 → Int32 → Int32 → Int32 → Wd → Option (Int32 × Wd))} (Hh54 : ∀ (x1 : Int32) (x2 : Int32) (x3 : Int32) (x4 : Int32) (x5 : Int32) (x6 : Int32) (x7 : Int32) (w : Wd), kh54 x1 x2 x3 x4 x5 x6 x7 w = some (rr, wr) → Xx E 10 g 54 [(1, .int x1), (2, .int x2), (3, .int x3), (4, .int x4), (5, .int x5), (6, .int x6), (7, .int x7)] [] w) (x1 : Int32) (x2 : Int32) (x3 : Int32) (x4 : Int32) (x5 : Int32) (x6 : Int32) (x7 : Int32) (w : Wd) (hM : f_X6_odds_h54 kh54 x1 x2 x3 x4 x5 x6 x7 w = some (rr, wr)) : Xx E 10 g 54 [(1, .int x1), (2, .int x2), (3, .int x3), (4, .int x4), (5, .int x5), (6, .int x6), (7, .int x7)] [] w := by
  unfold f_X6_odds_h54 at hM
  refine x_iload C dX6_odds_54 6 rfl ?_
  refine x_iload C dX6_odds_56 3 rfl ?_
  refine x_icmp_ge (tgt := 74) C dX6_odds_58 (by decide) (fun c_1 => ?_) (fun c_1 => ?_)
  · have hM := ip c_1 hM
    refine x_iconst (v := 0) C dX6_odds_74 (by decide) ?_
    obtain ⟨x7_2, e_3, hM⟩ := bd hM
    refine x_top e_3 ?_
    refine x_istore (L' := [(7, .int x7_2), (1, .int x1), (2, .int x2), (3, .int x3), (4, .int x4), (5, .int x5), (6, .int x6)]) C dX6_odds_75 (by decide) rfl ?_
    refine x_sub (L' := [(1, .int x1), (2, .int x2), (3, .int x3), (4, .int x4), (5, .int x5), (6, .int x6), (7, .int x7_2)]) [1, 2, 3, 4, 5, 6, 0] rfl ?_
    exact o_X6_odds_l77 C hR 300 x1 x2 x3 x4 x5 x6 x7_2 w hM
  · have hM := iq c_1 hM
    refine x_iload C dX6_odds_61 5 rfl ?_
    refine x_bipush (v := 10) C dX6_odds_63 (by decide) ?_
    refine x_imul C dX6_odds_65 ?_
    obtain ⟨x6_4, e_5, hM⟩ := bd hM
    refine x_top e_5 ?_
    refine x_istore (L' := [(6, .int x6_4), (1, .int x1), (2, .int x2), (3, .int x3), (4, .int x4), (5, .int x5), (7, .int x7)]) C dX6_odds_66 (by decide) rfl ?_
    obtain ⟨x7_6, e_7, hM⟩ := bd hM
    refine x_iinc (L' := [(7, .int x7_6), (6, .int x6_4), (1, .int x1), (2, .int x2), (3, .int x3), (4, .int x4), (5, .int x5)]) C dX6_odds_68 6 rfl (v := x7_6) (by rw [e_7]; first | rfl | decide) (by decide) rfl ?_
    refine x_goto (tgt := 54) C dX6_odds_71 (by decide) ?_
    refine x_sub (L' := [(1, .int x1), (2, .int x2), (3, .int x3), (4, .int x4), (5, .int x5), (6, .int x6_4), (7, .int x7_6)]) [2, 3, 4, 5, 6, 1, 0] rfl ?_
    exact Hh54 x1 x2 x3 x4 x5 x6_4 x7_6 w hM
theorem o_X6_odds_l54 {E : Ex} {g : Gx} (C : Ctx E RX6 cX6_odds rm_X6_odds 10 g) {rr : Int32} {wr : Wd} (hR : Rets E g (some .int) (some (.int rr)) wr) : ∀ (n : Nat) (x1 : Int32) (x2 : Int32) (x3 : Int32) (x4 : Int32) (x5 : Int32) (x6 : Int32) (x7 : Int32) (w : Wd), f_X6_odds_l54 n x1 x2 x3 x4 x5 x6 x7 w = some (rr, wr) → Xx E 10 g 54 [(1, .int x1), (2, .int x2), (3, .int x3), (4, .int x4), (5, .int x5), (6, .int x6), (7, .int x7)] [] w := by
  intro n
  induction n with
  | zero =>
    intro x1 x2 x3 x4 x5 x6 x7 w hM
    rw [f_X6_odds_l54] at hM
    cases hM
  | succ n ih =>
    intro x1 x2 x3 x4 x5 x6 x7 w hM
    rw [f_X6_odds_l54] at hM
    exact o_X6_odds_h54 C hR ih x1 x2 x3 x4 x5 x6 x7 w hM
set_option maxHeartbeats 1000000 in
set_option maxRecDepth 20000 in
theorem o_X6_odds_b0 {E : Ex} {g : Gx} (C : Ctx E RX6 cX6_odds rm_X6_odds 10 g) {rr : Int32} {wr : Wd} (hR : Rets E g (some .int) (some (.int rr)) wr) (x1 : Int32) (x2 : Int32) (x3 : Int32) (w : Wd) (hM : f_X6_odds_b0 x1 x2 x3 w = some (rr, wr)) : Xx E 10 g 0 [(0, .ref (ad g 92)), (1, .int x1), (2, .int x2), (3, .int x3)] [] w := by
  unfold f_X6_odds_b0 at hM
  refine x_iload_n C dX6_odds_0 1 rfl rfl ?_
  refine x_iconst (v := 0) C dX6_odds_1 (by decide) ?_
  refine x_bipush (v := 10) C dX6_odds_2 (by decide) ?_
  obtain ⟨r_2, w_1, h_3, hM⟩ := cl hM
  refine x_callS (As := [.int x1, .int (0 : Int32), .int (10 : Int32)]) C (c_X6_in E.l g x1 (0 : Int32) (10 : Int32) w h_3) k_X6_in gw_813 rfl rfl ⟨Nat.le_of_ble_eq_true rfl, Nat.le_of_ble_eq_true rfl⟩ rfl rfl (Nat.le_of_ble_eq_true rfl) dX6_odds_4 ?_
  refine x_if_eq (tgt := 29) C dX6_odds_7 (by decide) (fun c_4 => ?_) (fun c_4 => ?_)
  · have hM := ip c_4 hM
    refine x_iconst (v := -1) C dX6_odds_29 (by decide) ?_
    obtain ⟨rfl, rfl⟩ := rt hM
    exact x_iret C hR rfl dX6_odds_30
  · have hM := iq c_4 hM
    refine x_iload_n C dX6_odds_10 2 rfl rfl ?_
    refine x_iconst (v := 0) C dX6_odds_11 (by decide) ?_
    refine x_bipush (v := 6) C dX6_odds_12 (by decide) ?_
    obtain ⟨r_6, w_5, h_7, hM⟩ := cl hM
    refine x_callS (As := [.int x2, .int (0 : Int32), .int (6 : Int32)]) C (c_X6_in E.l g x2 (0 : Int32) (6 : Int32) w_1 h_7) k_X6_in gw_813 rfl rfl ⟨Nat.le_of_ble_eq_true rfl, Nat.le_of_ble_eq_true rfl⟩ rfl rfl (Nat.le_of_ble_eq_true rfl) dX6_odds_14 ?_
    refine x_if_eq (tgt := 29) C dX6_odds_17 (by decide) (fun c_8 => ?_) (fun c_8 => ?_)
    · have hM := ip c_8 hM
      refine x_iconst (v := -1) C dX6_odds_29 (by decide) ?_
      obtain ⟨rfl, rfl⟩ := rt hM
      exact x_iret C hR rfl dX6_odds_30
    · have hM := iq c_8 hM
      refine x_iload_n C dX6_odds_20 3 rfl rfl ?_
      refine x_iconst (v := 0) C dX6_odds_21 (by decide) ?_
      refine x_iconst (v := 1) C dX6_odds_22 (by decide) ?_
      obtain ⟨r_10, w_9, h_11, hM⟩ := cl hM
      refine x_callS (As := [.int x3, .int (0 : Int32), .int (1 : Int32)]) C (c_X6_in E.l g x3 (0 : Int32) (1 : Int32) w_5 h_11) k_X6_in gw_813 rfl rfl ⟨Nat.le_of_ble_eq_true rfl, Nat.le_of_ble_eq_true rfl⟩ rfl rfl (Nat.le_of_ble_eq_true rfl) dX6_odds_23 ?_
      refine x_if_ne (tgt := 31) C dX6_odds_26 (by decide) (fun c_12 => ?_) (fun c_12 => ?_)
      · have hM := iq c_12 hM
        refine x_aload_n C dX6_odds_31 0 rfl rfl ?_
        refine xg_6_0 C kd_92 gw_714 dX6_odds_32 ?_
        refine x_aload_n C dX6_odds_35 0 rfl rfl ?_
        obtain ⟨r_14, w_13, h_15, hM⟩ := cl hM
        refine x_callV (As := []) C (c_X6_dry E.l g  w_9 h_15) k_X6_dry kd_92 (by decide) rfl rfl gw_905 rfl rfl ⟨Nat.le_of_ble_eq_true rfl, Nat.le_of_ble_eq_true rfl⟩ rfl rfl (Nat.le_of_ble_eq_true rfl) dX6_odds_36 ?_
        obtain ⟨r_17, w_16, h_18, hM⟩ := cl hM
        refine x_callS (As := [.int r_14]) C (c_X6_bits E.l g r_14 w_13 h_18) k_X6_bits gw_909 rfl rfl ⟨Nat.le_of_ble_eq_true rfl, Nat.le_of_ble_eq_true rfl⟩ rfl rfl (Nat.le_of_ble_eq_true rfl) dX6_odds_39 ?_
        refine x_isub C dX6_odds_42 ?_
        obtain ⟨x4_19, e_20, hM⟩ := bd hM
        refine x_top e_20 ?_
        refine x_istore (L' := [(4, .int x4_19), (0, .ref (ad g 92)), (1, .int x1), (2, .int x2), (3, .int x3)]) C dX6_odds_43 (by decide) rfl ?_
        refine x_iconst (v := 0) C dX6_odds_45 (by decide) ?_
        obtain ⟨x5_21, e_22, hM⟩ := bd hM
        refine x_top e_22 ?_
        refine x_istore (L' := [(5, .int x5_21), (4, .int x4_19), (0, .ref (ad g 92)), (1, .int x1), (2, .int x2), (3, .int x3)]) C dX6_odds_46 (by decide) rfl ?_
        refine x_iconst (v := 1) C dX6_odds_48 (by decide) ?_
        obtain ⟨x6_23, e_24, hM⟩ := bd hM
        refine x_top e_24 ?_
        refine x_istore (L' := [(6, .int x6_23), (5, .int x5_21), (4, .int x4_19), (0, .ref (ad g 92)), (1, .int x1), (2, .int x2), (3, .int x3)]) C dX6_odds_49 (by decide) rfl ?_
        refine x_iconst (v := 0) C dX6_odds_51 (by decide) ?_
        obtain ⟨x7_25, e_26, hM⟩ := bd hM
        refine x_top e_26 ?_
        refine x_istore (L' := [(7, .int x7_25), (6, .int x6_23), (5, .int x5_21), (4, .int x4_19), (0, .ref (ad g 92)), (1, .int x1), (2, .int x2), (3, .int x3)]) C dX6_odds_52 (by decide) rfl ?_
        refine x_sub (L' := [(1, .int x1), (2, .int x2), (3, .int x3), (4, .int x4_19), (5, .int x5_21), (6, .int x6_23), (7, .int x7_25)]) [5, 6, 7, 3, 2, 1, 0] rfl ?_
        exact o_X6_odds_l54 C hR 300 x1 x2 x3 x4_19 x5_21 x6_23 x7_25 w_16 hM
      · have hM := ip c_12 hM
        refine x_iconst (v := -1) C dX6_odds_29 (by decide) ?_
        obtain ⟨rfl, rfl⟩ := rt hM
        exact x_iret C hR rfl dX6_odds_30
theorem c_X6_odds (l : Launch) (g : Gx) (x1 : Int32) (x2 : Int32) (x3 : Int32) (w : Wd) {rr : Int32} {wr : Wd} (hM : f_X6_odds x1 x2 x3 w = some (rr, wr)) : MetM l yX6_odds cX6_odds 10 (some .int) rm_X6_odds g [.ref (ad g 92), .int x1, .int x2, .int x3] w (some (.int rr)) wr := by
  refine met_of (by decide) (Nat.le_of_ble_eq_true rfl) (fun E hl C hR => ?_)
  refine x_sub (L' := [(0, .ref (ad g 92)), (1, .int x1), (2, .int x2), (3, .int x3)]) [0, 1, 2, 3] rfl ?_
  exact o_X6_odds_b0 C hR x1 x2 x3 w hM
abbrev rm_X6_sees : Room := { frames := 2, cells := 0, slots := 0, locals := 43 }
set_option maxHeartbeats 1000000 in
set_option maxRecDepth 20000 in
theorem o_X6_sees_b0 {E : Ex} {g : Gx} (C : Ctx E RX6 cX6_sees rm_X6_sees 4 g) {rr : Int32} {wr : Wd} (hR : Rets E g (some .int) (some (.int rr)) wr) (x1 : Int32) (x2 : Int32) (x3 : Int32) (w : Wd) (hM : f_X6_sees_b0 x1 x2 x3 w = some (rr, wr)) : Xx E 4 g 0 [(0, .ref (ad g 92)), (1, .int x1), (2, .int x2), (3, .int x3)] [] w := by
  unfold f_X6_sees_b0 at hM
  refine x_aload_n C dX6_sees_0 0 rfl rfl ?_
  refine x_iload_n C dX6_sees_1 1 rfl rfl ?_
  obtain ⟨r_2, w_1, h_3, hM⟩ := cl hM
  refine x_callV (As := [.int x1]) C (c_X6_isOne E.l g x1 w h_3) k_X6_isOne kd_92 (by decide) rfl rfl gw_859 rfl rfl ⟨Nat.le_of_ble_eq_true rfl, Nat.le_of_ble_eq_true rfl⟩ rfl rfl (Nat.le_of_ble_eq_true rfl) dX6_sees_2 ?_
  refine x_if_eq (tgt := 28) C dX6_sees_5 (by decide) (fun c_4 => ?_) (fun c_4 => ?_)
  · have hM := ip c_4 hM
    refine x_iconst (v := -1) C dX6_sees_28 (by decide) ?_
    obtain ⟨rfl, rfl⟩ := rt hM
    exact x_iret C hR rfl dX6_sees_29
  · have hM := iq c_4 hM
    refine x_iload_n C dX6_sees_8 2 rfl rfl ?_
    refine x_iconst (v := 1) C dX6_sees_9 (by decide) ?_
    refine x_bipush (v := 20) C dX6_sees_10 (by decide) ?_
    obtain ⟨r_6, w_5, h_7, hM⟩ := cl hM
    refine x_callS (As := [.int x2, .int (1 : Int32), .int (20 : Int32)]) C (c_X6_in E.l g x2 (1 : Int32) (20 : Int32) w_1 h_7) k_X6_in gw_813 rfl rfl ⟨Nat.le_of_ble_eq_true rfl, Nat.le_of_ble_eq_true rfl⟩ rfl rfl (Nat.le_of_ble_eq_true rfl) dX6_sees_12 ?_
    refine x_if_eq (tgt := 28) C dX6_sees_15 (by decide) (fun c_8 => ?_) (fun c_8 => ?_)
    · have hM := ip c_8 hM
      refine x_iconst (v := -1) C dX6_sees_28 (by decide) ?_
      obtain ⟨rfl, rfl⟩ := rt hM
      exact x_iret C hR rfl dX6_sees_29
    · have hM := iq c_8 hM
      refine x_iload_n C dX6_sees_18 3 rfl rfl ?_
      refine x_iconst (v := 0) C dX6_sees_19 (by decide) ?_
      refine x_bipush (v := 10) C dX6_sees_20 (by decide) ?_
      obtain ⟨r_10, w_9, h_11, hM⟩ := cl hM
      refine x_callS (As := [.int x3, .int (0 : Int32), .int (10 : Int32)]) C (c_X6_in E.l g x3 (0 : Int32) (10 : Int32) w_5 h_11) k_X6_in gw_813 rfl rfl ⟨Nat.le_of_ble_eq_true rfl, Nat.le_of_ble_eq_true rfl⟩ rfl rfl (Nat.le_of_ble_eq_true rfl) dX6_sees_22 ?_
      refine x_if_ne (tgt := 30) C dX6_sees_25 (by decide) (fun c_12 => ?_) (fun c_12 => ?_)
      · have hM := iq c_12 hM
        refine x_aload_n C dX6_sees_30 0 rfl rfl ?_
        refine xg_6_12 C kd_92 gw_726 dX6_sees_31 ?_
        refine x_bipush (v := 6) C dX6_sees_34 (by decide) ?_
        refine x_icmp_ne (tgt := 42) C dX6_sees_36 (by decide) (fun c_13 => ?_) (fun c_13 => ?_)
        · have hM := iq c_13 hM
          refine x_aload_n C dX6_sees_42 0 rfl rfl ?_
          refine xg_6_13 C kd_92 gw_727 dX6_sees_43 ?_
          refine x_iconst (v := 3) C dX6_sees_46 (by decide) ?_
          refine x_aload_n C dX6_sees_47 0 rfl rfl ?_
          refine xg_6_12 C kd_92 gw_726 dX6_sees_48 ?_
          refine x_imul C dX6_sees_51 ?_
          refine x_iload_n C dX6_sees_52 1 rfl rfl ?_
          obtain ⟨q_14, hM⟩ := gd hM
          obtain ⟨w_15, e_16, hM⟩ := bd hM
          refine x_iast C kd_100 ln_100 q_14 rfl dX6_sees_53 ?_
          refine x_w e_16 ?_
          refine x_aload_n C dX6_sees_54 0 rfl rfl ?_
          refine xg_6_13 C kd_92 gw_727 dX6_sees_55 ?_
          refine x_iconst (v := 3) C dX6_sees_58 (by decide) ?_
          refine x_aload_n C dX6_sees_59 0 rfl rfl ?_
          refine xg_6_12 C kd_92 gw_726 dX6_sees_60 ?_
          refine x_imul C dX6_sees_63 ?_
          refine x_iconst (v := 1) C dX6_sees_64 (by decide) ?_
          refine x_iadd C dX6_sees_65 ?_
          refine x_iload_n C dX6_sees_66 2 rfl rfl ?_
          obtain ⟨q_17, hM⟩ := gd hM
          obtain ⟨w_18, e_19, hM⟩ := bd hM
          refine x_iast C kd_100 ln_100 q_17 rfl dX6_sees_67 ?_
          refine x_w e_19 ?_
          refine x_aload_n C dX6_sees_68 0 rfl rfl ?_
          refine xg_6_13 C kd_92 gw_727 dX6_sees_69 ?_
          refine x_iconst (v := 3) C dX6_sees_72 (by decide) ?_
          refine x_aload_n C dX6_sees_73 0 rfl rfl ?_
          refine xg_6_12 C kd_92 gw_726 dX6_sees_74 ?_
          refine x_imul C dX6_sees_77 ?_
          refine x_iconst (v := 2) C dX6_sees_78 (by decide) ?_
          refine x_iadd C dX6_sees_79 ?_
          refine x_iload_n C dX6_sees_80 3 rfl rfl ?_
          obtain ⟨q_20, hM⟩ := gd hM
          obtain ⟨w_21, e_22, hM⟩ := bd hM
          refine x_iast C kd_100 ln_100 q_20 rfl dX6_sees_81 ?_
          refine x_w e_22 ?_
          refine x_aload_n C dX6_sees_82 0 rfl rfl ?_
          refine x_dup C dX6_sees_83 rfl ?_
          refine xg_6_12 C kd_92 gw_726 dX6_sees_84 ?_
          refine x_iconst (v := 1) C dX6_sees_87 (by decide) ?_
          refine x_iadd C dX6_sees_88 ?_
          obtain ⟨w_23, e_24, hM⟩ := bd hM
          refine xp_6_12 C kd_92 gw_726 dX6_sees_89 ?_
          refine x_w e_24 ?_
          refine x_aload_n C dX6_sees_92 0 rfl rfl ?_
          refine xg_6_12 C kd_92 gw_726 dX6_sees_93 ?_
          obtain ⟨rfl, rfl⟩ := rt hM
          exact x_iret C hR rfl dX6_sees_96
        · have hM := ip c_13 hM
          refine x_bipush (v := -3) C dX6_sees_39 (by decide) ?_
          obtain ⟨rfl, rfl⟩ := rt hM
          exact x_iret C hR rfl dX6_sees_41
      · have hM := ip c_12 hM
        refine x_iconst (v := -1) C dX6_sees_28 (by decide) ?_
        obtain ⟨rfl, rfl⟩ := rt hM
        exact x_iret C hR rfl dX6_sees_29
theorem c_X6_sees (l : Launch) (g : Gx) (x1 : Int32) (x2 : Int32) (x3 : Int32) (w : Wd) {rr : Int32} {wr : Wd} (hM : f_X6_sees x1 x2 x3 w = some (rr, wr)) : MetM l yX6_sees cX6_sees 4 (some .int) rm_X6_sees g [.ref (ad g 92), .int x1, .int x2, .int x3] w (some (.int rr)) wr := by
  refine met_of (by decide) (Nat.le_of_ble_eq_true rfl) (fun E hl C hR => ?_)
  refine x_sub (L' := [(0, .ref (ad g 92)), (1, .int x1), (2, .int x2), (3, .int x3)]) [0, 1, 2, 3] rfl ?_
  exact o_X6_sees_b0 C hR x1 x2 x3 w hM
abbrev rm_X6_forget : Room := { frames := 0, cells := 0, slots := 0, locals := 0 }
set_option maxHeartbeats 1000000 in
set_option maxRecDepth 20000 in
theorem o_X6_forget_b0 {E : Ex} {g : Gx} (C : Ctx E RX6 cX6_forget rm_X6_forget 2 g) {rr : Int32} {wr : Wd} (hR : Rets E g (some .int) (some (.int rr)) wr) (w : Wd) (hM : f_X6_forget_b0 w = some (rr, wr)) : Xx E 2 g 0 [(0, .ref (ad g 92))] [] w := by
  unfold f_X6_forget_b0 at hM
  refine x_aload_n C dX6_forget_0 0 rfl rfl ?_
  refine xg_6_12 C kd_92 gw_726 dX6_forget_1 ?_
  obtain ⟨x1_1, e_2, hM⟩ := bd hM
  refine x_top e_2 ?_
  refine x_istore_n (L' := [(1, .int x1_1), (0, .ref (ad g 92))]) C dX6_forget_4 rfl (by decide) rfl ?_
  refine x_aload_n C dX6_forget_5 1 rfl rfl ?_
  refine x_iconst (v := 0) C dX6_forget_6 (by decide) ?_
  obtain ⟨w_3, e_4, hM⟩ := bd hM
  refine xp_6_12 C kd_92 gw_726 dX6_forget_7 ?_
  refine x_w e_4 ?_
  refine x_iload_n C dX6_forget_10 0 rfl rfl ?_
  obtain ⟨rfl, rfl⟩ := rt hM
  exact x_iret C hR rfl dX6_forget_11
theorem c_X6_forget (l : Launch) (g : Gx) (w : Wd) {rr : Int32} {wr : Wd} (hM : f_X6_forget w = some (rr, wr)) : MetM l yX6_forget cX6_forget 2 (some .int) rm_X6_forget g [.ref (ad g 92)] w (some (.int rr)) wr := by
  refine met_of (by decide) (Nat.le_of_ble_eq_true rfl) (fun E hl C hR => ?_)
  refine x_sub (L' := [(0, .ref (ad g 92))]) [0] rfl ?_
  exact o_X6_forget_b0 C hR w hM
abbrev rm_X6_deepAlone : Room := { frames := 0, cells := 0, slots := 0, locals := 0 }
set_option maxHeartbeats 1000000 in
set_option maxRecDepth 20000 in
theorem o_X6_deepAlone_h18 {E : Ex} {g : Gx} (C : Ctx E RX6 cX6_deepAlone rm_X6_deepAlone 8 g) {rr : Int32} {wr : Wd} (hR : Rets E g (some .int) (some (.int rr)) wr) {kh18 : (Int32 → Int32 → Int32 → Int32 → Int32 → Int32 → Wd → Option (Int32 × Wd))} (Hh18 : ∀ (x1 : Int32) (x2 : Int32) (x3 : Int32) (x4 : Int32) (x5 : Int32) (x6 : Int32) (w : Wd), kh18 x1 x2 x3 x4 x5 x6 w = some (rr, wr) → Xx E 8 g 18 [(0, .ref (ad g 92)), (1, .int x1), (2, .int x2), (3, .int x3), (4, .int x4), (5, .int x5), (6, .int x6)] [] w) (x1 : Int32) (x2 : Int32) (x3 : Int32) (x4 : Int32) (x5 : Int32) (x6 : Int32) (w : Wd) (hM : f_X6_deepAlone_h18 kh18 x1 x2 x3 x4 x5 x6 w = some (rr, wr)) : Xx E 8 g 18 [(0, .ref (ad g 92)), (1, .int x1), (2, .int x2), (3, .int x3), (4, .int x4), (5, .int x5), (6, .int x6)] [] w := by
  unfold f_X6_deepAlone_h18 at hM
  refine x_iload C dX6_deepAlone_18 6 rfl ?_
  refine x_iload_n C dX6_deepAlone_20 3 rfl rfl ?_
  refine x_icmp_ge (tgt := 122) C dX6_deepAlone_21 (by decide) (fun c_1 => ?_) (fun c_1 => ?_)
  · have hM := ip c_1 hM
    refine x_iload C dX6_deepAlone_122 5 rfl ?_
    obtain ⟨rfl, rfl⟩ := rt hM
    exact x_iret C hR rfl dX6_deepAlone_124
  · have hM := iq c_1 hM
    refine x_iload C dX6_deepAlone_24 4 rfl ?_
    refine x_aload_n C dX6_deepAlone_26 0 rfl rfl ?_
    refine xg_6_2 C kd_92 gw_716 dX6_deepAlone_27 ?_
    refine x_iload_n C dX6_deepAlone_30 1 rfl rfl ?_
    obtain ⟨q_2, hM⟩ := gd hM
    refine x_iald C kd_94 ln_94 q_2 rfl dX6_deepAlone_31 ?_
    refine x_iadd C dX6_deepAlone_32 ?_
    refine x_bipush (v := 30) C dX6_deepAlone_33 (by decide) ?_
    refine x_icmp_le (tgt := 43) C dX6_deepAlone_35 (by decide) (fun c_3 => ?_) (fun c_3 => ?_)
    · have hM := ip c_3 hM
      refine x_iload C dX6_deepAlone_43 4 rfl ?_
      refine x_aload_n C dX6_deepAlone_45 0 rfl rfl ?_
      refine xg_6_2 C kd_92 gw_716 dX6_deepAlone_46 ?_
      refine x_iload_n C dX6_deepAlone_49 1 rfl rfl ?_
      obtain ⟨q_4, hM⟩ := gd hM
      refine x_iald C kd_94 ln_94 q_4 rfl dX6_deepAlone_50 ?_
      refine x_iadd C dX6_deepAlone_51 ?_
      obtain ⟨x4_5, e_6, hM⟩ := bd hM
      refine x_top e_6 ?_
      refine x_istore (L' := [(4, .int x4_5), (0, .ref (ad g 92)), (1, .int x1), (2, .int x2), (3, .int x3), (5, .int x5), (6, .int x6)]) C dX6_deepAlone_52 (by decide) rfl ?_
      refine x_iload C dX6_deepAlone_54 0 rfl ?_
      refine x_aload_n C dX6_deepAlone_56 1 rfl rfl ?_
      refine xg_6_7 C kd_92 gw_721 dX6_deepAlone_57 ?_
      refine x_iconst (v := 1) C dX6_deepAlone_60 (by decide) ?_
      refine x_iald C kd_96 ln_96 (by decide) (j := 1) (by decide) dX6_deepAlone_61 ?_
      refine x_iadd C dX6_deepAlone_62 ?_
      refine x_iload_n C dX6_deepAlone_63 3 rfl rfl ?_
      refine x_isub C dX6_deepAlone_64 ?_
      obtain ⟨x7_7, e_8, hM⟩ := bd hM
      refine x_top e_8 ?_
      refine x_istore (L' := [(7, .int x7_7), (4, .int x4_5), (0, .ref (ad g 92)), (1, .int x1), (2, .int x2), (3, .int x3), (5, .int x5), (6, .int x6)]) C dX6_deepAlone_65 (by decide) rfl ?_
      refine x_iload C dX6_deepAlone_67 6 rfl ?_
      refine x_iload C dX6_deepAlone_69 0 rfl ?_
      refine x_if_le (tgt := 78) C dX6_deepAlone_71 (by decide) (fun c_9 => ?_) (fun c_9 => ?_)
      · have hM := ip c_9 hM
        refine x_iload C dX6_deepAlone_78 0 rfl ?_
        refine x_if_ge (tgt := 87) C dX6_deepAlone_80 (by decide) (fun c_10 => ?_) (fun c_10 => ?_)
        · have hM := ip c_10 hM
          refine x_iconst (v := 0) C dX6_deepAlone_87 (by decide) ?_
          refine x_isub C dX6_deepAlone_88 ?_
          obtain ⟨x5_11, e_12, hM⟩ := bd hM
          refine x_top e_12 ?_
          refine x_istore (L' := [(5, .int x5_11), (7, .int x7_7), (4, .int x4_5), (0, .ref (ad g 92)), (1, .int x1), (2, .int x2), (3, .int x3), (6, .int x6)]) C dX6_deepAlone_89 (by decide) rfl ?_
          refine x_iload C dX6_deepAlone_91 0 rfl ?_
          refine x_if_ge (tgt := 100) C dX6_deepAlone_93 (by decide) (fun c_13 => ?_) (fun c_13 => ?_)
          · have hM := ip c_13 hM
            refine x_iload C dX6_deepAlone_100 0 rfl ?_
            refine x_bipush (v := 10) C dX6_deepAlone_102 (by decide) ?_
            refine x_icmp_le (tgt := 112) C dX6_deepAlone_104 (by decide) (fun c_14 => ?_) (fun c_14 => ?_)
            · have hM := ip c_14 hM
              refine x_iload C dX6_deepAlone_112 0 rfl ?_
              obtain ⟨x5_15, e_16, hM⟩ := bd hM
              refine x_top e_16 ?_
              refine x_istore (L' := [(5, .int x5_15), (7, .int x7_7), (4, .int x4_5), (0, .ref (ad g 92)), (1, .int x1), (2, .int x2), (3, .int x3), (6, .int x6)]) C dX6_deepAlone_114 (by decide) rfl ?_
              obtain ⟨x6_17, e_18, hM⟩ := bd hM
              refine x_iinc (L' := [(6, .int x6_17), (5, .int x5_15), (7, .int x7_7), (4, .int x4_5), (0, .ref (ad g 92)), (1, .int x1), (2, .int x2), (3, .int x3)]) C dX6_deepAlone_116 7 rfl (v := x6_17) (by rw [e_18]; first | rfl | decide) (by decide) rfl ?_
              refine x_goto (tgt := 18) C dX6_deepAlone_119 (by decide) ?_
              refine x_sub (L' := [(0, .ref (ad g 92)), (1, .int x1), (2, .int x2), (3, .int x3), (4, .int x4_5), (5, .int x5_15), (6, .int x6_17)]) [4, 5, 6, 7, 3, 1, 0] rfl ?_
              exact Hh18 x1 x2 x3 x4_5 x5_15 x6_17 w hM
            · have hM := iq c_14 hM
              refine x_bipush (v := 10) C dX6_deepAlone_107 (by decide) ?_
              refine x_goto (tgt := 114) C dX6_deepAlone_109 (by decide) ?_
              obtain ⟨x5_19, e_20, hM⟩ := bd hM
              refine x_top e_20 ?_
              refine x_istore (L' := [(5, .int x5_19), (7, .int x7_7), (4, .int x4_5), (0, .ref (ad g 92)), (1, .int x1), (2, .int x2), (3, .int x3), (6, .int x6)]) C dX6_deepAlone_114 (by decide) rfl ?_
              obtain ⟨x6_21, e_22, hM⟩ := bd hM
              refine x_iinc (L' := [(6, .int x6_21), (5, .int x5_19), (7, .int x7_7), (4, .int x4_5), (0, .ref (ad g 92)), (1, .int x1), (2, .int x2), (3, .int x3)]) C dX6_deepAlone_116 7 rfl (v := x6_21) (by rw [e_22]; first | rfl | decide) (by decide) rfl ?_
              refine x_goto (tgt := 18) C dX6_deepAlone_119 (by decide) ?_
              refine x_sub (L' := [(0, .ref (ad g 92)), (1, .int x1), (2, .int x2), (3, .int x3), (4, .int x4_5), (5, .int x5_19), (6, .int x6_21)]) [4, 5, 6, 7, 3, 1, 0] rfl ?_
              exact Hh18 x1 x2 x3 x4_5 x5_19 x6_21 w hM
          · have hM := iq c_13 hM
            refine x_iconst (v := 0) C dX6_deepAlone_96 (by decide) ?_
            refine x_goto (tgt := 114) C dX6_deepAlone_97 (by decide) ?_
            obtain ⟨x5_23, e_24, hM⟩ := bd hM
            refine x_top e_24 ?_
            refine x_istore (L' := [(5, .int x5_23), (7, .int x7_7), (4, .int x4_5), (0, .ref (ad g 92)), (1, .int x1), (2, .int x2), (3, .int x3), (6, .int x6)]) C dX6_deepAlone_114 (by decide) rfl ?_
            obtain ⟨x6_25, e_26, hM⟩ := bd hM
            refine x_iinc (L' := [(6, .int x6_25), (5, .int x5_23), (7, .int x7_7), (4, .int x4_5), (0, .ref (ad g 92)), (1, .int x1), (2, .int x2), (3, .int x3)]) C dX6_deepAlone_116 7 rfl (v := x6_25) (by rw [e_26]; first | rfl | decide) (by decide) rfl ?_
            refine x_goto (tgt := 18) C dX6_deepAlone_119 (by decide) ?_
            refine x_sub (L' := [(0, .ref (ad g 92)), (1, .int x1), (2, .int x2), (3, .int x3), (4, .int x4_5), (5, .int x5_23), (6, .int x6_25)]) [4, 5, 6, 7, 3, 1, 0] rfl ?_
            exact Hh18 x1 x2 x3 x4_5 x5_23 x6_25 w hM
        · have hM := iq c_10 hM
          refine x_iconst (v := -1) C dX6_deepAlone_83 (by decide) ?_
          refine x_goto (tgt := 88) C dX6_deepAlone_84 (by decide) ?_
          refine x_isub C dX6_deepAlone_88 ?_
          obtain ⟨x5_27, e_28, hM⟩ := bd hM
          refine x_top e_28 ?_
          refine x_istore (L' := [(5, .int x5_27), (7, .int x7_7), (4, .int x4_5), (0, .ref (ad g 92)), (1, .int x1), (2, .int x2), (3, .int x3), (6, .int x6)]) C dX6_deepAlone_89 (by decide) rfl ?_
          refine x_iload C dX6_deepAlone_91 0 rfl ?_
          refine x_if_ge (tgt := 100) C dX6_deepAlone_93 (by decide) (fun c_29 => ?_) (fun c_29 => ?_)
          · have hM := ip c_29 hM
            refine x_iload C dX6_deepAlone_100 0 rfl ?_
            refine x_bipush (v := 10) C dX6_deepAlone_102 (by decide) ?_
            refine x_icmp_le (tgt := 112) C dX6_deepAlone_104 (by decide) (fun c_30 => ?_) (fun c_30 => ?_)
            · have hM := ip c_30 hM
              refine x_iload C dX6_deepAlone_112 0 rfl ?_
              obtain ⟨x5_31, e_32, hM⟩ := bd hM
              refine x_top e_32 ?_
              refine x_istore (L' := [(5, .int x5_31), (7, .int x7_7), (4, .int x4_5), (0, .ref (ad g 92)), (1, .int x1), (2, .int x2), (3, .int x3), (6, .int x6)]) C dX6_deepAlone_114 (by decide) rfl ?_
              obtain ⟨x6_33, e_34, hM⟩ := bd hM
              refine x_iinc (L' := [(6, .int x6_33), (5, .int x5_31), (7, .int x7_7), (4, .int x4_5), (0, .ref (ad g 92)), (1, .int x1), (2, .int x2), (3, .int x3)]) C dX6_deepAlone_116 7 rfl (v := x6_33) (by rw [e_34]; first | rfl | decide) (by decide) rfl ?_
              refine x_goto (tgt := 18) C dX6_deepAlone_119 (by decide) ?_
              refine x_sub (L' := [(0, .ref (ad g 92)), (1, .int x1), (2, .int x2), (3, .int x3), (4, .int x4_5), (5, .int x5_31), (6, .int x6_33)]) [4, 5, 6, 7, 3, 1, 0] rfl ?_
              exact Hh18 x1 x2 x3 x4_5 x5_31 x6_33 w hM
            · have hM := iq c_30 hM
              refine x_bipush (v := 10) C dX6_deepAlone_107 (by decide) ?_
              refine x_goto (tgt := 114) C dX6_deepAlone_109 (by decide) ?_
              obtain ⟨x5_35, e_36, hM⟩ := bd hM
              refine x_top e_36 ?_
              refine x_istore (L' := [(5, .int x5_35), (7, .int x7_7), (4, .int x4_5), (0, .ref (ad g 92)), (1, .int x1), (2, .int x2), (3, .int x3), (6, .int x6)]) C dX6_deepAlone_114 (by decide) rfl ?_
              obtain ⟨x6_37, e_38, hM⟩ := bd hM
              refine x_iinc (L' := [(6, .int x6_37), (5, .int x5_35), (7, .int x7_7), (4, .int x4_5), (0, .ref (ad g 92)), (1, .int x1), (2, .int x2), (3, .int x3)]) C dX6_deepAlone_116 7 rfl (v := x6_37) (by rw [e_38]; first | rfl | decide) (by decide) rfl ?_
              refine x_goto (tgt := 18) C dX6_deepAlone_119 (by decide) ?_
              refine x_sub (L' := [(0, .ref (ad g 92)), (1, .int x1), (2, .int x2), (3, .int x3), (4, .int x4_5), (5, .int x5_35), (6, .int x6_37)]) [4, 5, 6, 7, 3, 1, 0] rfl ?_
              exact Hh18 x1 x2 x3 x4_5 x5_35 x6_37 w hM
          · have hM := iq c_29 hM
            refine x_iconst (v := 0) C dX6_deepAlone_96 (by decide) ?_
            refine x_goto (tgt := 114) C dX6_deepAlone_97 (by decide) ?_
            obtain ⟨x5_39, e_40, hM⟩ := bd hM
            refine x_top e_40 ?_
            refine x_istore (L' := [(5, .int x5_39), (7, .int x7_7), (4, .int x4_5), (0, .ref (ad g 92)), (1, .int x1), (2, .int x2), (3, .int x3), (6, .int x6)]) C dX6_deepAlone_114 (by decide) rfl ?_
            obtain ⟨x6_41, e_42, hM⟩ := bd hM
            refine x_iinc (L' := [(6, .int x6_41), (5, .int x5_39), (7, .int x7_7), (4, .int x4_5), (0, .ref (ad g 92)), (1, .int x1), (2, .int x2), (3, .int x3)]) C dX6_deepAlone_116 7 rfl (v := x6_41) (by rw [e_42]; first | rfl | decide) (by decide) rfl ?_
            refine x_goto (tgt := 18) C dX6_deepAlone_119 (by decide) ?_
            refine x_sub (L' := [(0, .ref (ad g 92)), (1, .int x1), (2, .int x2), (3, .int x3), (4, .int x4_5), (5, .int x5_39), (6, .int x6_41)]) [4, 5, 6, 7, 3, 1, 0] rfl ?_
            exact Hh18 x1 x2 x3 x4_5 x5_39 x6_41 w hM
      · have hM := iq c_9 hM
        refine x_iconst (v := 1) C dX6_deepAlone_74 (by decide) ?_
        refine x_goto (tgt := 88) C dX6_deepAlone_75 (by decide) ?_
        refine x_isub C dX6_deepAlone_88 ?_
        obtain ⟨x5_43, e_44, hM⟩ := bd hM
        refine x_top e_44 ?_
        refine x_istore (L' := [(5, .int x5_43), (7, .int x7_7), (4, .int x4_5), (0, .ref (ad g 92)), (1, .int x1), (2, .int x2), (3, .int x3), (6, .int x6)]) C dX6_deepAlone_89 (by decide) rfl ?_
        refine x_iload C dX6_deepAlone_91 0 rfl ?_
        refine x_if_ge (tgt := 100) C dX6_deepAlone_93 (by decide) (fun c_45 => ?_) (fun c_45 => ?_)
        · have hM := ip c_45 hM
          refine x_iload C dX6_deepAlone_100 0 rfl ?_
          refine x_bipush (v := 10) C dX6_deepAlone_102 (by decide) ?_
          refine x_icmp_le (tgt := 112) C dX6_deepAlone_104 (by decide) (fun c_46 => ?_) (fun c_46 => ?_)
          · have hM := ip c_46 hM
            refine x_iload C dX6_deepAlone_112 0 rfl ?_
            obtain ⟨x5_47, e_48, hM⟩ := bd hM
            refine x_top e_48 ?_
            refine x_istore (L' := [(5, .int x5_47), (7, .int x7_7), (4, .int x4_5), (0, .ref (ad g 92)), (1, .int x1), (2, .int x2), (3, .int x3), (6, .int x6)]) C dX6_deepAlone_114 (by decide) rfl ?_
            obtain ⟨x6_49, e_50, hM⟩ := bd hM
            refine x_iinc (L' := [(6, .int x6_49), (5, .int x5_47), (7, .int x7_7), (4, .int x4_5), (0, .ref (ad g 92)), (1, .int x1), (2, .int x2), (3, .int x3)]) C dX6_deepAlone_116 7 rfl (v := x6_49) (by rw [e_50]; first | rfl | decide) (by decide) rfl ?_
            refine x_goto (tgt := 18) C dX6_deepAlone_119 (by decide) ?_
            refine x_sub (L' := [(0, .ref (ad g 92)), (1, .int x1), (2, .int x2), (3, .int x3), (4, .int x4_5), (5, .int x5_47), (6, .int x6_49)]) [4, 5, 6, 7, 3, 1, 0] rfl ?_
            exact Hh18 x1 x2 x3 x4_5 x5_47 x6_49 w hM
          · have hM := iq c_46 hM
            refine x_bipush (v := 10) C dX6_deepAlone_107 (by decide) ?_
            refine x_goto (tgt := 114) C dX6_deepAlone_109 (by decide) ?_
            obtain ⟨x5_51, e_52, hM⟩ := bd hM
            refine x_top e_52 ?_
            refine x_istore (L' := [(5, .int x5_51), (7, .int x7_7), (4, .int x4_5), (0, .ref (ad g 92)), (1, .int x1), (2, .int x2), (3, .int x3), (6, .int x6)]) C dX6_deepAlone_114 (by decide) rfl ?_
            obtain ⟨x6_53, e_54, hM⟩ := bd hM
            refine x_iinc (L' := [(6, .int x6_53), (5, .int x5_51), (7, .int x7_7), (4, .int x4_5), (0, .ref (ad g 92)), (1, .int x1), (2, .int x2), (3, .int x3)]) C dX6_deepAlone_116 7 rfl (v := x6_53) (by rw [e_54]; first | rfl | decide) (by decide) rfl ?_
            refine x_goto (tgt := 18) C dX6_deepAlone_119 (by decide) ?_
            refine x_sub (L' := [(0, .ref (ad g 92)), (1, .int x1), (2, .int x2), (3, .int x3), (4, .int x4_5), (5, .int x5_51), (6, .int x6_53)]) [4, 5, 6, 7, 3, 1, 0] rfl ?_
            exact Hh18 x1 x2 x3 x4_5 x5_51 x6_53 w hM
        · have hM := iq c_45 hM
          refine x_iconst (v := 0) C dX6_deepAlone_96 (by decide) ?_
          refine x_goto (tgt := 114) C dX6_deepAlone_97 (by decide) ?_
          obtain ⟨x5_55, e_56, hM⟩ := bd hM
          refine x_top e_56 ?_
          refine x_istore (L' := [(5, .int x5_55), (7, .int x7_7), (4, .int x4_5), (0, .ref (ad g 92)), (1, .int x1), (2, .int x2), (3, .int x3), (6, .int x6)]) C dX6_deepAlone_114 (by decide) rfl ?_
          obtain ⟨x6_57, e_58, hM⟩ := bd hM
          refine x_iinc (L' := [(6, .int x6_57), (5, .int x5_55), (7, .int x7_7), (4, .int x4_5), (0, .ref (ad g 92)), (1, .int x1), (2, .int x2), (3, .int x3)]) C dX6_deepAlone_116 7 rfl (v := x6_57) (by rw [e_58]; first | rfl | decide) (by decide) rfl ?_
          refine x_goto (tgt := 18) C dX6_deepAlone_119 (by decide) ?_
          refine x_sub (L' := [(0, .ref (ad g 92)), (1, .int x1), (2, .int x2), (3, .int x3), (4, .int x4_5), (5, .int x5_55), (6, .int x6_57)]) [4, 5, 6, 7, 3, 1, 0] rfl ?_
          exact Hh18 x1 x2 x3 x4_5 x5_55 x6_57 w hM
    · have hM := iq c_3 hM
      refine x_bipush (v := 30) C dX6_deepAlone_38 (by decide) ?_
      refine x_goto (tgt := 52) C dX6_deepAlone_40 (by decide) ?_
      obtain ⟨x4_59, e_60, hM⟩ := bd hM
      refine x_top e_60 ?_
      refine x_istore (L' := [(4, .int x4_59), (0, .ref (ad g 92)), (1, .int x1), (2, .int x2), (3, .int x3), (5, .int x5), (6, .int x6)]) C dX6_deepAlone_52 (by decide) rfl ?_
      refine x_iload C dX6_deepAlone_54 0 rfl ?_
      refine x_aload_n C dX6_deepAlone_56 1 rfl rfl ?_
      refine xg_6_7 C kd_92 gw_721 dX6_deepAlone_57 ?_
      refine x_iconst (v := 1) C dX6_deepAlone_60 (by decide) ?_
      refine x_iald C kd_96 ln_96 (by decide) (j := 1) (by decide) dX6_deepAlone_61 ?_
      refine x_iadd C dX6_deepAlone_62 ?_
      refine x_iload_n C dX6_deepAlone_63 3 rfl rfl ?_
      refine x_isub C dX6_deepAlone_64 ?_
      obtain ⟨x7_61, e_62, hM⟩ := bd hM
      refine x_top e_62 ?_
      refine x_istore (L' := [(7, .int x7_61), (4, .int x4_59), (0, .ref (ad g 92)), (1, .int x1), (2, .int x2), (3, .int x3), (5, .int x5), (6, .int x6)]) C dX6_deepAlone_65 (by decide) rfl ?_
      refine x_iload C dX6_deepAlone_67 6 rfl ?_
      refine x_iload C dX6_deepAlone_69 0 rfl ?_
      refine x_if_le (tgt := 78) C dX6_deepAlone_71 (by decide) (fun c_63 => ?_) (fun c_63 => ?_)
      · have hM := ip c_63 hM
        refine x_iload C dX6_deepAlone_78 0 rfl ?_
        refine x_if_ge (tgt := 87) C dX6_deepAlone_80 (by decide) (fun c_64 => ?_) (fun c_64 => ?_)
        · have hM := ip c_64 hM
          refine x_iconst (v := 0) C dX6_deepAlone_87 (by decide) ?_
          refine x_isub C dX6_deepAlone_88 ?_
          obtain ⟨x5_65, e_66, hM⟩ := bd hM
          refine x_top e_66 ?_
          refine x_istore (L' := [(5, .int x5_65), (7, .int x7_61), (4, .int x4_59), (0, .ref (ad g 92)), (1, .int x1), (2, .int x2), (3, .int x3), (6, .int x6)]) C dX6_deepAlone_89 (by decide) rfl ?_
          refine x_iload C dX6_deepAlone_91 0 rfl ?_
          refine x_if_ge (tgt := 100) C dX6_deepAlone_93 (by decide) (fun c_67 => ?_) (fun c_67 => ?_)
          · have hM := ip c_67 hM
            refine x_iload C dX6_deepAlone_100 0 rfl ?_
            refine x_bipush (v := 10) C dX6_deepAlone_102 (by decide) ?_
            refine x_icmp_le (tgt := 112) C dX6_deepAlone_104 (by decide) (fun c_68 => ?_) (fun c_68 => ?_)
            · have hM := ip c_68 hM
              refine x_iload C dX6_deepAlone_112 0 rfl ?_
              obtain ⟨x5_69, e_70, hM⟩ := bd hM
              refine x_top e_70 ?_
              refine x_istore (L' := [(5, .int x5_69), (7, .int x7_61), (4, .int x4_59), (0, .ref (ad g 92)), (1, .int x1), (2, .int x2), (3, .int x3), (6, .int x6)]) C dX6_deepAlone_114 (by decide) rfl ?_
              obtain ⟨x6_71, e_72, hM⟩ := bd hM
              refine x_iinc (L' := [(6, .int x6_71), (5, .int x5_69), (7, .int x7_61), (4, .int x4_59), (0, .ref (ad g 92)), (1, .int x1), (2, .int x2), (3, .int x3)]) C dX6_deepAlone_116 7 rfl (v := x6_71) (by rw [e_72]; first | rfl | decide) (by decide) rfl ?_
              refine x_goto (tgt := 18) C dX6_deepAlone_119 (by decide) ?_
              refine x_sub (L' := [(0, .ref (ad g 92)), (1, .int x1), (2, .int x2), (3, .int x3), (4, .int x4_59), (5, .int x5_69), (6, .int x6_71)]) [4, 5, 6, 7, 3, 1, 0] rfl ?_
              exact Hh18 x1 x2 x3 x4_59 x5_69 x6_71 w hM
            · have hM := iq c_68 hM
              refine x_bipush (v := 10) C dX6_deepAlone_107 (by decide) ?_
              refine x_goto (tgt := 114) C dX6_deepAlone_109 (by decide) ?_
              obtain ⟨x5_73, e_74, hM⟩ := bd hM
              refine x_top e_74 ?_
              refine x_istore (L' := [(5, .int x5_73), (7, .int x7_61), (4, .int x4_59), (0, .ref (ad g 92)), (1, .int x1), (2, .int x2), (3, .int x3), (6, .int x6)]) C dX6_deepAlone_114 (by decide) rfl ?_
              obtain ⟨x6_75, e_76, hM⟩ := bd hM
              refine x_iinc (L' := [(6, .int x6_75), (5, .int x5_73), (7, .int x7_61), (4, .int x4_59), (0, .ref (ad g 92)), (1, .int x1), (2, .int x2), (3, .int x3)]) C dX6_deepAlone_116 7 rfl (v := x6_75) (by rw [e_76]; first | rfl | decide) (by decide) rfl ?_
              refine x_goto (tgt := 18) C dX6_deepAlone_119 (by decide) ?_
              refine x_sub (L' := [(0, .ref (ad g 92)), (1, .int x1), (2, .int x2), (3, .int x3), (4, .int x4_59), (5, .int x5_73), (6, .int x6_75)]) [4, 5, 6, 7, 3, 1, 0] rfl ?_
              exact Hh18 x1 x2 x3 x4_59 x5_73 x6_75 w hM
          · have hM := iq c_67 hM
            refine x_iconst (v := 0) C dX6_deepAlone_96 (by decide) ?_
            refine x_goto (tgt := 114) C dX6_deepAlone_97 (by decide) ?_
            obtain ⟨x5_77, e_78, hM⟩ := bd hM
            refine x_top e_78 ?_
            refine x_istore (L' := [(5, .int x5_77), (7, .int x7_61), (4, .int x4_59), (0, .ref (ad g 92)), (1, .int x1), (2, .int x2), (3, .int x3), (6, .int x6)]) C dX6_deepAlone_114 (by decide) rfl ?_
            obtain ⟨x6_79, e_80, hM⟩ := bd hM
            refine x_iinc (L' := [(6, .int x6_79), (5, .int x5_77), (7, .int x7_61), (4, .int x4_59), (0, .ref (ad g 92)), (1, .int x1), (2, .int x2), (3, .int x3)]) C dX6_deepAlone_116 7 rfl (v := x6_79) (by rw [e_80]; first | rfl | decide) (by decide) rfl ?_
            refine x_goto (tgt := 18) C dX6_deepAlone_119 (by decide) ?_
            refine x_sub (L' := [(0, .ref (ad g 92)), (1, .int x1), (2, .int x2), (3, .int x3), (4, .int x4_59), (5, .int x5_77), (6, .int x6_79)]) [4, 5, 6, 7, 3, 1, 0] rfl ?_
            exact Hh18 x1 x2 x3 x4_59 x5_77 x6_79 w hM
        · have hM := iq c_64 hM
          refine x_iconst (v := -1) C dX6_deepAlone_83 (by decide) ?_
          refine x_goto (tgt := 88) C dX6_deepAlone_84 (by decide) ?_
          refine x_isub C dX6_deepAlone_88 ?_
          obtain ⟨x5_81, e_82, hM⟩ := bd hM
          refine x_top e_82 ?_
          refine x_istore (L' := [(5, .int x5_81), (7, .int x7_61), (4, .int x4_59), (0, .ref (ad g 92)), (1, .int x1), (2, .int x2), (3, .int x3), (6, .int x6)]) C dX6_deepAlone_89 (by decide) rfl ?_
          refine x_iload C dX6_deepAlone_91 0 rfl ?_
          refine x_if_ge (tgt := 100) C dX6_deepAlone_93 (by decide) (fun c_83 => ?_) (fun c_83 => ?_)
          · have hM := ip c_83 hM
            refine x_iload C dX6_deepAlone_100 0 rfl ?_
            refine x_bipush (v := 10) C dX6_deepAlone_102 (by decide) ?_
            refine x_icmp_le (tgt := 112) C dX6_deepAlone_104 (by decide) (fun c_84 => ?_) (fun c_84 => ?_)
            · have hM := ip c_84 hM
              refine x_iload C dX6_deepAlone_112 0 rfl ?_
              obtain ⟨x5_85, e_86, hM⟩ := bd hM
              refine x_top e_86 ?_
              refine x_istore (L' := [(5, .int x5_85), (7, .int x7_61), (4, .int x4_59), (0, .ref (ad g 92)), (1, .int x1), (2, .int x2), (3, .int x3), (6, .int x6)]) C dX6_deepAlone_114 (by decide) rfl ?_
              obtain ⟨x6_87, e_88, hM⟩ := bd hM
              refine x_iinc (L' := [(6, .int x6_87), (5, .int x5_85), (7, .int x7_61), (4, .int x4_59), (0, .ref (ad g 92)), (1, .int x1), (2, .int x2), (3, .int x3)]) C dX6_deepAlone_116 7 rfl (v := x6_87) (by rw [e_88]; first | rfl | decide) (by decide) rfl ?_
              refine x_goto (tgt := 18) C dX6_deepAlone_119 (by decide) ?_
              refine x_sub (L' := [(0, .ref (ad g 92)), (1, .int x1), (2, .int x2), (3, .int x3), (4, .int x4_59), (5, .int x5_85), (6, .int x6_87)]) [4, 5, 6, 7, 3, 1, 0] rfl ?_
              exact Hh18 x1 x2 x3 x4_59 x5_85 x6_87 w hM
            · have hM := iq c_84 hM
              refine x_bipush (v := 10) C dX6_deepAlone_107 (by decide) ?_
              refine x_goto (tgt := 114) C dX6_deepAlone_109 (by decide) ?_
              obtain ⟨x5_89, e_90, hM⟩ := bd hM
              refine x_top e_90 ?_
              refine x_istore (L' := [(5, .int x5_89), (7, .int x7_61), (4, .int x4_59), (0, .ref (ad g 92)), (1, .int x1), (2, .int x2), (3, .int x3), (6, .int x6)]) C dX6_deepAlone_114 (by decide) rfl ?_
              obtain ⟨x6_91, e_92, hM⟩ := bd hM
              refine x_iinc (L' := [(6, .int x6_91), (5, .int x5_89), (7, .int x7_61), (4, .int x4_59), (0, .ref (ad g 92)), (1, .int x1), (2, .int x2), (3, .int x3)]) C dX6_deepAlone_116 7 rfl (v := x6_91) (by rw [e_92]; first | rfl | decide) (by decide) rfl ?_
              refine x_goto (tgt := 18) C dX6_deepAlone_119 (by decide) ?_
              refine x_sub (L' := [(0, .ref (ad g 92)), (1, .int x1), (2, .int x2), (3, .int x3), (4, .int x4_59), (5, .int x5_89), (6, .int x6_91)]) [4, 5, 6, 7, 3, 1, 0] rfl ?_
              exact Hh18 x1 x2 x3 x4_59 x5_89 x6_91 w hM
          · have hM := iq c_83 hM
            refine x_iconst (v := 0) C dX6_deepAlone_96 (by decide) ?_
            refine x_goto (tgt := 114) C dX6_deepAlone_97 (by decide) ?_
            obtain ⟨x5_93, e_94, hM⟩ := bd hM
            refine x_top e_94 ?_
            refine x_istore (L' := [(5, .int x5_93), (7, .int x7_61), (4, .int x4_59), (0, .ref (ad g 92)), (1, .int x1), (2, .int x2), (3, .int x3), (6, .int x6)]) C dX6_deepAlone_114 (by decide) rfl ?_
            obtain ⟨x6_95, e_96, hM⟩ := bd hM
            refine x_iinc (L' := [(6, .int x6_95), (5, .int x5_93), (7, .int x7_61), (4, .int x4_59), (0, .ref (ad g 92)), (1, .int x1), (2, .int x2), (3, .int x3)]) C dX6_deepAlone_116 7 rfl (v := x6_95) (by rw [e_96]; first | rfl | decide) (by decide) rfl ?_
            refine x_goto (tgt := 18) C dX6_deepAlone_119 (by decide) ?_
            refine x_sub (L' := [(0, .ref (ad g 92)), (1, .int x1), (2, .int x2), (3, .int x3), (4, .int x4_59), (5, .int x5_93), (6, .int x6_95)]) [4, 5, 6, 7, 3, 1, 0] rfl ?_
            exact Hh18 x1 x2 x3 x4_59 x5_93 x6_95 w hM
      · have hM := iq c_63 hM
        refine x_iconst (v := 1) C dX6_deepAlone_74 (by decide) ?_
        refine x_goto (tgt := 88) C dX6_deepAlone_75 (by decide) ?_
        refine x_isub C dX6_deepAlone_88 ?_
        obtain ⟨x5_97, e_98, hM⟩ := bd hM
        refine x_top e_98 ?_
        refine x_istore (L' := [(5, .int x5_97), (7, .int x7_61), (4, .int x4_59), (0, .ref (ad g 92)), (1, .int x1), (2, .int x2), (3, .int x3), (6, .int x6)]) C dX6_deepAlone_89 (by decide) rfl ?_
        refine x_iload C dX6_deepAlone_91 0 rfl ?_
        refine x_if_ge (tgt := 100) C dX6_deepAlone_93 (by decide) (fun c_99 => ?_) (fun c_99 => ?_)
        · have hM := ip c_99 hM
          refine x_iload C dX6_deepAlone_100 0 rfl ?_
          refine x_bipush (v := 10) C dX6_deepAlone_102 (by decide) ?_
          refine x_icmp_le (tgt := 112) C dX6_deepAlone_104 (by decide) (fun c_100 => ?_) (fun c_100 => ?_)
          · have hM := ip c_100 hM
            refine x_iload C dX6_deepAlone_112 0 rfl ?_
            obtain ⟨x5_101, e_102, hM⟩ := bd hM
            refine x_top e_102 ?_
            refine x_istore (L' := [(5, .int x5_101), (7, .int x7_61), (4, .int x4_59), (0, .ref (ad g 92)), (1, .int x1), (2, .int x2), (3, .int x3), (6, .int x6)]) C dX6_deepAlone_114 (by decide) rfl ?_
            obtain ⟨x6_103, e_104, hM⟩ := bd hM
            refine x_iinc (L' := [(6, .int x6_103), (5, .int x5_101), (7, .int x7_61), (4, .int x4_59), (0, .ref (ad g 92)), (1, .int x1), (2, .int x2), (3, .int x3)]) C dX6_deepAlone_116 7 rfl (v := x6_103) (by rw [e_104]; first | rfl | decide) (by decide) rfl ?_
            refine x_goto (tgt := 18) C dX6_deepAlone_119 (by decide) ?_
            refine x_sub (L' := [(0, .ref (ad g 92)), (1, .int x1), (2, .int x2), (3, .int x3), (4, .int x4_59), (5, .int x5_101), (6, .int x6_103)]) [4, 5, 6, 7, 3, 1, 0] rfl ?_
            exact Hh18 x1 x2 x3 x4_59 x5_101 x6_103 w hM
          · have hM := iq c_100 hM
            refine x_bipush (v := 10) C dX6_deepAlone_107 (by decide) ?_
            refine x_goto (tgt := 114) C dX6_deepAlone_109 (by decide) ?_
            obtain ⟨x5_105, e_106, hM⟩ := bd hM
            refine x_top e_106 ?_
            refine x_istore (L' := [(5, .int x5_105), (7, .int x7_61), (4, .int x4_59), (0, .ref (ad g 92)), (1, .int x1), (2, .int x2), (3, .int x3), (6, .int x6)]) C dX6_deepAlone_114 (by decide) rfl ?_
            obtain ⟨x6_107, e_108, hM⟩ := bd hM
            refine x_iinc (L' := [(6, .int x6_107), (5, .int x5_105), (7, .int x7_61), (4, .int x4_59), (0, .ref (ad g 92)), (1, .int x1), (2, .int x2), (3, .int x3)]) C dX6_deepAlone_116 7 rfl (v := x6_107) (by rw [e_108]; first | rfl | decide) (by decide) rfl ?_
            refine x_goto (tgt := 18) C dX6_deepAlone_119 (by decide) ?_
            refine x_sub (L' := [(0, .ref (ad g 92)), (1, .int x1), (2, .int x2), (3, .int x3), (4, .int x4_59), (5, .int x5_105), (6, .int x6_107)]) [4, 5, 6, 7, 3, 1, 0] rfl ?_
            exact Hh18 x1 x2 x3 x4_59 x5_105 x6_107 w hM
        · have hM := iq c_99 hM
          refine x_iconst (v := 0) C dX6_deepAlone_96 (by decide) ?_
          refine x_goto (tgt := 114) C dX6_deepAlone_97 (by decide) ?_
          obtain ⟨x5_109, e_110, hM⟩ := bd hM
          refine x_top e_110 ?_
          refine x_istore (L' := [(5, .int x5_109), (7, .int x7_61), (4, .int x4_59), (0, .ref (ad g 92)), (1, .int x1), (2, .int x2), (3, .int x3), (6, .int x6)]) C dX6_deepAlone_114 (by decide) rfl ?_
          obtain ⟨x6_111, e_112, hM⟩ := bd hM
          refine x_iinc (L' := [(6, .int x6_111), (5, .int x5_109), (7, .int x7_61), (4, .int x4_59), (0, .ref (ad g 92)), (1, .int x1), (2, .int x2), (3, .int x3)]) C dX6_deepAlone_116 7 rfl (v := x6_111) (by rw [e_112]; first | rfl | decide) (by decide) rfl ?_
          refine x_goto (tgt := 18) C dX6_deepAlone_119 (by decide) ?_
          refine x_sub (L' := [(0, .ref (ad g 92)), (1, .int x1), (2, .int x2), (3, .int x3), (4, .int x4_59), (5, .int x5_109), (6, .int x6_111)]) [4, 5, 6, 7, 3, 1, 0] rfl ?_
          exact Hh18 x1 x2 x3 x4_59 x5_109 x6_111 w hM
theorem o_X6_deepAlone_l18 {E : Ex} {g : Gx} (C : Ctx E RX6 cX6_deepAlone rm_X6_deepAlone 8 g) {rr : Int32} {wr : Wd} (hR : Rets E g (some .int) (some (.int rr)) wr) : ∀ (n : Nat) (x1 : Int32) (x2 : Int32) (x3 : Int32) (x4 : Int32) (x5 : Int32) (x6 : Int32) (w : Wd), f_X6_deepAlone_l18 n x1 x2 x3 x4 x5 x6 w = some (rr, wr) → Xx E 8 g 18 [(0, .ref (ad g 92)), (1, .int x1), (2, .int x2), (3, .int x3), (4, .int x4), (5, .int x5), (6, .int x6)] [] w := by
  intro n
  induction n with
  | zero =>
    intro x1 x2 x3 x4 x5 x6 w hM
    rw [f_X6_deepAlone_l18] at hM
    cases hM
  | succ n ih =>
    intro x1 x2 x3 x4 x5 x6 w hM
    rw [f_X6_deepAlone_l18] at hM
    exact o_X6_deepAlone_h18 C hR ih x1 x2 x3 x4 x5 x6 w hM
set_option maxHeartbeats 1000000 in
set_option maxRecDepth 20000 in
theorem o_X6_deepAlone_b0 {E : Ex} {g : Gx} (C : Ctx E RX6 cX6_deepAlone rm_X6_deepAlone 8 g) {rr : Int32} {wr : Wd} (hR : Rets E g (some .int) (some (.int rr)) wr) (x1 : Int32) (x2 : Int32) (x3 : Int32) (w : Wd) (hM : f_X6_deepAlone_b0 x1 x2 x3 w = some (rr, wr)) : Xx E 8 g 0 [(0, .ref (ad g 92)), (1, .int x1), (2, .int x2), (3, .int x3)] [] w := by
  unfold f_X6_deepAlone_b0 at hM
  refine x_aload_n C dX6_deepAlone_0 0 rfl rfl ?_
  refine xg_6_7 C kd_92 gw_721 dX6_deepAlone_1 ?_
  refine x_bipush (v := 8) C dX6_deepAlone_4 (by decide) ?_
  refine x_iload_n C dX6_deepAlone_6 1 rfl rfl ?_
  refine x_iadd C dX6_deepAlone_7 ?_
  obtain ⟨q_1, hM⟩ := gd hM
  refine x_iald C kd_96 ln_96 q_1 rfl dX6_deepAlone_8 ?_
  obtain ⟨x4_2, e_3, hM⟩ := bd hM
  refine x_top e_3 ?_
  refine x_istore (L' := [(4, .int x4_2), (0, .ref (ad g 92)), (1, .int x1), (2, .int x2), (3, .int x3)]) C dX6_deepAlone_9 (by decide) rfl ?_
  refine x_bipush (v := 10) C dX6_deepAlone_11 (by decide) ?_
  obtain ⟨x5_4, e_5, hM⟩ := bd hM
  refine x_top e_5 ?_
  refine x_istore (L' := [(5, .int x5_4), (4, .int x4_2), (0, .ref (ad g 92)), (1, .int x1), (2, .int x2), (3, .int x3)]) C dX6_deepAlone_13 (by decide) rfl ?_
  refine x_iconst (v := 0) C dX6_deepAlone_15 (by decide) ?_
  obtain ⟨x6_6, e_7, hM⟩ := bd hM
  refine x_top e_7 ?_
  refine x_istore (L' := [(6, .int x6_6), (5, .int x5_4), (4, .int x4_2), (0, .ref (ad g 92)), (1, .int x1), (2, .int x2), (3, .int x3)]) C dX6_deepAlone_16 (by decide) rfl ?_
  refine x_sub (L' := [(0, .ref (ad g 92)), (1, .int x1), (2, .int x2), (3, .int x3), (4, .int x4_2), (5, .int x5_4), (6, .int x6_6)]) [3, 4, 5, 6, 2, 1, 0] rfl ?_
  exact o_X6_deepAlone_l18 C hR 300 x1 x2 x3 x4_2 x5_4 x6_6 w hM
theorem c_X6_deepAlone (l : Launch) (g : Gx) (x1 : Int32) (x2 : Int32) (x3 : Int32) (w : Wd) {rr : Int32} {wr : Wd} (hM : f_X6_deepAlone x1 x2 x3 w = some (rr, wr)) : MetM l yX6_deepAlone cX6_deepAlone 8 (some .int) rm_X6_deepAlone g [.ref (ad g 92), .int x1, .int x2, .int x3] w (some (.int rr)) wr := by
  refine met_of (by decide) (Nat.le_of_ble_eq_true rfl) (fun E hl C hR => ?_)
  refine x_sub (L' := [(0, .ref (ad g 92)), (1, .int x1), (2, .int x2), (3, .int x3)]) [0, 1, 2, 3] rfl ?_
  exact o_X6_deepAlone_b0 C hR x1 x2 x3 w hM
abbrev rm_X6_isSo : Room := { frames := 1, cells := 0, slots := 0, locals := 27 }
set_option maxHeartbeats 1000000 in
set_option maxRecDepth 20000 in
theorem o_X6_isSo_b62 {E : Ex} {g : Gx} (C : Ctx E RX6 cX6_isSo rm_X6_isSo 5 g) {rr : Int32} {wr : Wd} (hR : Rets E g (some .boolean) (some (.int rr)) wr) {kh5 : (Int32 → Int32 → Int32 → Int32 → Wd → Option (Int32 × Wd))} (Hh5 : ∀ (x1 : Int32) (x2 : Int32) (x3 : Int32) (x4 : Int32) (w : Wd), kh5 x1 x2 x3 x4 w = some (rr, wr) → Xx E 5 g 5 [(0, .ref (ad g 92)), (1, .int x1), (2, .int x2), (3, .int x3), (4, .int x4)] [] w) (x1 : Int32) (x2 : Int32) (x4 : Int32) (w : Wd) (hM : f_X6_isSo_b62 kh5 x1 x2 x4 w = some (rr, wr)) : Xx E 5 g 62 [(0, .ref (ad g 92)), (1, .int x1), (2, .int x2), (4, .int x4)] [] w := by
  unfold f_X6_isSo_b62 at hM
  refine x_iconst (v := 1) C dX6_isSo_62 (by decide) ?_
  refine x_goto (tgt := 67) C dX6_isSo_63 (by decide) ?_
  obtain ⟨x3_1, e_2, hM⟩ := bd hM
  refine x_top e_2 ?_
  refine x_istore_n (L' := [(3, .int x3_1), (0, .ref (ad g 92)), (1, .int x1), (2, .int x2), (4, .int x4)]) C dX6_isSo_67 rfl (by decide) rfl ?_
  obtain ⟨x4_3, e_4, hM⟩ := bd hM
  refine x_iinc (L' := [(4, .int x4_3), (3, .int x3_1), (0, .ref (ad g 92)), (1, .int x1), (2, .int x2)]) C dX6_isSo_68 4 rfl (v := x4_3) (by rw [e_4]; first | rfl | decide) (by decide) rfl ?_
  refine x_goto (tgt := 5) C dX6_isSo_71 (by decide) ?_
  refine x_sub (L' := [(0, .ref (ad g 92)), (1, .int x1), (2, .int x2), (3, .int x3_1), (4, .int x4_3)]) [2, 3, 4, 1, 0] rfl ?_
  exact Hh5 x1 x2 x3_1 x4_3 w hM
set_option maxHeartbeats 1000000 in
set_option maxRecDepth 20000 in
theorem o_X6_isSo_b66 {E : Ex} {g : Gx} (C : Ctx E RX6 cX6_isSo rm_X6_isSo 5 g) {rr : Int32} {wr : Wd} (hR : Rets E g (some .boolean) (some (.int rr)) wr) {kh5 : (Int32 → Int32 → Int32 → Int32 → Wd → Option (Int32 × Wd))} (Hh5 : ∀ (x1 : Int32) (x2 : Int32) (x3 : Int32) (x4 : Int32) (w : Wd), kh5 x1 x2 x3 x4 w = some (rr, wr) → Xx E 5 g 5 [(0, .ref (ad g 92)), (1, .int x1), (2, .int x2), (3, .int x3), (4, .int x4)] [] w) (x1 : Int32) (x2 : Int32) (x4 : Int32) (w : Wd) (hM : f_X6_isSo_b66 kh5 x1 x2 x4 w = some (rr, wr)) : Xx E 5 g 66 [(0, .ref (ad g 92)), (1, .int x1), (2, .int x2), (4, .int x4)] [] w := by
  unfold f_X6_isSo_b66 at hM
  refine x_iconst (v := 0) C dX6_isSo_66 (by decide) ?_
  obtain ⟨x3_1, e_2, hM⟩ := bd hM
  refine x_top e_2 ?_
  refine x_istore_n (L' := [(3, .int x3_1), (0, .ref (ad g 92)), (1, .int x1), (2, .int x2), (4, .int x4)]) C dX6_isSo_67 rfl (by decide) rfl ?_
  obtain ⟨x4_3, e_4, hM⟩ := bd hM
  refine x_iinc (L' := [(4, .int x4_3), (3, .int x3_1), (0, .ref (ad g 92)), (1, .int x1), (2, .int x2)]) C dX6_isSo_68 4 rfl (v := x4_3) (by rw [e_4]; first | rfl | decide) (by decide) rfl ?_
  refine x_goto (tgt := 5) C dX6_isSo_71 (by decide) ?_
  refine x_sub (L' := [(0, .ref (ad g 92)), (1, .int x1), (2, .int x2), (3, .int x3_1), (4, .int x4_3)]) [2, 3, 4, 1, 0] rfl ?_
  exact Hh5 x1 x2 x3_1 x4_3 w hM
set_option maxHeartbeats 1000000 in
set_option maxRecDepth 20000 in
theorem o_X6_isSo_h5 {E : Ex} {g : Gx} (C : Ctx E RX6 cX6_isSo rm_X6_isSo 5 g) {rr : Int32} {wr : Wd} (hR : Rets E g (some .boolean) (some (.int rr)) wr) {kh5 : (Int32 → Int32 → Int32 → Int32 → Wd → Option (Int32 × Wd))} (Hh5 : ∀ (x1 : Int32) (x2 : Int32) (x3 : Int32) (x4 : Int32) (w : Wd), kh5 x1 x2 x3 x4 w = some (rr, wr) → Xx E 5 g 5 [(0, .ref (ad g 92)), (1, .int x1), (2, .int x2), (3, .int x3), (4, .int x4)] [] w) (x1 : Int32) (x2 : Int32) (x3 : Int32) (x4 : Int32) (w : Wd) (hM : f_X6_isSo_h5 kh5 x1 x2 x3 x4 w = some (rr, wr)) : Xx E 5 g 5 [(0, .ref (ad g 92)), (1, .int x1), (2, .int x2), (3, .int x3), (4, .int x4)] [] w := by
  unfold f_X6_isSo_h5 at hM
  refine x_iload C dX6_isSo_5 4 rfl ?_
  refine x_aload_n C dX6_isSo_7 0 rfl rfl ?_
  refine xg_6_12 C kd_92 gw_726 dX6_isSo_8 ?_
  refine x_icmp_ge (tgt := 74) C dX6_isSo_11 (by decide) (fun c_1 => ?_) (fun c_1 => ?_)
  · have hM := ip c_1 hM
    refine x_iload_n C dX6_isSo_74 3 rfl rfl ?_
    obtain ⟨q_2, hM⟩ := gd hM
    obtain ⟨rfl, rfl⟩ := rt hM
    exact x_zret C hR (nb_n q_2) rfl dX6_isSo_75
  · have hM := iq c_1 hM
    refine x_iload_n C dX6_isSo_14 3 rfl rfl ?_
    refine x_if_eq (tgt := 66) C dX6_isSo_15 (by decide) (fun c_3 => ?_) (fun c_3 => ?_)
    · have hM := ip c_3 hM
      refine x_sub (L' := [(0, .ref (ad g 92)), (1, .int x1), (2, .int x2), (4, .int x4)]) [0, 1, 2, 4] rfl ?_
      exact o_X6_isSo_b66 C hR Hh5 x1 x2 x4 w hM
    · have hM := iq c_3 hM
      refine x_aload_n C dX6_isSo_18 0 rfl rfl ?_
      refine xg_6_13 C kd_92 gw_727 dX6_isSo_19 ?_
      refine x_iconst (v := 3) C dX6_isSo_22 (by decide) ?_
      refine x_iload C dX6_isSo_23 4 rfl ?_
      refine x_imul C dX6_isSo_25 ?_
      obtain ⟨q_4, hM⟩ := gd hM
      refine x_iald C kd_100 ln_100 q_4 rfl dX6_isSo_26 ?_
      refine x_iload_n C dX6_isSo_27 1 rfl rfl ?_
      refine x_icmp_ne (tgt := 62) C dX6_isSo_28 (by decide) (fun c_5 => ?_) (fun c_5 => ?_)
      · have hM := iq c_5 hM
        refine x_sub (L' := [(0, .ref (ad g 92)), (1, .int x1), (2, .int x2), (4, .int x4)]) [0, 1, 2, 4] rfl ?_
        exact o_X6_isSo_b62 C hR Hh5 x1 x2 x4 w hM
      · have hM := ip c_5 hM
        refine x_aload_n C dX6_isSo_31 0 rfl rfl ?_
        refine x_iload_n C dX6_isSo_32 1 rfl rfl ?_
        refine x_iload_n C dX6_isSo_33 2 rfl rfl ?_
        refine x_aload_n C dX6_isSo_34 0 rfl rfl ?_
        refine xg_6_13 C kd_92 gw_727 dX6_isSo_35 ?_
        refine x_iconst (v := 3) C dX6_isSo_38 (by decide) ?_
        refine x_iload C dX6_isSo_39 4 rfl ?_
        refine x_imul C dX6_isSo_41 ?_
        refine x_iconst (v := 1) C dX6_isSo_42 (by decide) ?_
        refine x_iadd C dX6_isSo_43 ?_
        obtain ⟨q_6, hM⟩ := gd hM
        refine x_iald C kd_100 ln_100 q_6 rfl dX6_isSo_44 ?_
        obtain ⟨r_8, w_7, h_9, hM⟩ := cl hM
        refine x_callV (As := [.int x1, .int x2, .int (wget w 100 ((((3 : Int32) * x4) + (1 : Int32)).toNatClampNeg))]) C (c_X6_deepAlone E.l g x1 x2 (wget w 100 ((((3 : Int32) * x4) + (1 : Int32)).toNatClampNeg)) w h_9) k_X6_deepAlone kd_92 (by decide) rfl rfl gw_1015 rfl rfl ⟨Nat.le_of_ble_eq_true rfl, Nat.le_of_ble_eq_true rfl⟩ rfl rfl (Nat.le_of_ble_eq_true rfl) dX6_isSo_45 ?_
        refine x_aload_n C dX6_isSo_48 0 rfl rfl ?_
        refine xg_6_13 C kd_92 gw_727 dX6_isSo_49 ?_
        refine x_iconst (v := 3) C dX6_isSo_52 (by decide) ?_
        refine x_iload C dX6_isSo_53 4 rfl ?_
        refine x_imul C dX6_isSo_55 ?_
        refine x_iconst (v := 2) C dX6_isSo_56 (by decide) ?_
        refine x_iadd C dX6_isSo_57 ?_
        obtain ⟨q_10, hM⟩ := gd hM
        refine x_iald C kd_100 ln_100 q_10 rfl dX6_isSo_58 ?_
        refine x_icmp_ne (tgt := 66) C dX6_isSo_59 (by decide) (fun c_11 => ?_) (fun c_11 => ?_)
        · have hM := iq c_11 hM
          refine x_sub (L' := [(0, .ref (ad g 92)), (1, .int x1), (2, .int x2), (4, .int x4)]) [0, 1, 2, 4] rfl ?_
          exact o_X6_isSo_b66 C hR Hh5 x1 x2 x4 w_7 hM
        · have hM := ip c_11 hM
          refine x_sub (L' := [(0, .ref (ad g 92)), (1, .int x1), (2, .int x2), (4, .int x4)]) [0, 1, 2, 4] rfl ?_
          exact o_X6_isSo_b62 C hR Hh5 x1 x2 x4 w_7 hM
theorem o_X6_isSo_l5 {E : Ex} {g : Gx} (C : Ctx E RX6 cX6_isSo rm_X6_isSo 5 g) {rr : Int32} {wr : Wd} (hR : Rets E g (some .boolean) (some (.int rr)) wr) : ∀ (n : Nat) (x1 : Int32) (x2 : Int32) (x3 : Int32) (x4 : Int32) (w : Wd), f_X6_isSo_l5 n x1 x2 x3 x4 w = some (rr, wr) → Xx E 5 g 5 [(0, .ref (ad g 92)), (1, .int x1), (2, .int x2), (3, .int x3), (4, .int x4)] [] w := by
  intro n
  induction n with
  | zero =>
    intro x1 x2 x3 x4 w hM
    rw [f_X6_isSo_l5] at hM
    cases hM
  | succ n ih =>
    intro x1 x2 x3 x4 w hM
    rw [f_X6_isSo_l5] at hM
    exact o_X6_isSo_h5 C hR ih x1 x2 x3 x4 w hM
set_option maxHeartbeats 1000000 in
set_option maxRecDepth 20000 in
theorem o_X6_isSo_b0 {E : Ex} {g : Gx} (C : Ctx E RX6 cX6_isSo rm_X6_isSo 5 g) {rr : Int32} {wr : Wd} (hR : Rets E g (some .boolean) (some (.int rr)) wr) (x1 : Int32) (x2 : Int32) (w : Wd) (hM : f_X6_isSo_b0 x1 x2 w = some (rr, wr)) : Xx E 5 g 0 [(0, .ref (ad g 92)), (1, .int x1), (2, .int x2)] [] w := by
  unfold f_X6_isSo_b0 at hM
  refine x_iconst (v := 1) C dX6_isSo_0 (by decide) ?_
  obtain ⟨x3_1, e_2, hM⟩ := bd hM
  refine x_top e_2 ?_
  refine x_istore_n (L' := [(3, .int x3_1), (0, .ref (ad g 92)), (1, .int x1), (2, .int x2)]) C dX6_isSo_1 rfl (by decide) rfl ?_
  refine x_iconst (v := 0) C dX6_isSo_2 (by decide) ?_
  obtain ⟨x4_3, e_4, hM⟩ := bd hM
  refine x_top e_4 ?_
  refine x_istore (L' := [(4, .int x4_3), (3, .int x3_1), (0, .ref (ad g 92)), (1, .int x1), (2, .int x2)]) C dX6_isSo_3 (by decide) rfl ?_
  refine x_sub (L' := [(0, .ref (ad g 92)), (1, .int x1), (2, .int x2), (3, .int x3_1), (4, .int x4_3)]) [2, 3, 4, 1, 0] rfl ?_
  exact o_X6_isSo_l5 C hR 300 x1 x2 x3_1 x4_3 w hM
theorem c_X6_isSo (l : Launch) (g : Gx) (x1 : Int32) (x2 : Int32) (w : Wd) {rr : Int32} {wr : Wd} (hM : f_X6_isSo x1 x2 w = some (rr, wr)) : MetM l yX6_isSo cX6_isSo 5 (some .boolean) rm_X6_isSo g [.ref (ad g 92), .int x1, .int x2] w (some (.int rr)) wr := by
  refine met_of (by decide) (Nat.le_of_ble_eq_true rfl) (fun E hl C hR => ?_)
  refine x_sub (L' := [(0, .ref (ad g 92)), (1, .int x1), (2, .int x2)]) [0, 1, 2] rfl ?_
  exact o_X6_isSo_b0 C hR x1 x2 w hM
abbrev rm_X6_weights : Room := { frames := 2, cells := 0, slots := 0, locals := 51 }
set_option maxHeartbeats 1000000 in
set_option maxRecDepth 20000 in
theorem o_X6_weights_b69 {E : Ex} {g : Gx} (C : Ctx E RX6 cX6_weights rm_X6_weights 7 g) {rr : Int32} {wr : Wd} (hR : Rets E g (some .int) (some (.int rr)) wr) {kh32 : (Int32 → Int32 → Int32 → Int32 → Int32 → Int32 → Wd → Option (Int32 × Wd))} (Hh32 : ∀ (x1 : Int32) (x2 : Int32) (x3 : Int32) (x4 : Int32) (x5 : Int32) (x6 : Int32) (w : Wd), kh32 x1 x2 x3 x4 x5 x6 w = some (rr, wr) → Xx E 7 g 32 [(0, .ref (ad g 92)), (1, .int x1), (2, .int x2), (3, .int x3), (4, .int x4), (5, .int x5), (6, .int x6)] [] w) (x1 : Int32) (x2 : Int32) (x3 : Int32) (x4 : Int32) (x5 : Int32) (x6 : Int32) (w : Wd) (hM : f_X6_weights_b69 kh32 x1 x2 x3 x4 x5 x6 w = some (rr, wr)) : Xx E 7 g 69 [(0, .ref (ad g 92)), (1, .int x1), (2, .int x2), (3, .int x3), (4, .int x4), (5, .int x5), (6, .int x6)] [] w := by
  unfold f_X6_weights_b69 at hM
  obtain ⟨x6_1, e_2, hM⟩ := bd hM
  refine x_iinc (L' := [(6, .int x6_1), (0, .ref (ad g 92)), (1, .int x1), (2, .int x2), (3, .int x3), (4, .int x4), (5, .int x5)]) C dX6_weights_69 6 rfl (v := x6_1) (by rw [e_2]; first | rfl | decide) (by decide) rfl ?_
  refine x_goto (tgt := 32) C dX6_weights_72 (by decide) ?_
  refine x_sub (L' := [(0, .ref (ad g 92)), (1, .int x1), (2, .int x2), (3, .int x3), (4, .int x4), (5, .int x5), (6, .int x6_1)]) [1, 2, 3, 4, 5, 6, 0] rfl ?_
  exact Hh32 x1 x2 x3 x4 x5 x6_1 w hM
set_option maxHeartbeats 1000000 in
set_option maxRecDepth 20000 in
theorem o_X6_weights_h32 {E : Ex} {g : Gx} (C : Ctx E RX6 cX6_weights rm_X6_weights 7 g) {rr : Int32} {wr : Wd} (hR : Rets E g (some .int) (some (.int rr)) wr) {kh32 : (Int32 → Int32 → Int32 → Int32 → Int32 → Int32 → Wd → Option (Int32 × Wd))} (Hh32 : ∀ (x1 : Int32) (x2 : Int32) (x3 : Int32) (x4 : Int32) (x5 : Int32) (x6 : Int32) (w : Wd), kh32 x1 x2 x3 x4 x5 x6 w = some (rr, wr) → Xx E 7 g 32 [(0, .ref (ad g 92)), (1, .int x1), (2, .int x2), (3, .int x3), (4, .int x4), (5, .int x5), (6, .int x6)] [] w) (x1 : Int32) (x2 : Int32) (x3 : Int32) (x4 : Int32) (x5 : Int32) (x6 : Int32) (w : Wd) (hM : f_X6_weights_h32 kh32 x1 x2 x3 x4 x5 x6 w = some (rr, wr)) : Xx E 7 g 32 [(0, .ref (ad g 92)), (1, .int x1), (2, .int x2), (3, .int x3), (4, .int x4), (5, .int x5), (6, .int x6)] [] w := by
  unfold f_X6_weights_h32 at hM
  refine x_iload C dX6_weights_32 6 rfl ?_
  refine x_bipush (v := 40) C dX6_weights_34 (by decide) ?_
  refine x_icmp_gt (tgt := 75) C dX6_weights_36 (by decide) (fun c_1 => ?_) (fun c_1 => ?_)
  · have hM := ip c_1 hM
    refine x_iload_n C dX6_weights_75 2 rfl rfl ?_
    refine x_if_ne (tgt := 83) C dX6_weights_76 (by decide) (fun c_2 => ?_) (fun c_2 => ?_)
    · have hM := iq c_2 hM
      refine x_iload_n C dX6_weights_83 2 rfl rfl ?_
      refine x_iconst (v := 1) C dX6_weights_84 (by decide) ?_
      refine x_icmp_ne (tgt := 93) C dX6_weights_85 (by decide) (fun c_3 => ?_) (fun c_3 => ?_)
      · have hM := iq c_3 hM
        refine x_iload C dX6_weights_93 5 rfl ?_
        obtain ⟨rfl, rfl⟩ := rt hM
        exact x_iret C hR rfl dX6_weights_95
      · have hM := ip c_3 hM
        refine x_iload C dX6_weights_88 4 rfl ?_
        refine x_goto (tgt := 95) C dX6_weights_90 (by decide) ?_
        obtain ⟨rfl, rfl⟩ := rt hM
        exact x_iret C hR rfl dX6_weights_95
    · have hM := ip c_2 hM
      refine x_iload_n C dX6_weights_79 3 rfl rfl ?_
      refine x_goto (tgt := 95) C dX6_weights_80 (by decide) ?_
      obtain ⟨rfl, rfl⟩ := rt hM
      exact x_iret C hR rfl dX6_weights_95
  · have hM := iq c_1 hM
    refine x_aload_n C dX6_weights_39 0 rfl rfl ?_
    refine x_iload_n C dX6_weights_40 1 rfl rfl ?_
    refine x_iload C dX6_weights_41 6 rfl ?_
    obtain ⟨r_5, w_4, h_6, hM⟩ := cl hM
    refine x_callV (As := [.int x1, .int x6]) C (c_X6_isSo E.l g x1 x6 w h_6) k_X6_isSo kd_92 (by decide) rfl rfl gw_1011 rfl rfl ⟨Nat.le_of_ble_eq_true rfl, Nat.le_of_ble_eq_true rfl⟩ rfl rfl (Nat.le_of_ble_eq_true rfl) dX6_weights_43 ?_
    refine x_if_eq (tgt := 69) C dX6_weights_46 (by decide) (fun c_7 => ?_) (fun c_7 => ?_)
    · have hM := ip c_7 hM
      refine x_sub (L' := [(0, .ref (ad g 92)), (1, .int x1), (2, .int x2), (3, .int x3), (4, .int x4), (5, .int x5), (6, .int x6)]) [0, 1, 2, 3, 4, 5, 6] rfl ?_
      exact o_X6_weights_b69 C hR Hh32 x1 x2 x3 x4 x5 x6 w_4 hM
    · have hM := iq c_7 hM
      refine x_iload_n C dX6_weights_49 3 rfl rfl ?_
      refine x_if_ne (tgt := 58) C dX6_weights_50 (by decide) (fun c_8 => ?_) (fun c_8 => ?_)
      · have hM := iq c_8 hM
        refine x_iload C dX6_weights_58 4 rfl ?_
        obtain ⟨x4_9, e_10, hM⟩ := bd hM
        refine x_top e_10 ?_
        refine x_istore (L' := [(4, .int x4_9), (0, .ref (ad g 92)), (1, .int x1), (2, .int x2), (3, .int x3), (5, .int x5), (6, .int x6)]) C dX6_weights_60 (by decide) rfl ?_
        refine x_iload C dX6_weights_62 6 rfl ?_
        obtain ⟨x5_11, e_12, hM⟩ := bd hM
        refine x_top e_12 ?_
        refine x_istore (L' := [(5, .int x5_11), (4, .int x4_9), (0, .ref (ad g 92)), (1, .int x1), (2, .int x2), (3, .int x3), (6, .int x6)]) C dX6_weights_64 (by decide) rfl ?_
        obtain ⟨x3_13, e_14, hM⟩ := bd hM
        refine x_iinc (L' := [(3, .int x3_13), (5, .int x5_11), (4, .int x4_9), (0, .ref (ad g 92)), (1, .int x1), (2, .int x2), (6, .int x6)]) C dX6_weights_66 5 rfl (v := x3_13) (by rw [e_14]; first | rfl | decide) (by decide) rfl ?_
        refine x_sub (L' := [(0, .ref (ad g 92)), (1, .int x1), (2, .int x2), (3, .int x3_13), (4, .int x4_9), (5, .int x5_11), (6, .int x6)]) [3, 4, 5, 0, 2, 1, 6] rfl ?_
        exact o_X6_weights_b69 C hR Hh32 x1 x2 x3_13 x4_9 x5_11 x6 w_4 hM
      · have hM := ip c_8 hM
        refine x_iload C dX6_weights_53 6 rfl ?_
        refine x_goto (tgt := 60) C dX6_weights_55 (by decide) ?_
        obtain ⟨x4_15, e_16, hM⟩ := bd hM
        refine x_top e_16 ?_
        refine x_istore (L' := [(4, .int x4_15), (0, .ref (ad g 92)), (1, .int x1), (2, .int x2), (3, .int x3), (5, .int x5), (6, .int x6)]) C dX6_weights_60 (by decide) rfl ?_
        refine x_iload C dX6_weights_62 6 rfl ?_
        obtain ⟨x5_17, e_18, hM⟩ := bd hM
        refine x_top e_18 ?_
        refine x_istore (L' := [(5, .int x5_17), (4, .int x4_15), (0, .ref (ad g 92)), (1, .int x1), (2, .int x2), (3, .int x3), (6, .int x6)]) C dX6_weights_64 (by decide) rfl ?_
        obtain ⟨x3_19, e_20, hM⟩ := bd hM
        refine x_iinc (L' := [(3, .int x3_19), (5, .int x5_17), (4, .int x4_15), (0, .ref (ad g 92)), (1, .int x1), (2, .int x2), (6, .int x6)]) C dX6_weights_66 5 rfl (v := x3_19) (by rw [e_20]; first | rfl | decide) (by decide) rfl ?_
        refine x_sub (L' := [(0, .ref (ad g 92)), (1, .int x1), (2, .int x2), (3, .int x3_19), (4, .int x4_15), (5, .int x5_17), (6, .int x6)]) [3, 4, 5, 0, 2, 1, 6] rfl ?_
        exact o_X6_weights_b69 C hR Hh32 x1 x2 x3_19 x4_15 x5_17 x6 w_4 hM
theorem o_X6_weights_l32 {E : Ex} {g : Gx} (C : Ctx E RX6 cX6_weights rm_X6_weights 7 g) {rr : Int32} {wr : Wd} (hR : Rets E g (some .int) (some (.int rr)) wr) : ∀ (n : Nat) (x1 : Int32) (x2 : Int32) (x3 : Int32) (x4 : Int32) (x5 : Int32) (x6 : Int32) (w : Wd), f_X6_weights_l32 n x1 x2 x3 x4 x5 x6 w = some (rr, wr) → Xx E 7 g 32 [(0, .ref (ad g 92)), (1, .int x1), (2, .int x2), (3, .int x3), (4, .int x4), (5, .int x5), (6, .int x6)] [] w := by
  intro n
  induction n with
  | zero =>
    intro x1 x2 x3 x4 x5 x6 w hM
    rw [f_X6_weights_l32] at hM
    cases hM
  | succ n ih =>
    intro x1 x2 x3 x4 x5 x6 w hM
    rw [f_X6_weights_l32] at hM
    exact o_X6_weights_h32 C hR ih x1 x2 x3 x4 x5 x6 w hM
set_option maxHeartbeats 1000000 in
set_option maxRecDepth 20000 in
theorem o_X6_weights_b0 {E : Ex} {g : Gx} (C : Ctx E RX6 cX6_weights rm_X6_weights 7 g) {rr : Int32} {wr : Wd} (hR : Rets E g (some .int) (some (.int rr)) wr) (x1 : Int32) (x2 : Int32) (w : Wd) (hM : f_X6_weights_b0 x1 x2 w = some (rr, wr)) : Xx E 7 g 0 [(0, .ref (ad g 92)), (1, .int x1), (2, .int x2)] [] w := by
  unfold f_X6_weights_b0 at hM
  refine x_aload_n C dX6_weights_0 0 rfl rfl ?_
  refine x_iload_n C dX6_weights_1 1 rfl rfl ?_
  obtain ⟨r_2, w_1, h_3, hM⟩ := cl hM
  refine x_callV (As := [.int x1]) C (c_X6_isOne E.l g x1 w h_3) k_X6_isOne kd_92 (by decide) rfl rfl gw_859 rfl rfl ⟨Nat.le_of_ble_eq_true rfl, Nat.le_of_ble_eq_true rfl⟩ rfl rfl (Nat.le_of_ble_eq_true rfl) dX6_weights_2 ?_
  refine x_if_eq (tgt := 17) C dX6_weights_5 (by decide) (fun c_4 => ?_) (fun c_4 => ?_)
  · have hM := ip c_4 hM
    refine x_iconst (v := -1) C dX6_weights_17 (by decide) ?_
    obtain ⟨rfl, rfl⟩ := rt hM
    exact x_iret C hR rfl dX6_weights_18
  · have hM := iq c_4 hM
    refine x_iload_n C dX6_weights_8 2 rfl rfl ?_
    refine x_iconst (v := 0) C dX6_weights_9 (by decide) ?_
    refine x_iconst (v := 2) C dX6_weights_10 (by decide) ?_
    obtain ⟨r_6, w_5, h_7, hM⟩ := cl hM
    refine x_callS (As := [.int x2, .int (0 : Int32), .int (2 : Int32)]) C (c_X6_in E.l g x2 (0 : Int32) (2 : Int32) w_1 h_7) k_X6_in gw_813 rfl rfl ⟨Nat.le_of_ble_eq_true rfl, Nat.le_of_ble_eq_true rfl⟩ rfl rfl (Nat.le_of_ble_eq_true rfl) dX6_weights_11 ?_
    refine x_if_ne (tgt := 19) C dX6_weights_14 (by decide) (fun c_8 => ?_) (fun c_8 => ?_)
    · have hM := iq c_8 hM
      refine x_iconst (v := 0) C dX6_weights_19 (by decide) ?_
      obtain ⟨x3_9, e_10, hM⟩ := bd hM
      refine x_top e_10 ?_
      refine x_istore_n (L' := [(3, .int x3_9), (0, .ref (ad g 92)), (1, .int x1), (2, .int x2)]) C dX6_weights_20 rfl (by decide) rfl ?_
      refine x_bipush (v := -9) C dX6_weights_21 (by decide) ?_
      obtain ⟨x4_11, e_12, hM⟩ := bd hM
      refine x_top e_12 ?_
      refine x_istore (L' := [(4, .int x4_11), (3, .int x3_9), (0, .ref (ad g 92)), (1, .int x1), (2, .int x2)]) C dX6_weights_23 (by decide) rfl ?_
      refine x_bipush (v := -9) C dX6_weights_25 (by decide) ?_
      obtain ⟨x5_13, e_14, hM⟩ := bd hM
      refine x_top e_14 ?_
      refine x_istore (L' := [(5, .int x5_13), (4, .int x4_11), (3, .int x3_9), (0, .ref (ad g 92)), (1, .int x1), (2, .int x2)]) C dX6_weights_27 (by decide) rfl ?_
      refine x_iconst (v := 0) C dX6_weights_29 (by decide) ?_
      obtain ⟨x6_15, e_16, hM⟩ := bd hM
      refine x_top e_16 ?_
      refine x_istore (L' := [(6, .int x6_15), (5, .int x5_13), (4, .int x4_11), (3, .int x3_9), (0, .ref (ad g 92)), (1, .int x1), (2, .int x2)]) C dX6_weights_30 (by decide) rfl ?_
      refine x_sub (L' := [(0, .ref (ad g 92)), (1, .int x1), (2, .int x2), (3, .int x3_9), (4, .int x4_11), (5, .int x5_13), (6, .int x6_15)]) [4, 5, 6, 3, 2, 1, 0] rfl ?_
      exact o_X6_weights_l32 C hR 300 x1 x2 x3_9 x4_11 x5_13 x6_15 w_5 hM
    · have hM := ip c_8 hM
      refine x_iconst (v := -1) C dX6_weights_17 (by decide) ?_
      obtain ⟨rfl, rfl⟩ := rt hM
      exact x_iret C hR rfl dX6_weights_18
theorem c_X6_weights (l : Launch) (g : Gx) (x1 : Int32) (x2 : Int32) (w : Wd) {rr : Int32} {wr : Wd} (hM : f_X6_weights x1 x2 w = some (rr, wr)) : MetM l yX6_weights cX6_weights 7 (some .int) rm_X6_weights g [.ref (ad g 92), .int x1, .int x2] w (some (.int rr)) wr := by
  refine met_of (by decide) (Nat.le_of_ble_eq_true rfl) (fun E hl C hR => ?_)
  refine x_sub (L' := [(0, .ref (ad g 92)), (1, .int x1), (2, .int x2)]) [0, 1, 2] rfl ?_
  exact o_X6_weights_b0 C hR x1 x2 w hM
