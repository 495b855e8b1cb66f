def Op0 {α : Type} (Iv : Wd → Prop) (f h : Wd → Option (α × Wd)) : Prop := ∀ w, Iv w → ∃ r w1 w2, f w = some (r, w1) ∧ h w1 = some (r, w2) ∧ Iv w2
def Op1 {α : Type} (Iv : Wd → Prop) (f h : Int32 → Wd → Option (α × Wd)) : Prop := ∀ (a1 : Int32) w, Iv w → ∃ r w1 w2, f a1 w = some (r, w1) ∧ h a1 w1 = some (r, w2) ∧ Iv w2
def Op2 {α : Type} (Iv : Wd → Prop) (f h : Int32 → Int32 → Wd → Option (α × Wd)) : Prop := ∀ (a1 : Int32) (a2 : Int32) w, Iv w → ∃ r w1 w2, f a1 a2 w = some (r, w1) ∧ h a1 a2 w1 = some (r, w2) ∧ Iv w2
def Op3 {α : Type} (Iv : Wd → Prop) (f h : Int32 → Int32 → Int32 → Wd → Option (α × Wd)) : Prop := ∀ (a1 : Int32) (a2 : Int32) (a3 : Int32) w, Iv w → ∃ r w1 w2, f a1 a2 a3 w = some (r, w1) ∧ h a1 a2 a3 w1 = some (r, w2) ∧ Iv w2
def wI (w : Wd) : Wd := (fun a j => if a < 92 then w.1 a j else if a = 92 ∧ j = 4 then 3 else if a = 92 ∧ j = 5 then 1 else if a = 92 ∧ j = 6 then 20 else if a = 96 ∧ j = 1 then 3 else 0, fun a => if a < 92 then w.2 a else 0)
/-- what the pure part shows: an invariant that the first world has, and that every call of both keeps, with the same answer -/
def OpsOK (Iv : Wd → Prop) : Prop := (∃ wa w1, f_X2_setAsAtFirst 4 w0 = some ((), wa) ∧ f_X4_begin 14 4 wa = some ((), w1) ∧ Iv (wI w1)) ∧ Op1 Iv f_X5_type f_X6_type ∧ Op0 Iv f_X5_clear f_X6_clear ∧ Op0 Iv f_X5_pot f_X6_pot ∧ Op2 Iv f_X5_dumpling f_X6_dumpling ∧ Op1 Iv f_X5_now f_X6_now ∧ Op1 Iv f_X5_order f_X6_order ∧ Op1 Iv f_X5_drops f_X6_drops ∧ Op0 Iv f_X5_minute f_X6_minute ∧ Op1 Iv f_X5_heats f_X6_heats ∧ Op1 Iv f_X5_skewers f_X6_skewers ∧ Op1 Iv f_X5_dips f_X6_dips ∧ Op0 Iv f_X5_undo f_X6_undo ∧ Op2 Iv f_X5_deep f_X6_deep ∧ Op1 Iv f_X5_when f_X6_when ∧ Op2 Iv f_X5_warm f_X6_warm ∧ Op2 Iv f_X5_kept f_X6_kept ∧ Op1 Iv f_X5_party f_X6_party ∧ Op2 Iv f_X5_power f_X6_power ∧ Op3 Iv f_X5_odds f_X6_odds ∧ Op3 Iv f_X5_sees f_X6_sees ∧ Op0 Iv f_X5_forget f_X6_forget ∧ Op2 Iv f_X5_weights f_X6_weights ∧ Op1 Iv f_X5_look f_X6_look ∧ Op2 Iv f_X5_rate f_X6_rate ∧ Op1 Iv f_X5_keep f_X6_keep ∧ Op1 Iv f_X5_back f_X6_back ∧ Op1 Iv f_X5_count f_X6_count ∧ Op0 Iv f_X5_trace f_X6_trace
theorem lw_m13 : Cond.methodLink RL 13 yX5_type ∈ gd_tbl := gd_in 310 (by decide +kernel) rfl
theorem lw_m17 : Cond.methodLink RL 17 yX6_type ∈ gd_tbl := gd_in 809 (by decide +kernel) rfl
theorem lw_m18 : Cond.methodLink RL 18 yX5_clear ∈ gd_tbl := gd_in 318 (by decide +kernel) rfl
theorem lw_m22 : Cond.methodLink RL 22 yX6_clear ∈ gd_tbl := gd_in 816 (by decide +kernel) rfl
theorem lw_m23 : Cond.methodLink RL 23 yX5_pot ∈ gd_tbl := gd_in 322 (by decide +kernel) rfl
theorem lw_m26 : Cond.methodLink RL 26 yX6_pot ∈ gd_tbl := gd_in 820 (by decide +kernel) rfl
theorem lw_m27 : Cond.methodLink RL 27 yX5_dumpling ∈ gd_tbl := gd_in 381 (by decide +kernel) rfl
theorem lw_m31 : Cond.methodLink RL 31 yX6_dumpling ∈ gd_tbl := gd_in 855 (by decide +kernel) rfl
theorem lw_m32 : Cond.methodLink RL 32 yX5_now ∈ gd_tbl := gd_in 389 (by decide +kernel) rfl
theorem lw_m35 : Cond.methodLink RL 35 yX6_now ∈ gd_tbl := gd_in 863 (by decide +kernel) rfl
theorem lw_m36 : Cond.methodLink RL 36 yX5_order ∈ gd_tbl := gd_in 440 (by decide +kernel) rfl
theorem lw_m39 : Cond.methodLink RL 39 yX6_order ∈ gd_tbl := gd_in 893 (by decide +kernel) rfl
theorem lw_m40 : Cond.methodLink RL 40 yX5_drops ∈ gd_tbl := gd_in 449 (by decide +kernel) rfl
theorem lw_m43 : Cond.methodLink RL 43 yX6_drops ∈ gd_tbl := gd_in 897 (by decide +kernel) rfl
theorem lw_m44 : Cond.methodLink RL 44 yX5_minute ∈ gd_tbl := gd_in 475 (by decide +kernel) rfl
theorem lw_m47 : Cond.methodLink RL 47 yX6_minute ∈ gd_tbl := gd_in 912 (by decide +kernel) rfl
theorem lw_m48 : Cond.methodLink RL 48 yX5_heats ∈ gd_tbl := gd_in 517 (by decide +kernel) rfl
theorem lw_m51 : Cond.methodLink RL 51 yX6_heats ∈ gd_tbl := gd_in 940 (by decide +kernel) rfl
theorem lw_m52 : Cond.methodLink RL 52 yX5_skewers ∈ gd_tbl := gd_in 521 (by decide +kernel) rfl
theorem lw_m55 : Cond.methodLink RL 55 yX6_skewers ∈ gd_tbl := gd_in 944 (by decide +kernel) rfl
theorem lw_m56 : Cond.methodLink RL 56 yX5_dips ∈ gd_tbl := gd_in 530 (by decide +kernel) rfl
theorem lw_m59 : Cond.methodLink RL 59 yX6_dips ∈ gd_tbl := gd_in 948 (by decide +kernel) rfl
theorem lw_m60 : Cond.methodLink RL 60 yX5_undo ∈ gd_tbl := gd_in 538 (by decide +kernel) rfl
theorem lw_m63 : Cond.methodLink RL 63 yX6_undo ∈ gd_tbl := gd_in 952 (by decide +kernel) rfl
theorem lw_m64 : Cond.methodLink RL 64 yX5_deep ∈ gd_tbl := gd_in 547 (by decide +kernel) rfl
theorem lw_m67 : Cond.methodLink RL 67 yX6_deep ∈ gd_tbl := gd_in 956 (by decide +kernel) rfl
theorem lw_m68 : Cond.methodLink RL 68 yX5_when ∈ gd_tbl := gd_in 552 (by decide +kernel) rfl
theorem lw_m71 : Cond.methodLink RL 71 yX6_when ∈ gd_tbl := gd_in 960 (by decide +kernel) rfl
theorem lw_m72 : Cond.methodLink RL 72 yX5_warm ∈ gd_tbl := gd_in 560 (by decide +kernel) rfl
theorem lw_m75 : Cond.methodLink RL 75 yX6_warm ∈ gd_tbl := gd_in 968 (by decide +kernel) rfl
theorem lw_m76 : Cond.methodLink RL 76 yX5_kept ∈ gd_tbl := gd_in 564 (by decide +kernel) rfl
theorem lw_m79 : Cond.methodLink RL 79 yX6_kept ∈ gd_tbl := gd_in 972 (by decide +kernel) rfl
theorem lw_m80 : Cond.methodLink RL 80 yX5_party ∈ gd_tbl := gd_in 579 (by decide +kernel) rfl
theorem lw_m83 : Cond.methodLink RL 83 yX6_party ∈ gd_tbl := gd_in 980 (by decide +kernel) rfl
theorem lw_m84 : Cond.methodLink RL 84 yX5_power ∈ gd_tbl := gd_in 587 (by decide +kernel) rfl
theorem lw_m87 : Cond.methodLink RL 87 yX6_power ∈ gd_tbl := gd_in 988 (by decide +kernel) rfl
theorem lw_m88 : Cond.methodLink RL 88 yX5_odds ∈ gd_tbl := gd_in 591 (by decide +kernel) rfl
theorem lw_m92 : Cond.methodLink RL 92 yX6_odds ∈ gd_tbl := gd_in 992 (by decide +kernel) rfl
theorem lw_m93 : Cond.methodLink RL 93 yX5_sees ∈ gd_tbl := gd_in 601 (by decide +kernel) rfl
theorem lw_m96 : Cond.methodLink RL 96 yX6_sees ∈ gd_tbl := gd_in 999 (by decide +kernel) rfl
theorem lw_m97 : Cond.methodLink RL 97 yX5_forget ∈ gd_tbl := gd_in 609 (by decide +kernel) rfl
theorem lw_m100 : Cond.methodLink RL 100 yX6_forget ∈ gd_tbl := gd_in 1003 (by decide +kernel) rfl
theorem lw_m101 : Cond.methodLink RL 101 yX5_weights ∈ gd_tbl := gd_in 613 (by decide +kernel) rfl
theorem lw_m104 : Cond.methodLink RL 104 yX6_weights ∈ gd_tbl := gd_in 1007 (by decide +kernel) rfl
theorem lw_m105 : Cond.methodLink RL 105 yX5_look ∈ gd_tbl := gd_in 642 (by decide +kernel) rfl
theorem lw_m108 : Cond.methodLink RL 108 yX6_look ∈ gd_tbl := gd_in 1019 (by decide +kernel) rfl
theorem lw_m109 : Cond.methodLink RL 109 yX5_rate ∈ gd_tbl := gd_in 654 (by decide +kernel) rfl
theorem lw_m112 : Cond.methodLink RL 112 yX6_rate ∈ gd_tbl := gd_in 1028 (by decide +kernel) rfl
theorem lw_m113 : Cond.methodLink RL 113 yX5_keep ∈ gd_tbl := gd_in 688 (by decide +kernel) rfl
theorem lw_m116 : Cond.methodLink RL 116 yX6_keep ∈ gd_tbl := gd_in 1038 (by decide +kernel) rfl
theorem lw_m117 : Cond.methodLink RL 117 yX5_back ∈ gd_tbl := gd_in 696 (by decide +kernel) rfl
theorem lw_m120 : Cond.methodLink RL 120 yX6_back ∈ gd_tbl := gd_in 1042 (by decide +kernel) rfl
theorem lw_m121 : Cond.methodLink RL 121 yX5_count ∈ gd_tbl := gd_in 700 (by decide +kernel) rfl
theorem lw_m124 : Cond.methodLink RL 124 yX6_count ∈ gd_tbl := gd_in 1046 (by decide +kernel) rfl
theorem lw_m125 : Cond.methodLink RL 125 yX5_trace ∈ gd_tbl := gd_in 704 (by decide +kernel) rfl
theorem lw_m129 : Cond.methodLink RL 129 yX6_trace ∈ gd_tbl := gd_in 1050 (by decide +kernel) rfl
theorem lg_cmp_self (r : Int64) : lg_cmp r r = 0 := by simp [lg_cmp]
section XLw
variable {E : Ex} {g : Gx} {b L : Nat} {xs : Nat → Int32} {Iv : Wd → Prop}
theorem x_sld (C : Ctx E RL code room_1 4 g) (hB : E.s.heap.size = g.2.1) (hX : va_X b L xs E.s E.s.heap) (hbl : b < E.s.heap.size) {pc : Nat} {Lc : List (Nat × Value)} {st : List Value} {w : Wd} {i : Int32} (hi : inb i L = true) (hdg : decode code pc = .ok (.iaload, 1)) (kk : Xx E 4 g (pc + 1) Lc (.int (xs i.toNatClampNeg) :: st) w) : Xx E 4 g pc Lc (.int i :: .ref b :: st) w := fun H locs ls hP hS hl => va_sld C.1 C.2.1 hX hbl (by rw [← hB]; exact Nat.not_le.mpr hbl) hS (inb_in hi) hdg (kk H locs ls hP hS hl)
theorem x_slen (C : Ctx E RL code room_1 4 g) (hB : E.s.heap.size = g.2.1) (hX : va_X b L xs E.s E.s.heap) (hbl : b < E.s.heap.size) {pc : Nat} {Lc : List (Nat × Value)} {st : List Value} {w : Wd} (hdg : decode code pc = .ok (.arraylength, 1)) (kk : Xx E 4 g (pc + 1) Lc (.int (Int32.ofNat L) :: st) w) : Xx E 4 g pc Lc (.ref b :: st) w := fun H locs ls hP hS hl => va_slen C.1 C.2.1 hX hbl (by rw [← hB]; exact Nat.not_le.mpr hbl) hS hdg (kk H locs ls hP hS hl)
set_option maxRecDepth 20000 in
theorem law_case0 (C : Ctx E RL code room_1 4 g) (hB : E.s.heap.size = g.2.1) (hX : va_X b L xs E.s E.s.heap) (hbl : b < E.s.heap.size) (hO : OpsOK Iv) {x3 : Int32} (hi1 : inb (x3 + 1) L = true) (hi2 : inb (x3 + 2) L = true) (hi3 : inb (x3 + 3) L = true) {w : Wd} (hI : Iv w) (kk : ∀ w2, Iv w2 → Xx E 4 g 855 [(0, .ref b), (1, .ref (ad g 0)), (2, .ref (ad g 92)), (3, .int x3)] [] w2) : Xx E 4 g 160 [(0, .ref b), (1, .ref (ad g 0)), (2, .ref (ad g 92)), (3, .int x3)] [] w := by
  obtain ⟨r, w1, w2, h1, h2, hI2⟩ := hO.2.1 (xs (x3 + 1).toNatClampNeg) w hI
  refine x_aload_n C dL_law_160 1 rfl rfl ?_
  refine x_aload_n C dL_law_161 0 rfl rfl ?_
  refine x_iload_n C dL_law_162 3 rfl rfl ?_
  refine x_iconst (v := 1) C dL_law_163 (by decide) ?_
  refine x_iadd C dL_law_164 ?_
  refine x_sld C hB hX hbl hi1 dL_law_165 ?_
  refine x_callV (As := [.int (xs (x3 + 1).toNatClampNeg)]) C (c_X5_type E.l g (xs (x3 + 1).toNatClampNeg) w h1) k_X5_type kd_0 (by decide) rfl rfl lw_m13 rfl rfl ⟨Nat.le_of_ble_eq_true rfl, Nat.le_of_ble_eq_true rfl⟩ rfl rfl (Nat.le_of_ble_eq_true rfl) dL_law_166 ?_
  refine x_aload_n C dL_law_169 2 rfl rfl ?_
  refine x_aload_n C dL_law_170 0 rfl rfl ?_
  refine x_iload_n C dL_law_171 3 rfl rfl ?_
  refine x_iconst (v := 1) C dL_law_172 (by decide) ?_
  refine x_iadd C dL_law_173 ?_
  refine x_sld C hB hX hbl hi1 dL_law_174 ?_
  refine x_callV (As := [.int (xs (x3 + 1).toNatClampNeg)]) C (c_X6_type E.l g (xs (x3 + 1).toNatClampNeg) w1 h2) k_X6_type kd_92 (by decide) rfl rfl lw_m17 rfl rfl ⟨Nat.le_of_ble_eq_true rfl, Nat.le_of_ble_eq_true rfl⟩ rfl rfl (Nat.le_of_ble_eq_true rfl) dL_law_175 ?_
  exact x_icmp_eq (tgt := 855) C dL_law_178 (by decide) (fun _ => kk w2 hI2) (fun h => absurd rfl h)
set_option maxRecDepth 20000 in
theorem law_case1 (C : Ctx E RL code room_1 4 g) (hB : E.s.heap.size = g.2.1) (hX : va_X b L xs E.s E.s.heap) (hbl : b < E.s.heap.size) (hO : OpsOK Iv) {x3 : Int32} (hi1 : inb (x3 + 1) L = true) (hi2 : inb (x3 + 2) L = true) (hi3 : inb (x3 + 3) L = true) {w : Wd} (hI : Iv w) (kk : ∀ w2, Iv w2 → Xx E 4 g 855 [(0, .ref b), (1, .ref (ad g 0)), (2, .ref (ad g 92)), (3, .int x3)] [] w2) : Xx E 4 g 183 [(0, .ref b), (1, .ref (ad g 0)), (2, .ref (ad g 92)), (3, .int x3)] [] w := by
  obtain ⟨r, w1, w2, h1, h2, hI2⟩ := hO.2.2.1 w hI
  refine x_aload_n C dL_law_183 1 rfl rfl ?_
  refine x_callV (As := []) C (c_X5_clear E.l g w h1) k_X5_clear kd_0 (by decide) rfl rfl lw_m18 rfl rfl ⟨Nat.le_of_ble_eq_true rfl, Nat.le_of_ble_eq_true rfl⟩ rfl rfl (Nat.le_of_ble_eq_true rfl) dL_law_184 ?_
  refine x_aload_n C dL_law_187 2 rfl rfl ?_
  refine x_callV (As := []) C (c_X6_clear E.l g w1 h2) k_X6_clear kd_92 (by decide) rfl rfl lw_m22 rfl rfl ⟨Nat.le_of_ble_eq_true rfl, Nat.le_of_ble_eq_true rfl⟩ rfl rfl (Nat.le_of_ble_eq_true rfl) dL_law_188 ?_
  exact x_icmp_eq (tgt := 855) C dL_law_191 (by decide) (fun _ => kk w2 hI2) (fun h => absurd rfl h)
set_option maxRecDepth 20000 in
theorem law_case2 (C : Ctx E RL code room_1 4 g) (hB : E.s.heap.size = g.2.1) (hX : va_X b L xs E.s E.s.heap) (hbl : b < E.s.heap.size) (hO : OpsOK Iv) {x3 : Int32} (hi1 : inb (x3 + 1) L = true) (hi2 : inb (x3 + 2) L = true) (hi3 : inb (x3 + 3) L = true) {w : Wd} (hI : Iv w) (kk : ∀ w2, Iv w2 → Xx E 4 g 855 [(0, .ref b), (1, .ref (ad g 0)), (2, .ref (ad g 92)), (3, .int x3)] [] w2) : Xx E 4 g 196 [(0, .ref b), (1, .ref (ad g 0)), (2, .ref (ad g 92)), (3, .int x3)] [] w := by
  obtain ⟨r, w1, w2, h1, h2, hI2⟩ := hO.2.2.2.1 w hI
  refine x_aload_n C dL_law_196 1 rfl rfl ?_
  refine x_callV (As := []) C (c_X5_pot E.l g w h1) k_X5_pot kd_0 (by decide) rfl rfl lw_m23 rfl rfl ⟨Nat.le_of_ble_eq_true rfl, Nat.le_of_ble_eq_true rfl⟩ rfl rfl (Nat.le_of_ble_eq_true rfl) dL_law_197 ?_
  refine x_aload_n C dL_law_200 2 rfl rfl ?_
  refine x_callV (As := []) C (c_X6_pot E.l g w1 h2) k_X6_pot kd_92 (by decide) rfl rfl lw_m26 rfl rfl ⟨Nat.le_of_ble_eq_true rfl, Nat.le_of_ble_eq_true rfl⟩ rfl rfl (Nat.le_of_ble_eq_true rfl) dL_law_201 ?_
  exact x_icmp_eq (tgt := 855) C dL_law_204 (by decide) (fun _ => kk w2 hI2) (fun h => absurd rfl h)
set_option maxRecDepth 20000 in
theorem law_case3 (C : Ctx E RL code room_1 4 g) (hB : E.s.heap.size = g.2.1) (hX : va_X b L xs E.s E.s.heap) (hbl : b < E.s.heap.size) (hO : OpsOK Iv) {x3 : Int32} (hi1 : inb (x3 + 1) L = true) (hi2 : inb (x3 + 2) L = true) (hi3 : inb (x3 + 3) L = true) {w : Wd} (hI : Iv w) (kk : ∀ w2, Iv w2 → Xx E 4 g 855 [(0, .ref b), (1, .ref (ad g 0)), (2, .ref (ad g 92)), (3, .int x3)] [] w2) : Xx E 4 g 209 [(0, .ref b), (1, .ref (ad g 0)), (2, .ref (ad g 92)), (3, .int x3)] [] w := by
  obtain ⟨r, w1, w2, h1, h2, hI2⟩ := hO.2.2.2.2.1 (xs (x3 + 1).toNatClampNeg) (xs (x3 + 2).toNatClampNeg) w hI
  refine x_aload_n C dL_law_209 1 rfl rfl ?_
  refine x_aload_n C dL_law_210 0 rfl rfl ?_
  refine x_iload_n C dL_law_211 3 rfl rfl ?_
  refine x_iconst (v := 1) C dL_law_212 (by decide) ?_
  refine x_iadd C dL_law_213 ?_
  refine x_sld C hB hX hbl hi1 dL_law_214 ?_
  refine x_aload_n C dL_law_215 0 rfl rfl ?_
  refine x_iload_n C dL_law_216 3 rfl rfl ?_
  refine x_iconst (v := 2) C dL_law_217 (by decide) ?_
  refine x_iadd C dL_law_218 ?_
  refine x_sld C hB hX hbl hi2 dL_law_219 ?_
  refine x_callV (As := [.int (xs (x3 + 1).toNatClampNeg), .int (xs (x3 + 2).toNatClampNeg)]) C (c_X5_dumpling E.l g (xs (x3 + 1).toNatClampNeg) (xs (x3 + 2).toNatClampNeg) w h1) k_X5_dumpling kd_0 (by decide) rfl rfl lw_m27 rfl rfl ⟨Nat.le_of_ble_eq_true rfl, Nat.le_of_ble_eq_true rfl⟩ rfl rfl (Nat.le_of_ble_eq_true rfl) dL_law_220 ?_
  refine x_aload_n C dL_law_223 2 rfl rfl ?_
  refine x_aload_n C dL_law_224 0 rfl rfl ?_
  refine x_iload_n C dL_law_225 3 rfl rfl ?_
  refine x_iconst (v := 1) C dL_law_226 (by decide) ?_
  refine x_iadd C dL_law_227 ?_
  refine x_sld C hB hX hbl hi1 dL_law_228 ?_
  refine x_aload_n C dL_law_229 0 rfl rfl ?_
  refine x_iload_n C dL_law_230 3 rfl rfl ?_
  refine x_iconst (v := 2) C dL_law_231 (by decide) ?_
  refine x_iadd C dL_law_232 ?_
  refine x_sld C hB hX hbl hi2 dL_law_233 ?_
  refine x_callV (As := [.int (xs (x3 + 1).toNatClampNeg), .int (xs (x3 + 2).toNatClampNeg)]) C (c_X6_dumpling E.l g (xs (x3 + 1).toNatClampNeg) (xs (x3 + 2).toNatClampNeg) w1 h2) k_X6_dumpling kd_92 (by decide) rfl rfl lw_m31 rfl rfl ⟨Nat.le_of_ble_eq_true rfl, Nat.le_of_ble_eq_true rfl⟩ rfl rfl (Nat.le_of_ble_eq_true rfl) dL_law_234 ?_
  exact x_icmp_eq (tgt := 855) C dL_law_237 (by decide) (fun _ => kk w2 hI2) (fun h => absurd rfl h)
set_option maxRecDepth 20000 in
theorem law_case4 (C : Ctx E RL code room_1 4 g) (hB : E.s.heap.size = g.2.1) (hX : va_X b L xs E.s E.s.heap) (hbl : b < E.s.heap.size) (hO : OpsOK Iv) {x3 : Int32} (hi1 : inb (x3 + 1) L = true) (hi2 : inb (x3 + 2) L = true) (hi3 : inb (x3 + 3) L = true) {w : Wd} (hI : Iv w) (kk : ∀ w2, Iv w2 → Xx E 4 g 855 [(0, .ref b), (1, .ref (ad g 0)), (2, .ref (ad g 92)), (3, .int x3)] [] w2) : Xx E 4 g 242 [(0, .ref b), (1, .ref (ad g 0)), (2, .ref (ad g 92)), (3, .int x3)] [] w := by
  obtain ⟨r, w1, w2, h1, h2, hI2⟩ := hO.2.2.2.2.2.1 (xs (x3 + 1).toNatClampNeg) w hI
  refine x_aload_n C dL_law_242 1 rfl rfl ?_
  refine x_aload_n C dL_law_243 0 rfl rfl ?_
  refine x_iload_n C dL_law_244 3 rfl rfl ?_
  refine x_iconst (v := 1) C dL_law_245 (by decide) ?_
  refine x_iadd C dL_law_246 ?_
  refine x_sld C hB hX hbl hi1 dL_law_247 ?_
  refine x_callV (As := [.int (xs (x3 + 1).toNatClampNeg)]) C (c_X5_now E.l g (xs (x3 + 1).toNatClampNeg) w h1) k_X5_now kd_0 (by decide) rfl rfl lw_m32 rfl rfl ⟨Nat.le_of_ble_eq_true rfl, Nat.le_of_ble_eq_true rfl⟩ rfl rfl (Nat.le_of_ble_eq_true rfl) dL_law_248 ?_
  refine x_aload_n C dL_law_251 2 rfl rfl ?_
  refine x_aload_n C dL_law_252 0 rfl rfl ?_
  refine x_iload_n C dL_law_253 3 rfl rfl ?_
  refine x_iconst (v := 1) C dL_law_254 (by decide) ?_
  refine x_iadd C dL_law_255 ?_
  refine x_sld C hB hX hbl hi1 dL_law_256 ?_
  refine x_callV (As := [.int (xs (x3 + 1).toNatClampNeg)]) C (c_X6_now E.l g (xs (x3 + 1).toNatClampNeg) w1 h2) k_X6_now kd_92 (by decide) rfl rfl lw_m35 rfl rfl ⟨Nat.le_of_ble_eq_true rfl, Nat.le_of_ble_eq_true rfl⟩ rfl rfl (Nat.le_of_ble_eq_true rfl) dL_law_257 ?_
  exact x_icmp_eq (tgt := 855) C dL_law_260 (by decide) (fun _ => kk w2 hI2) (fun h => absurd rfl h)
set_option maxRecDepth 20000 in
theorem law_case5 (C : Ctx E RL code room_1 4 g) (hB : E.s.heap.size = g.2.1) (hX : va_X b L xs E.s E.s.heap) (hbl : b < E.s.heap.size) (hO : OpsOK Iv) {x3 : Int32} (hi1 : inb (x3 + 1) L = true) (hi2 : inb (x3 + 2) L = true) (hi3 : inb (x3 + 3) L = true) {w : Wd} (hI : Iv w) (kk : ∀ w2, Iv w2 → Xx E 4 g 855 [(0, .ref b), (1, .ref (ad g 0)), (2, .ref (ad g 92)), (3, .int x3)] [] w2) : Xx E 4 g 265 [(0, .ref b), (1, .ref (ad g 0)), (2, .ref (ad g 92)), (3, .int x3)] [] w := by
  obtain ⟨r, w1, w2, h1, h2, hI2⟩ := hO.2.2.2.2.2.2.1 (xs (x3 + 1).toNatClampNeg) w hI
  refine x_aload_n C dL_law_265 1 rfl rfl ?_
  refine x_aload_n C dL_law_266 0 rfl rfl ?_
  refine x_iload_n C dL_law_267 3 rfl rfl ?_
  refine x_iconst (v := 1) C dL_law_268 (by decide) ?_
  refine x_iadd C dL_law_269 ?_
  refine x_sld C hB hX hbl hi1 dL_law_270 ?_
  refine x_callV (As := [.int (xs (x3 + 1).toNatClampNeg)]) C (c_X5_order E.l g (xs (x3 + 1).toNatClampNeg) w h1) k_X5_order kd_0 (by decide) rfl rfl lw_m36 rfl rfl ⟨Nat.le_of_ble_eq_true rfl, Nat.le_of_ble_eq_true rfl⟩ rfl rfl (Nat.le_of_ble_eq_true rfl) dL_law_271 ?_
  refine x_aload_n C dL_law_274 2 rfl rfl ?_
  refine x_aload_n C dL_law_275 0 rfl rfl ?_
  refine x_iload_n C dL_law_276 3 rfl rfl ?_
  refine x_iconst (v := 1) C dL_law_277 (by decide) ?_
  refine x_iadd C dL_law_278 ?_
  refine x_sld C hB hX hbl hi1 dL_law_279 ?_
  refine x_callV (As := [.int (xs (x3 + 1).toNatClampNeg)]) C (c_X6_order E.l g (xs (x3 + 1).toNatClampNeg) w1 h2) k_X6_order kd_92 (by decide) rfl rfl lw_m39 rfl rfl ⟨Nat.le_of_ble_eq_true rfl, Nat.le_of_ble_eq_true rfl⟩ rfl rfl (Nat.le_of_ble_eq_true rfl) dL_law_280 ?_
  exact x_icmp_eq (tgt := 855) C dL_law_283 (by decide) (fun _ => kk w2 hI2) (fun h => absurd rfl h)
set_option maxRecDepth 20000 in
theorem law_case6 (C : Ctx E RL code room_1 4 g) (hB : E.s.heap.size = g.2.1) (hX : va_X b L xs E.s E.s.heap) (hbl : b < E.s.heap.size) (hO : OpsOK Iv) {x3 : Int32} (hi1 : inb (x3 + 1) L = true) (hi2 : inb (x3 + 2) L = true) (hi3 : inb (x3 + 3) L = true) {w : Wd} (hI : Iv w) (kk : ∀ w2, Iv w2 → Xx E 4 g 855 [(0, .ref b), (1, .ref (ad g 0)), (2, .ref (ad g 92)), (3, .int x3)] [] w2) : Xx E 4 g 288 [(0, .ref b), (1, .ref (ad g 0)), (2, .ref (ad g 92)), (3, .int x3)] [] w := by
  obtain ⟨r, w1, w2, h1, h2, hI2⟩ := hO.2.2.2.2.2.2.2.1 (xs (x3 + 1).toNatClampNeg) w hI
  refine x_aload_n C dL_law_288 1 rfl rfl ?_
  refine x_aload_n C dL_law_289 0 rfl rfl ?_
  refine x_iload_n C dL_law_290 3 rfl rfl ?_
  refine x_iconst (v := 1) C dL_law_291 (by decide) ?_
  refine x_iadd C dL_law_292 ?_
  refine x_sld C hB hX hbl hi1 dL_law_293 ?_
  refine x_callV (As := [.int (xs (x3 + 1).toNatClampNeg)]) C (c_X5_drops E.l g (xs (x3 + 1).toNatClampNeg) w h1) k_X5_drops kd_0 (by decide) rfl rfl lw_m40 rfl rfl ⟨Nat.le_of_ble_eq_true rfl, Nat.le_of_ble_eq_true rfl⟩ rfl rfl (Nat.le_of_ble_eq_true rfl) dL_law_294 ?_
  refine x_aload_n C dL_law_297 2 rfl rfl ?_
  refine x_aload_n C dL_law_298 0 rfl rfl ?_
  refine x_iload_n C dL_law_299 3 rfl rfl ?_
  refine x_iconst (v := 1) C dL_law_300 (by decide) ?_
  refine x_iadd C dL_law_301 ?_
  refine x_sld C hB hX hbl hi1 dL_law_302 ?_
  refine x_callV (As := [.int (xs (x3 + 1).toNatClampNeg)]) C (c_X6_drops E.l g (xs (x3 + 1).toNatClampNeg) w1 h2) k_X6_drops kd_92 (by decide) rfl rfl lw_m43 rfl rfl ⟨Nat.le_of_ble_eq_true rfl, Nat.le_of_ble_eq_true rfl⟩ rfl rfl (Nat.le_of_ble_eq_true rfl) dL_law_303 ?_
  exact x_icmp_eq (tgt := 855) C dL_law_306 (by decide) (fun _ => kk w2 hI2) (fun h => absurd rfl h)
set_option maxRecDepth 20000 in
theorem law_case7 (C : Ctx E RL code room_1 4 g) (hB : E.s.heap.size = g.2.1) (hX : va_X b L xs E.s E.s.heap) (hbl : b < E.s.heap.size) (hO : OpsOK Iv) {x3 : Int32} (hi1 : inb (x3 + 1) L = true) (hi2 : inb (x3 + 2) L = true) (hi3 : inb (x3 + 3) L = true) {w : Wd} (hI : Iv w) (kk : ∀ w2, Iv w2 → Xx E 4 g 855 [(0, .ref b), (1, .ref (ad g 0)), (2, .ref (ad g 92)), (3, .int x3)] [] w2) : Xx E 4 g 311 [(0, .ref b), (1, .ref (ad g 0)), (2, .ref (ad g 92)), (3, .int x3)] [] w := by
  obtain ⟨r, w1, w2, h1, h2, hI2⟩ := hO.2.2.2.2.2.2.2.2.1 w hI
  refine x_aload_n C dL_law_311 1 rfl rfl ?_
  refine x_callV (As := []) C (c_X5_minute E.l g w h1) k_X5_minute kd_0 (by decide) rfl rfl lw_m44 rfl rfl ⟨Nat.le_of_ble_eq_true rfl, Nat.le_of_ble_eq_true rfl⟩ rfl rfl (Nat.le_of_ble_eq_true rfl) dL_law_312 ?_
  refine x_aload_n C dL_law_315 2 rfl rfl ?_
  refine x_callV (As := []) C (c_X6_minute E.l g w1 h2) k_X6_minute kd_92 (by decide) rfl rfl lw_m47 rfl rfl ⟨Nat.le_of_ble_eq_true rfl, Nat.le_of_ble_eq_true rfl⟩ rfl rfl (Nat.le_of_ble_eq_true rfl) dL_law_316 ?_
  exact x_icmp_eq (tgt := 855) C dL_law_319 (by decide) (fun _ => kk w2 hI2) (fun h => absurd rfl h)
set_option maxRecDepth 20000 in
theorem law_case8 (C : Ctx E RL code room_1 4 g) (hB : E.s.heap.size = g.2.1) (hX : va_X b L xs E.s E.s.heap) (hbl : b < E.s.heap.size) (hO : OpsOK Iv) {x3 : Int32} (hi1 : inb (x3 + 1) L = true) (hi2 : inb (x3 + 2) L = true) (hi3 : inb (x3 + 3) L = true) {w : Wd} (hI : Iv w) (kk : ∀ w2, Iv w2 → Xx E 4 g 855 [(0, .ref b), (1, .ref (ad g 0)), (2, .ref (ad g 92)), (3, .int x3)] [] w2) : Xx E 4 g 324 [(0, .ref b), (1, .ref (ad g 0)), (2, .ref (ad g 92)), (3, .int x3)] [] w := by
  obtain ⟨r, w1, w2, h1, h2, hI2⟩ := hO.2.2.2.2.2.2.2.2.2.1 (xs (x3 + 1).toNatClampNeg) w hI
  refine x_aload_n C dL_law_324 1 rfl rfl ?_
  refine x_aload_n C dL_law_325 0 rfl rfl ?_
  refine x_iload_n C dL_law_326 3 rfl rfl ?_
  refine x_iconst (v := 1) C dL_law_327 (by decide) ?_
  refine x_iadd C dL_law_328 ?_
  refine x_sld C hB hX hbl hi1 dL_law_329 ?_
  refine x_callV (As := [.int (xs (x3 + 1).toNatClampNeg)]) C (c_X5_heats E.l g (xs (x3 + 1).toNatClampNeg) w h1) k_X5_heats kd_0 (by decide) rfl rfl lw_m48 rfl rfl ⟨Nat.le_of_ble_eq_true rfl, Nat.le_of_ble_eq_true rfl⟩ rfl rfl (Nat.le_of_ble_eq_true rfl) dL_law_330 ?_
  refine x_aload_n C dL_law_333 2 rfl rfl ?_
  refine x_aload_n C dL_law_334 0 rfl rfl ?_
  refine x_iload_n C dL_law_335 3 rfl rfl ?_
  refine x_iconst (v := 1) C dL_law_336 (by decide) ?_
  refine x_iadd C dL_law_337 ?_
  refine x_sld C hB hX hbl hi1 dL_law_338 ?_
  refine x_callV (As := [.int (xs (x3 + 1).toNatClampNeg)]) C (c_X6_heats E.l g (xs (x3 + 1).toNatClampNeg) w1 h2) k_X6_heats kd_92 (by decide) rfl rfl lw_m51 rfl rfl ⟨Nat.le_of_ble_eq_true rfl, Nat.le_of_ble_eq_true rfl⟩ rfl rfl (Nat.le_of_ble_eq_true rfl) dL_law_339 ?_
  exact x_icmp_eq (tgt := 855) C dL_law_342 (by decide) (fun _ => kk w2 hI2) (fun h => absurd rfl h)
set_option maxRecDepth 20000 in
theorem law_case9 (C : Ctx E RL code room_1 4 g) (hB : E.s.heap.size = g.2.1) (hX : va_X b L xs E.s E.s.heap) (hbl : b < E.s.heap.size) (hO : OpsOK Iv) {x3 : Int32} (hi1 : inb (x3 + 1) L = true) (hi2 : inb (x3 + 2) L = true) (hi3 : inb (x3 + 3) L = true) {w : Wd} (hI : Iv w) (kk : ∀ w2, Iv w2 → Xx E 4 g 855 [(0, .ref b), (1, .ref (ad g 0)), (2, .ref (ad g 92)), (3, .int x3)] [] w2) : Xx E 4 g 347 [(0, .ref b), (1, .ref (ad g 0)), (2, .ref (ad g 92)), (3, .int x3)] [] w := by
  obtain ⟨r, w1, w2, h1, h2, hI2⟩ := hO.2.2.2.2.2.2.2.2.2.2.1 (xs (x3 + 1).toNatClampNeg) w hI
  refine x_aload_n C dL_law_347 1 rfl rfl ?_
  refine x_aload_n C dL_law_348 0 rfl rfl ?_
  refine x_iload_n C dL_law_349 3 rfl rfl ?_
  refine x_iconst (v := 1) C dL_law_350 (by decide) ?_
  refine x_iadd C dL_law_351 ?_
  refine x_sld C hB hX hbl hi1 dL_law_352 ?_
  refine x_callV (As := [.int (xs (x3 + 1).toNatClampNeg)]) C (c_X5_skewers E.l g (xs (x3 + 1).toNatClampNeg) w h1) k_X5_skewers kd_0 (by decide) rfl rfl lw_m52 rfl rfl ⟨Nat.le_of_ble_eq_true rfl, Nat.le_of_ble_eq_true rfl⟩ rfl rfl (Nat.le_of_ble_eq_true rfl) dL_law_353 ?_
  refine x_aload_n C dL_law_356 2 rfl rfl ?_
  refine x_aload_n C dL_law_357 0 rfl rfl ?_
  refine x_iload_n C dL_law_358 3 rfl rfl ?_
  refine x_iconst (v := 1) C dL_law_359 (by decide) ?_
  refine x_iadd C dL_law_360 ?_
  refine x_sld C hB hX hbl hi1 dL_law_361 ?_
  refine x_callV (As := [.int (xs (x3 + 1).toNatClampNeg)]) C (c_X6_skewers E.l g (xs (x3 + 1).toNatClampNeg) w1 h2) k_X6_skewers kd_92 (by decide) rfl rfl lw_m55 rfl rfl ⟨Nat.le_of_ble_eq_true rfl, Nat.le_of_ble_eq_true rfl⟩ rfl rfl (Nat.le_of_ble_eq_true rfl) dL_law_362 ?_
  exact x_icmp_eq (tgt := 855) C dL_law_365 (by decide) (fun _ => kk w2 hI2) (fun h => absurd rfl h)
set_option maxRecDepth 20000 in
theorem law_case10 (C : Ctx E RL code room_1 4 g) (hB : E.s.heap.size = g.2.1) (hX : va_X b L xs E.s E.s.heap) (hbl : b < E.s.heap.size) (hO : OpsOK Iv) {x3 : Int32} (hi1 : inb (x3 + 1) L = true) (hi2 : inb (x3 + 2) L = true) (hi3 : inb (x3 + 3) L = true) {w : Wd} (hI : Iv w) (kk : ∀ w2, Iv w2 → Xx E 4 g 855 [(0, .ref b), (1, .ref (ad g 0)), (2, .ref (ad g 92)), (3, .int x3)] [] w2) : Xx E 4 g 370 [(0, .ref b), (1, .ref (ad g 0)), (2, .ref (ad g 92)), (3, .int x3)] [] w := by
  obtain ⟨r, w1, w2, h1, h2, hI2⟩ := hO.2.2.2.2.2.2.2.2.2.2.2.1 (xs (x3 + 1).toNatClampNeg) w hI
  refine x_aload_n C dL_law_370 1 rfl rfl ?_
  refine x_aload_n C dL_law_371 0 rfl rfl ?_
  refine x_iload_n C dL_law_372 3 rfl rfl ?_
  refine x_iconst (v := 1) C dL_law_373 (by decide) ?_
  refine x_iadd C dL_law_374 ?_
  refine x_sld C hB hX hbl hi1 dL_law_375 ?_
  refine x_callV (As := [.int (xs (x3 + 1).toNatClampNeg)]) C (c_X5_dips E.l g (xs (x3 + 1).toNatClampNeg) w h1) k_X5_dips kd_0 (by decide) rfl rfl lw_m56 rfl rfl ⟨Nat.le_of_ble_eq_true rfl, Nat.le_of_ble_eq_true rfl⟩ rfl rfl (Nat.le_of_ble_eq_true rfl) dL_law_376 ?_
  refine x_aload_n C dL_law_379 2 rfl rfl ?_
  refine x_aload_n C dL_law_380 0 rfl rfl ?_
  refine x_iload_n C dL_law_381 3 rfl rfl ?_
  refine x_iconst (v := 1) C dL_law_382 (by decide) ?_
  refine x_iadd C dL_law_383 ?_
  refine x_sld C hB hX hbl hi1 dL_law_384 ?_
  refine x_callV (As := [.int (xs (x3 + 1).toNatClampNeg)]) C (c_X6_dips E.l g (xs (x3 + 1).toNatClampNeg) w1 h2) k_X6_dips kd_92 (by decide) rfl rfl lw_m59 rfl rfl ⟨Nat.le_of_ble_eq_true rfl, Nat.le_of_ble_eq_true rfl⟩ rfl rfl (Nat.le_of_ble_eq_true rfl) dL_law_385 ?_
  exact x_icmp_eq (tgt := 855) C dL_law_388 (by decide) (fun _ => kk w2 hI2) (fun h => absurd rfl h)
set_option maxRecDepth 20000 in
theorem law_case11 (C : Ctx E RL code room_1 4 g) (hB : E.s.heap.size = g.2.1) (hX : va_X b L xs E.s E.s.heap) (hbl : b < E.s.heap.size) (hO : OpsOK Iv) {x3 : Int32} (hi1 : inb (x3 + 1) L = true) (hi2 : inb (x3 + 2) L = true) (hi3 : inb (x3 + 3) L = true) {w : Wd} (hI : Iv w) (kk : ∀ w2, Iv w2 → Xx E 4 g 855 [(0, .ref b), (1, .ref (ad g 0)), (2, .ref (ad g 92)), (3, .int x3)] [] w2) : Xx E 4 g 393 [(0, .ref b), (1, .ref (ad g 0)), (2, .ref (ad g 92)), (3, .int x3)] [] w := by
  obtain ⟨r, w1, w2, h1, h2, hI2⟩ := hO.2.2.2.2.2.2.2.2.2.2.2.2.1 w hI
  refine x_aload_n C dL_law_393 1 rfl rfl ?_
  refine x_callV (As := []) C (c_X5_undo E.l g w h1) k_X5_undo kd_0 (by decide) rfl rfl lw_m60 rfl rfl ⟨Nat.le_of_ble_eq_true rfl, Nat.le_of_ble_eq_true rfl⟩ rfl rfl (Nat.le_of_ble_eq_true rfl) dL_law_394 ?_
  refine x_aload_n C dL_law_397 2 rfl rfl ?_
  refine x_callV (As := []) C (c_X6_undo E.l g w1 h2) k_X6_undo kd_92 (by decide) rfl rfl lw_m63 rfl rfl ⟨Nat.le_of_ble_eq_true rfl, Nat.le_of_ble_eq_true rfl⟩ rfl rfl (Nat.le_of_ble_eq_true rfl) dL_law_398 ?_
  exact x_icmp_eq (tgt := 855) C dL_law_401 (by decide) (fun _ => kk w2 hI2) (fun h => absurd rfl h)
set_option maxRecDepth 20000 in
theorem law_case12 (C : Ctx E RL code room_1 4 g) (hB : E.s.heap.size = g.2.1) (hX : va_X b L xs E.s E.s.heap) (hbl : b < E.s.heap.size) (hO : OpsOK Iv) {x3 : Int32} (hi1 : inb (x3 + 1) L = true) (hi2 : inb (x3 + 2) L = true) (hi3 : inb (x3 + 3) L = true) {w : Wd} (hI : Iv w) (kk : ∀ w2, Iv w2 → Xx E 4 g 855 [(0, .ref b), (1, .ref (ad g 0)), (2, .ref (ad g 92)), (3, .int x3)] [] w2) : Xx E 4 g 406 [(0, .ref b), (1, .ref (ad g 0)), (2, .ref (ad g 92)), (3, .int x3)] [] w := by
  obtain ⟨r, w1, w2, h1, h2, hI2⟩ := hO.2.2.2.2.2.2.2.2.2.2.2.2.2.1 (xs (x3 + 1).toNatClampNeg) (xs (x3 + 2).toNatClampNeg) w hI
  refine x_aload_n C dL_law_406 1 rfl rfl ?_
  refine x_aload_n C dL_law_407 0 rfl rfl ?_
  refine x_iload_n C dL_law_408 3 rfl rfl ?_
  refine x_iconst (v := 1) C dL_law_409 (by decide) ?_
  refine x_iadd C dL_law_410 ?_
  refine x_sld C hB hX hbl hi1 dL_law_411 ?_
  refine x_aload_n C dL_law_412 0 rfl rfl ?_
  refine x_iload_n C dL_law_413 3 rfl rfl ?_
  refine x_iconst (v := 2) C dL_law_414 (by decide) ?_
  refine x_iadd C dL_law_415 ?_
  refine x_sld C hB hX hbl hi2 dL_law_416 ?_
  refine x_callV (As := [.int (xs (x3 + 1).toNatClampNeg), .int (xs (x3 + 2).toNatClampNeg)]) C (c_X5_deep E.l g (xs (x3 + 1).toNatClampNeg) (xs (x3 + 2).toNatClampNeg) w h1) k_X5_deep kd_0 (by decide) rfl rfl lw_m64 rfl rfl ⟨Nat.le_of_ble_eq_true rfl, Nat.le_of_ble_eq_true rfl⟩ rfl rfl (Nat.le_of_ble_eq_true rfl) dL_law_417 ?_
  refine x_aload_n C dL_law_420 2 rfl rfl ?_
  refine x_aload_n C dL_law_421 0 rfl rfl ?_
  refine x_iload_n C dL_law_422 3 rfl rfl ?_
  refine x_iconst (v := 1) C dL_law_423 (by decide) ?_
  refine x_iadd C dL_law_424 ?_
  refine x_sld C hB hX hbl hi1 dL_law_425 ?_
  refine x_aload_n C dL_law_426 0 rfl rfl ?_
  refine x_iload_n C dL_law_427 3 rfl rfl ?_
  refine x_iconst (v := 2) C dL_law_428 (by decide) ?_
  refine x_iadd C dL_law_429 ?_
  refine x_sld C hB hX hbl hi2 dL_law_430 ?_
  refine x_callV (As := [.int (xs (x3 + 1).toNatClampNeg), .int (xs (x3 + 2).toNatClampNeg)]) C (c_X6_deep E.l g (xs (x3 + 1).toNatClampNeg) (xs (x3 + 2).toNatClampNeg) w1 h2) k_X6_deep kd_92 (by decide) rfl rfl lw_m67 rfl rfl ⟨Nat.le_of_ble_eq_true rfl, Nat.le_of_ble_eq_true rfl⟩ rfl rfl (Nat.le_of_ble_eq_true rfl) dL_law_431 ?_
  exact x_icmp_eq (tgt := 855) C dL_law_434 (by decide) (fun _ => kk w2 hI2) (fun h => absurd rfl h)
set_option maxRecDepth 20000 in
theorem law_case13 (C : Ctx E RL code room_1 4 g) (hB : E.s.heap.size = g.2.1) (hX : va_X b L xs E.s E.s.heap) (hbl : b < E.s.heap.size) (hO : OpsOK Iv) {x3 : Int32} (hi1 : inb (x3 + 1) L = true) (hi2 : inb (x3 + 2) L = true) (hi3 : inb (x3 + 3) L = true) {w : Wd} (hI : Iv w) (kk : ∀ w2, Iv w2 → Xx E 4 g 855 [(0, .ref b), (1, .ref (ad g 0)), (2, .ref (ad g 92)), (3, .int x3)] [] w2) : Xx E 4 g 439 [(0, .ref b), (1, .ref (ad g 0)), (2, .ref (ad g 92)), (3, .int x3)] [] w := by
  obtain ⟨r, w1, w2, h1, h2, hI2⟩ := hO.2.2.2.2.2.2.2.2.2.2.2.2.2.2.1 (xs (x3 + 1).toNatClampNeg) w hI
  refine x_aload_n C dL_law_439 1 rfl rfl ?_
  refine x_aload_n C dL_law_440 0 rfl rfl ?_
  refine x_iload_n C dL_law_441 3 rfl rfl ?_
  refine x_iconst (v := 1) C dL_law_442 (by decide) ?_
  refine x_iadd C dL_law_443 ?_
  refine x_sld C hB hX hbl hi1 dL_law_444 ?_
  refine x_callV (As := [.int (xs (x3 + 1).toNatClampNeg)]) C (c_X5_when E.l g (xs (x3 + 1).toNatClampNeg) w h1) k_X5_when kd_0 (by decide) rfl rfl lw_m68 rfl rfl ⟨Nat.le_of_ble_eq_true rfl, Nat.le_of_ble_eq_true rfl⟩ rfl rfl (Nat.le_of_ble_eq_true rfl) dL_law_445 ?_
  refine x_aload_n C dL_law_448 2 rfl rfl ?_
  refine x_aload_n C dL_law_449 0 rfl rfl ?_
  refine x_iload_n C dL_law_450 3 rfl rfl ?_
  refine x_iconst (v := 1) C dL_law_451 (by decide) ?_
  refine x_iadd C dL_law_452 ?_
  refine x_sld C hB hX hbl hi1 dL_law_453 ?_
  refine x_callV (As := [.int (xs (x3 + 1).toNatClampNeg)]) C (c_X6_when E.l g (xs (x3 + 1).toNatClampNeg) w1 h2) k_X6_when kd_92 (by decide) rfl rfl lw_m71 rfl rfl ⟨Nat.le_of_ble_eq_true rfl, Nat.le_of_ble_eq_true rfl⟩ rfl rfl (Nat.le_of_ble_eq_true rfl) dL_law_454 ?_
  exact x_icmp_eq (tgt := 855) C dL_law_457 (by decide) (fun _ => kk w2 hI2) (fun h => absurd rfl h)
set_option maxRecDepth 20000 in
theorem law_case14 (C : Ctx E RL code room_1 4 g) (hB : E.s.heap.size = g.2.1) (hX : va_X b L xs E.s E.s.heap) (hbl : b < E.s.heap.size) (hO : OpsOK Iv) {x3 : Int32} (hi1 : inb (x3 + 1) L = true) (hi2 : inb (x3 + 2) L = true) (hi3 : inb (x3 + 3) L = true) {w : Wd} (hI : Iv w) (kk : ∀ w2, Iv w2 → Xx E 4 g 855 [(0, .ref b), (1, .ref (ad g 0)), (2, .ref (ad g 92)), (3, .int x3)] [] w2) : Xx E 4 g 462 [(0, .ref b), (1, .ref (ad g 0)), (2, .ref (ad g 92)), (3, .int x3)] [] w := by
  obtain ⟨r, w1, w2, h1, h2, hI2⟩ := hO.2.2.2.2.2.2.2.2.2.2.2.2.2.2.2.1 (xs (x3 + 1).toNatClampNeg) (xs (x3 + 2).toNatClampNeg) w hI
  refine x_aload_n C dL_law_462 1 rfl rfl ?_
  refine x_aload_n C dL_law_463 0 rfl rfl ?_
  refine x_iload_n C dL_law_464 3 rfl rfl ?_
  refine x_iconst (v := 1) C dL_law_465 (by decide) ?_
  refine x_iadd C dL_law_466 ?_
  refine x_sld C hB hX hbl hi1 dL_law_467 ?_
  refine x_aload_n C dL_law_468 0 rfl rfl ?_
  refine x_iload_n C dL_law_469 3 rfl rfl ?_
  refine x_iconst (v := 2) C dL_law_470 (by decide) ?_
  refine x_iadd C dL_law_471 ?_
  refine x_sld C hB hX hbl hi2 dL_law_472 ?_
  refine x_callV (As := [.int (xs (x3 + 1).toNatClampNeg), .int (xs (x3 + 2).toNatClampNeg)]) C (c_X5_warm E.l g (xs (x3 + 1).toNatClampNeg) (xs (x3 + 2).toNatClampNeg) w h1) k_X5_warm kd_0 (by decide) rfl rfl lw_m72 rfl rfl ⟨Nat.le_of_ble_eq_true rfl, Nat.le_of_ble_eq_true rfl⟩ rfl rfl (Nat.le_of_ble_eq_true rfl) dL_law_473 ?_
  refine x_aload_n C dL_law_476 2 rfl rfl ?_
  refine x_aload_n C dL_law_477 0 rfl rfl ?_
  refine x_iload_n C dL_law_478 3 rfl rfl ?_
  refine x_iconst (v := 1) C dL_law_479 (by decide) ?_
  refine x_iadd C dL_law_480 ?_
  refine x_sld C hB hX hbl hi1 dL_law_481 ?_
  refine x_aload_n C dL_law_482 0 rfl rfl ?_
  refine x_iload_n C dL_law_483 3 rfl rfl ?_
  refine x_iconst (v := 2) C dL_law_484 (by decide) ?_
  refine x_iadd C dL_law_485 ?_
  refine x_sld C hB hX hbl hi2 dL_law_486 ?_
  refine x_callV (As := [.int (xs (x3 + 1).toNatClampNeg), .int (xs (x3 + 2).toNatClampNeg)]) C (c_X6_warm E.l g (xs (x3 + 1).toNatClampNeg) (xs (x3 + 2).toNatClampNeg) w1 h2) k_X6_warm kd_92 (by decide) rfl rfl lw_m75 rfl rfl ⟨Nat.le_of_ble_eq_true rfl, Nat.le_of_ble_eq_true rfl⟩ rfl rfl (Nat.le_of_ble_eq_true rfl) dL_law_487 ?_
  exact x_icmp_eq (tgt := 855) C dL_law_490 (by decide) (fun _ => kk w2 hI2) (fun h => absurd rfl h)
set_option maxRecDepth 20000 in
theorem law_case15 (C : Ctx E RL code room_1 4 g) (hB : E.s.heap.size = g.2.1) (hX : va_X b L xs E.s E.s.heap) (hbl : b < E.s.heap.size) (hO : OpsOK Iv) {x3 : Int32} (hi1 : inb (x3 + 1) L = true) (hi2 : inb (x3 + 2) L = true) (hi3 : inb (x3 + 3) L = true) {w : Wd} (hI : Iv w) (kk : ∀ w2, Iv w2 → Xx E 4 g 855 [(0, .ref b), (1, .ref (ad g 0)), (2, .ref (ad g 92)), (3, .int x3)] [] w2) : Xx E 4 g 495 [(0, .ref b), (1, .ref (ad g 0)), (2, .ref (ad g 92)), (3, .int x3)] [] w := by
  obtain ⟨r, w1, w2, h1, h2, hI2⟩ := hO.2.2.2.2.2.2.2.2.2.2.2.2.2.2.2.2.1 (xs (x3 + 1).toNatClampNeg) (xs (x3 + 2).toNatClampNeg) w hI
  refine x_aload_n C dL_law_495 1 rfl rfl ?_
  refine x_aload_n C dL_law_496 0 rfl rfl ?_
  refine x_iload_n C dL_law_497 3 rfl rfl ?_
  refine x_iconst (v := 1) C dL_law_498 (by decide) ?_
  refine x_iadd C dL_law_499 ?_
  refine x_sld C hB hX hbl hi1 dL_law_500 ?_
  refine x_aload_n C dL_law_501 0 rfl rfl ?_
  refine x_iload_n C dL_law_502 3 rfl rfl ?_
  refine x_iconst (v := 2) C dL_law_503 (by decide) ?_
  refine x_iadd C dL_law_504 ?_
  refine x_sld C hB hX hbl hi2 dL_law_505 ?_
  refine x_callV (As := [.int (xs (x3 + 1).toNatClampNeg), .int (xs (x3 + 2).toNatClampNeg)]) C (c_X5_kept E.l g (xs (x3 + 1).toNatClampNeg) (xs (x3 + 2).toNatClampNeg) w h1) k_X5_kept kd_0 (by decide) rfl rfl lw_m76 rfl rfl ⟨Nat.le_of_ble_eq_true rfl, Nat.le_of_ble_eq_true rfl⟩ rfl rfl (Nat.le_of_ble_eq_true rfl) dL_law_506 ?_
  refine x_aload_n C dL_law_509 2 rfl rfl ?_
  refine x_aload_n C dL_law_510 0 rfl rfl ?_
  refine x_iload_n C dL_law_511 3 rfl rfl ?_
  refine x_iconst (v := 1) C dL_law_512 (by decide) ?_
  refine x_iadd C dL_law_513 ?_
  refine x_sld C hB hX hbl hi1 dL_law_514 ?_
  refine x_aload_n C dL_law_515 0 rfl rfl ?_
  refine x_iload_n C dL_law_516 3 rfl rfl ?_
  refine x_iconst (v := 2) C dL_law_517 (by decide) ?_
  refine x_iadd C dL_law_518 ?_
  refine x_sld C hB hX hbl hi2 dL_law_519 ?_
  refine x_callV (As := [.int (xs (x3 + 1).toNatClampNeg), .int (xs (x3 + 2).toNatClampNeg)]) C (c_X6_kept E.l g (xs (x3 + 1).toNatClampNeg) (xs (x3 + 2).toNatClampNeg) w1 h2) k_X6_kept kd_92 (by decide) rfl rfl lw_m79 rfl rfl ⟨Nat.le_of_ble_eq_true rfl, Nat.le_of_ble_eq_true rfl⟩ rfl rfl (Nat.le_of_ble_eq_true rfl) dL_law_520 ?_
  exact x_icmp_eq (tgt := 855) C dL_law_523 (by decide) (fun _ => kk w2 hI2) (fun h => absurd rfl h)
set_option maxRecDepth 20000 in
theorem law_case16 (C : Ctx E RL code room_1 4 g) (hB : E.s.heap.size = g.2.1) (hX : va_X b L xs E.s E.s.heap) (hbl : b < E.s.heap.size) (hO : OpsOK Iv) {x3 : Int32} (hi1 : inb (x3 + 1) L = true) (hi2 : inb (x3 + 2) L = true) (hi3 : inb (x3 + 3) L = true) {w : Wd} (hI : Iv w) (kk : ∀ w2, Iv w2 → Xx E 4 g 855 [(0, .ref b), (1, .ref (ad g 0)), (2, .ref (ad g 92)), (3, .int x3)] [] w2) : Xx E 4 g 528 [(0, .ref b), (1, .ref (ad g 0)), (2, .ref (ad g 92)), (3, .int x3)] [] w := by
  obtain ⟨r, w1, w2, h1, h2, hI2⟩ := hO.2.2.2.2.2.2.2.2.2.2.2.2.2.2.2.2.2.1 (xs (x3 + 1).toNatClampNeg) w hI
  refine x_aload_n C dL_law_528 1 rfl rfl ?_
  refine x_aload_n C dL_law_529 0 rfl rfl ?_
  refine x_iload_n C dL_law_530 3 rfl rfl ?_
  refine x_iconst (v := 1) C dL_law_531 (by decide) ?_
  refine x_iadd C dL_law_532 ?_
  refine x_sld C hB hX hbl hi1 dL_law_533 ?_
  refine x_callV (As := [.int (xs (x3 + 1).toNatClampNeg)]) C (c_X5_party E.l g (xs (x3 + 1).toNatClampNeg) w h1) k_X5_party kd_0 (by decide) rfl rfl lw_m80 rfl rfl ⟨Nat.le_of_ble_eq_true rfl, Nat.le_of_ble_eq_true rfl⟩ rfl rfl (Nat.le_of_ble_eq_true rfl) dL_law_534 ?_
  refine x_aload_n C dL_law_537 2 rfl rfl ?_
  refine x_aload_n C dL_law_538 0 rfl rfl ?_
  refine x_iload_n C dL_law_539 3 rfl rfl ?_
  refine x_iconst (v := 1) C dL_law_540 (by decide) ?_
  refine x_iadd C dL_law_541 ?_
  refine x_sld C hB hX hbl hi1 dL_law_542 ?_
  refine x_callV (As := [.int (xs (x3 + 1).toNatClampNeg)]) C (c_X6_party E.l g (xs (x3 + 1).toNatClampNeg) w1 h2) k_X6_party kd_92 (by decide) rfl rfl lw_m83 rfl rfl ⟨Nat.le_of_ble_eq_true rfl, Nat.le_of_ble_eq_true rfl⟩ rfl rfl (Nat.le_of_ble_eq_true rfl) dL_law_543 ?_
  exact x_icmp_eq (tgt := 855) C dL_law_546 (by decide) (fun _ => kk w2 hI2) (fun h => absurd rfl h)
set_option maxRecDepth 20000 in
theorem law_case17 (C : Ctx E RL code room_1 4 g) (hB : E.s.heap.size = g.2.1) (hX : va_X b L xs E.s E.s.heap) (hbl : b < E.s.heap.size) (hO : OpsOK Iv) {x3 : Int32} (hi1 : inb (x3 + 1) L = true) (hi2 : inb (x3 + 2) L = true) (hi3 : inb (x3 + 3) L = true) {w : Wd} (hI : Iv w) (kk : ∀ w2, Iv w2 → Xx E 4 g 855 [(0, .ref b), (1, .ref (ad g 0)), (2, .ref (ad g 92)), (3, .int x3)] [] w2) : Xx E 4 g 551 [(0, .ref b), (1, .ref (ad g 0)), (2, .ref (ad g 92)), (3, .int x3)] [] w := by
  obtain ⟨r, w1, w2, h1, h2, hI2⟩ := hO.2.2.2.2.2.2.2.2.2.2.2.2.2.2.2.2.2.2.1 (xs (x3 + 1).toNatClampNeg) (xs (x3 + 2).toNatClampNeg) w hI
  refine x_aload_n C dL_law_551 1 rfl rfl ?_
  refine x_aload_n C dL_law_552 0 rfl rfl ?_
  refine x_iload_n C dL_law_553 3 rfl rfl ?_
  refine x_iconst (v := 1) C dL_law_554 (by decide) ?_
  refine x_iadd C dL_law_555 ?_
  refine x_sld C hB hX hbl hi1 dL_law_556 ?_
  refine x_aload_n C dL_law_557 0 rfl rfl ?_
  refine x_iload_n C dL_law_558 3 rfl rfl ?_
  refine x_iconst (v := 2) C dL_law_559 (by decide) ?_
  refine x_iadd C dL_law_560 ?_
  refine x_sld C hB hX hbl hi2 dL_law_561 ?_
  refine x_callV (As := [.int (xs (x3 + 1).toNatClampNeg), .int (xs (x3 + 2).toNatClampNeg)]) C (c_X5_power E.l g (xs (x3 + 1).toNatClampNeg) (xs (x3 + 2).toNatClampNeg) w h1) k_X5_power kd_0 (by decide) rfl rfl lw_m84 rfl rfl ⟨Nat.le_of_ble_eq_true rfl, Nat.le_of_ble_eq_true rfl⟩ rfl rfl (Nat.le_of_ble_eq_true rfl) dL_law_562 ?_
  refine x_aload_n C dL_law_565 2 rfl rfl ?_
  refine x_aload_n C dL_law_566 0 rfl rfl ?_
  refine x_iload_n C dL_law_567 3 rfl rfl ?_
  refine x_iconst (v := 1) C dL_law_568 (by decide) ?_
  refine x_iadd C dL_law_569 ?_
  refine x_sld C hB hX hbl hi1 dL_law_570 ?_
  refine x_aload_n C dL_law_571 0 rfl rfl ?_
  refine x_iload_n C dL_law_572 3 rfl rfl ?_
  refine x_iconst (v := 2) C dL_law_573 (by decide) ?_
  refine x_iadd C dL_law_574 ?_
  refine x_sld C hB hX hbl hi2 dL_law_575 ?_
  refine x_callV (As := [.int (xs (x3 + 1).toNatClampNeg), .int (xs (x3 + 2).toNatClampNeg)]) C (c_X6_power E.l g (xs (x3 + 1).toNatClampNeg) (xs (x3 + 2).toNatClampNeg) w1 h2) k_X6_power kd_92 (by decide) rfl rfl lw_m87 rfl rfl ⟨Nat.le_of_ble_eq_true rfl, Nat.le_of_ble_eq_true rfl⟩ rfl rfl (Nat.le_of_ble_eq_true rfl) dL_law_576 ?_
  exact x_icmp_eq (tgt := 855) C dL_law_579 (by decide) (fun _ => kk w2 hI2) (fun h => absurd rfl h)
set_option maxRecDepth 20000 in
theorem law_case18 (C : Ctx E RL code room_1 4 g) (hB : E.s.heap.size = g.2.1) (hX : va_X b L xs E.s E.s.heap) (hbl : b < E.s.heap.size) (hO : OpsOK Iv) {x3 : Int32} (hi1 : inb (x3 + 1) L = true) (hi2 : inb (x3 + 2) L = true) (hi3 : inb (x3 + 3) L = true) {w : Wd} (hI : Iv w) (kk : ∀ w2, Iv w2 → Xx E 4 g 855 [(0, .ref b), (1, .ref (ad g 0)), (2, .ref (ad g 92)), (3, .int x3)] [] w2) : Xx E 4 g 584 [(0, .ref b), (1, .ref (ad g 0)), (2, .ref (ad g 92)), (3, .int x3)] [] w := by
  obtain ⟨r, w1, w2, h1, h2, hI2⟩ := hO.2.2.2.2.2.2.2.2.2.2.2.2.2.2.2.2.2.2.2.1 (xs (x3 + 1).toNatClampNeg) (xs (x3 + 2).toNatClampNeg) (xs (x3 + 3).toNatClampNeg) w hI
  refine x_aload_n C dL_law_584 1 rfl rfl ?_
  refine x_aload_n C dL_law_585 0 rfl rfl ?_
  refine x_iload_n C dL_law_586 3 rfl rfl ?_
  refine x_iconst (v := 1) C dL_law_587 (by decide) ?_
  refine x_iadd C dL_law_588 ?_
  refine x_sld C hB hX hbl hi1 dL_law_589 ?_
  refine x_aload_n C dL_law_590 0 rfl rfl ?_
  refine x_iload_n C dL_law_591 3 rfl rfl ?_
  refine x_iconst (v := 2) C dL_law_592 (by decide) ?_
  refine x_iadd C dL_law_593 ?_
  refine x_sld C hB hX hbl hi2 dL_law_594 ?_
  refine x_aload_n C dL_law_595 0 rfl rfl ?_
  refine x_iload_n C dL_law_596 3 rfl rfl ?_
  refine x_iconst (v := 3) C dL_law_597 (by decide) ?_
  refine x_iadd C dL_law_598 ?_
  refine x_sld C hB hX hbl hi3 dL_law_599 ?_
  refine x_callV (As := [.int (xs (x3 + 1).toNatClampNeg), .int (xs (x3 + 2).toNatClampNeg), .int (xs (x3 + 3).toNatClampNeg)]) C (c_X5_odds E.l g (xs (x3 + 1).toNatClampNeg) (xs (x3 + 2).toNatClampNeg) (xs (x3 + 3).toNatClampNeg) w h1) k_X5_odds kd_0 (by decide) rfl rfl lw_m88 rfl rfl ⟨Nat.le_of_ble_eq_true rfl, Nat.le_of_ble_eq_true rfl⟩ rfl rfl (Nat.le_of_ble_eq_true rfl) dL_law_600 ?_
  refine x_aload_n C dL_law_603 2 rfl rfl ?_
  refine x_aload_n C dL_law_604 0 rfl rfl ?_
  refine x_iload_n C dL_law_605 3 rfl rfl ?_
  refine x_iconst (v := 1) C dL_law_606 (by decide) ?_
  refine x_iadd C dL_law_607 ?_
  refine x_sld C hB hX hbl hi1 dL_law_608 ?_
  refine x_aload_n C dL_law_609 0 rfl rfl ?_
  refine x_iload_n C dL_law_610 3 rfl rfl ?_
  refine x_iconst (v := 2) C dL_law_611 (by decide) ?_
  refine x_iadd C dL_law_612 ?_
  refine x_sld C hB hX hbl hi2 dL_law_613 ?_
  refine x_aload_n C dL_law_614 0 rfl rfl ?_
  refine x_iload_n C dL_law_615 3 rfl rfl ?_
  refine x_iconst (v := 3) C dL_law_616 (by decide) ?_
  refine x_iadd C dL_law_617 ?_
  refine x_sld C hB hX hbl hi3 dL_law_618 ?_
  refine x_callV (As := [.int (xs (x3 + 1).toNatClampNeg), .int (xs (x3 + 2).toNatClampNeg), .int (xs (x3 + 3).toNatClampNeg)]) C (c_X6_odds E.l g (xs (x3 + 1).toNatClampNeg) (xs (x3 + 2).toNatClampNeg) (xs (x3 + 3).toNatClampNeg) w1 h2) k_X6_odds kd_92 (by decide) rfl rfl lw_m92 rfl rfl ⟨Nat.le_of_ble_eq_true rfl, Nat.le_of_ble_eq_true rfl⟩ rfl rfl (Nat.le_of_ble_eq_true rfl) dL_law_619 ?_
  exact x_icmp_eq (tgt := 855) C dL_law_622 (by decide) (fun _ => kk w2 hI2) (fun h => absurd rfl h)
set_option maxRecDepth 20000 in
theorem law_case19 (C : Ctx E RL code room_1 4 g) (hB : E.s.heap.size = g.2.1) (hX : va_X b L xs E.s E.s.heap) (hbl : b < E.s.heap.size) (hO : OpsOK Iv) {x3 : Int32} (hi1 : inb (x3 + 1) L = true) (hi2 : inb (x3 + 2) L = true) (hi3 : inb (x3 + 3) L = true) {w : Wd} (hI : Iv w) (kk : ∀ w2, Iv w2 → Xx E 4 g 855 [(0, .ref b), (1, .ref (ad g 0)), (2, .ref (ad g 92)), (3, .int x3)] [] w2) : Xx E 4 g 627 [(0, .ref b), (1, .ref (ad g 0)), (2, .ref (ad g 92)), (3, .int x3)] [] w := by
  obtain ⟨r, w1, w2, h1, h2, hI2⟩ := hO.2.2.2.2.2.2.2.2.2.2.2.2.2.2.2.2.2.2.2.2.1 (xs (x3 + 1).toNatClampNeg) (xs (x3 + 2).toNatClampNeg) (xs (x3 + 3).toNatClampNeg) w hI
  refine x_aload_n C dL_law_627 1 rfl rfl ?_
  refine x_aload_n C dL_law_628 0 rfl rfl ?_
  refine x_iload_n C dL_law_629 3 rfl rfl ?_
  refine x_iconst (v := 1) C dL_law_630 (by decide) ?_
  refine x_iadd C dL_law_631 ?_
  refine x_sld C hB hX hbl hi1 dL_law_632 ?_
  refine x_aload_n C dL_law_633 0 rfl rfl ?_
  refine x_iload_n C dL_law_634 3 rfl rfl ?_
  refine x_iconst (v := 2) C dL_law_635 (by decide) ?_
  refine x_iadd C dL_law_636 ?_
  refine x_sld C hB hX hbl hi2 dL_law_637 ?_
  refine x_aload_n C dL_law_638 0 rfl rfl ?_
  refine x_iload_n C dL_law_639 3 rfl rfl ?_
  refine x_iconst (v := 3) C dL_law_640 (by decide) ?_
  refine x_iadd C dL_law_641 ?_
  refine x_sld C hB hX hbl hi3 dL_law_642 ?_
  refine x_callV (As := [.int (xs (x3 + 1).toNatClampNeg), .int (xs (x3 + 2).toNatClampNeg), .int (xs (x3 + 3).toNatClampNeg)]) C (c_X5_sees E.l g (xs (x3 + 1).toNatClampNeg) (xs (x3 + 2).toNatClampNeg) (xs (x3 + 3).toNatClampNeg) w h1) k_X5_sees kd_0 (by decide) rfl rfl lw_m93 rfl rfl ⟨Nat.le_of_ble_eq_true rfl, Nat.le_of_ble_eq_true rfl⟩ rfl rfl (Nat.le_of_ble_eq_true rfl) dL_law_643 ?_
  refine x_aload_n C dL_law_646 2 rfl rfl ?_
  refine x_aload_n C dL_law_647 0 rfl rfl ?_
  refine x_iload_n C dL_law_648 3 rfl rfl ?_
  refine x_iconst (v := 1) C dL_law_649 (by decide) ?_
  refine x_iadd C dL_law_650 ?_
  refine x_sld C hB hX hbl hi1 dL_law_651 ?_
  refine x_aload_n C dL_law_652 0 rfl rfl ?_
  refine x_iload_n C dL_law_653 3 rfl rfl ?_
  refine x_iconst (v := 2) C dL_law_654 (by decide) ?_
  refine x_iadd C dL_law_655 ?_
  refine x_sld C hB hX hbl hi2 dL_law_656 ?_
  refine x_aload_n C dL_law_657 0 rfl rfl ?_
  refine x_iload_n C dL_law_658 3 rfl rfl ?_
  refine x_iconst (v := 3) C dL_law_659 (by decide) ?_
  refine x_iadd C dL_law_660 ?_
  refine x_sld C hB hX hbl hi3 dL_law_661 ?_
  refine x_callV (As := [.int (xs (x3 + 1).toNatClampNeg), .int (xs (x3 + 2).toNatClampNeg), .int (xs (x3 + 3).toNatClampNeg)]) C (c_X6_sees E.l g (xs (x3 + 1).toNatClampNeg) (xs (x3 + 2).toNatClampNeg) (xs (x3 + 3).toNatClampNeg) w1 h2) k_X6_sees kd_92 (by decide) rfl rfl lw_m96 rfl rfl ⟨Nat.le_of_ble_eq_true rfl, Nat.le_of_ble_eq_true rfl⟩ rfl rfl (Nat.le_of_ble_eq_true rfl) dL_law_662 ?_
  exact x_icmp_eq (tgt := 855) C dL_law_665 (by decide) (fun _ => kk w2 hI2) (fun h => absurd rfl h)
set_option maxRecDepth 20000 in
theorem law_case20 (C : Ctx E RL code room_1 4 g) (hB : E.s.heap.size = g.2.1) (hX : va_X b L xs E.s E.s.heap) (hbl : b < E.s.heap.size) (hO : OpsOK Iv) {x3 : Int32} (hi1 : inb (x3 + 1) L = true) (hi2 : inb (x3 + 2) L = true) (hi3 : inb (x3 + 3) L = true) {w : Wd} (hI : Iv w) (kk : ∀ w2, Iv w2 → Xx E 4 g 855 [(0, .ref b), (1, .ref (ad g 0)), (2, .ref (ad g 92)), (3, .int x3)] [] w2) : Xx E 4 g 670 [(0, .ref b), (1, .ref (ad g 0)), (2, .ref (ad g 92)), (3, .int x3)] [] w := by
  obtain ⟨r, w1, w2, h1, h2, hI2⟩ := hO.2.2.2.2.2.2.2.2.2.2.2.2.2.2.2.2.2.2.2.2.2.1 w hI
  refine x_aload_n C dL_law_670 1 rfl rfl ?_
  refine x_callV (As := []) C (c_X5_forget E.l g w h1) k_X5_forget kd_0 (by decide) rfl rfl lw_m97 rfl rfl ⟨Nat.le_of_ble_eq_true rfl, Nat.le_of_ble_eq_true rfl⟩ rfl rfl (Nat.le_of_ble_eq_true rfl) dL_law_671 ?_
  refine x_aload_n C dL_law_674 2 rfl rfl ?_
  refine x_callV (As := []) C (c_X6_forget E.l g w1 h2) k_X6_forget kd_92 (by decide) rfl rfl lw_m100 rfl rfl ⟨Nat.le_of_ble_eq_true rfl, Nat.le_of_ble_eq_true rfl⟩ rfl rfl (Nat.le_of_ble_eq_true rfl) dL_law_675 ?_
  exact x_icmp_eq (tgt := 855) C dL_law_678 (by decide) (fun _ => kk w2 hI2) (fun h => absurd rfl h)
set_option maxRecDepth 20000 in
theorem law_case21 (C : Ctx E RL code room_1 4 g) (hB : E.s.heap.size = g.2.1) (hX : va_X b L xs E.s E.s.heap) (hbl : b < E.s.heap.size) (hO : OpsOK Iv) {x3 : Int32} (hi1 : inb (x3 + 1) L = true) (hi2 : inb (x3 + 2) L = true) (hi3 : inb (x3 + 3) L = true) {w : Wd} (hI : Iv w) (kk : ∀ w2, Iv w2 → Xx E 4 g 855 [(0, .ref b), (1, .ref (ad g 0)), (2, .ref (ad g 92)), (3, .int x3)] [] w2) : Xx E 4 g 683 [(0, .ref b), (1, .ref (ad g 0)), (2, .ref (ad g 92)), (3, .int x3)] [] w := by
  obtain ⟨r, w1, w2, h1, h2, hI2⟩ := hO.2.2.2.2.2.2.2.2.2.2.2.2.2.2.2.2.2.2.2.2.2.2.1 (xs (x3 + 1).toNatClampNeg) (xs (x3 + 2).toNatClampNeg) w hI
  refine x_aload_n C dL_law_683 1 rfl rfl ?_
  refine x_aload_n C dL_law_684 0 rfl rfl ?_
  refine x_iload_n C dL_law_685 3 rfl rfl ?_
  refine x_iconst (v := 1) C dL_law_686 (by decide) ?_
  refine x_iadd C dL_law_687 ?_
  refine x_sld C hB hX hbl hi1 dL_law_688 ?_
  refine x_aload_n C dL_law_689 0 rfl rfl ?_
  refine x_iload_n C dL_law_690 3 rfl rfl ?_
  refine x_iconst (v := 2) C dL_law_691 (by decide) ?_
  refine x_iadd C dL_law_692 ?_
  refine x_sld C hB hX hbl hi2 dL_law_693 ?_
  refine x_callV (As := [.int (xs (x3 + 1).toNatClampNeg), .int (xs (x3 + 2).toNatClampNeg)]) C (c_X5_weights E.l g (xs (x3 + 1).toNatClampNeg) (xs (x3 + 2).toNatClampNeg) w h1) k_X5_weights kd_0 (by decide) rfl rfl lw_m101 rfl rfl ⟨Nat.le_of_ble_eq_true rfl, Nat.le_of_ble_eq_true rfl⟩ rfl rfl (Nat.le_of_ble_eq_true rfl) dL_law_694 ?_
  refine x_aload_n C dL_law_697 2 rfl rfl ?_
  refine x_aload_n C dL_law_698 0 rfl rfl ?_
  refine x_iload_n C dL_law_699 3 rfl rfl ?_
  refine x_iconst (v := 1) C dL_law_700 (by decide) ?_
  refine x_iadd C dL_law_701 ?_
  refine x_sld C hB hX hbl hi1 dL_law_702 ?_
  refine x_aload_n C dL_law_703 0 rfl rfl ?_
  refine x_iload_n C dL_law_704 3 rfl rfl ?_
  refine x_iconst (v := 2) C dL_law_705 (by decide) ?_
  refine x_iadd C dL_law_706 ?_
  refine x_sld C hB hX hbl hi2 dL_law_707 ?_
  refine x_callV (As := [.int (xs (x3 + 1).toNatClampNeg), .int (xs (x3 + 2).toNatClampNeg)]) C (c_X6_weights E.l g (xs (x3 + 1).toNatClampNeg) (xs (x3 + 2).toNatClampNeg) w1 h2) k_X6_weights kd_92 (by decide) rfl rfl lw_m104 rfl rfl ⟨Nat.le_of_ble_eq_true rfl, Nat.le_of_ble_eq_true rfl⟩ rfl rfl (Nat.le_of_ble_eq_true rfl) dL_law_708 ?_
  exact x_icmp_eq (tgt := 855) C dL_law_711 (by decide) (fun _ => kk w2 hI2) (fun h => absurd rfl h)
set_option maxRecDepth 20000 in
theorem law_case22 (C : Ctx E RL code room_1 4 g) (hB : E.s.heap.size = g.2.1) (hX : va_X b L xs E.s E.s.heap) (hbl : b < E.s.heap.size) (hO : OpsOK Iv) {x3 : Int32} (hi1 : inb (x3 + 1) L = true) (hi2 : inb (x3 + 2) L = true) (hi3 : inb (x3 + 3) L = true) {w : Wd} (hI : Iv w) (kk : ∀ w2, Iv w2 → Xx E 4 g 855 [(0, .ref b), (1, .ref (ad g 0)), (2, .ref (ad g 92)), (3, .int x3)] [] w2) : Xx E 4 g 716 [(0, .ref b), (1, .ref (ad g 0)), (2, .ref (ad g 92)), (3, .int x3)] [] w := by
  obtain ⟨r, w1, w2, h1, h2, hI2⟩ := hO.2.2.2.2.2.2.2.2.2.2.2.2.2.2.2.2.2.2.2.2.2.2.2.1 (xs (x3 + 1).toNatClampNeg) w hI
  refine x_aload_n C dL_law_716 1 rfl rfl ?_
  refine x_aload_n C dL_law_717 0 rfl rfl ?_
  refine x_iload_n C dL_law_718 3 rfl rfl ?_
  refine x_iconst (v := 1) C dL_law_719 (by decide) ?_
  refine x_iadd C dL_law_720 ?_
  refine x_sld C hB hX hbl hi1 dL_law_721 ?_
  refine x_callV (As := [.int (xs (x3 + 1).toNatClampNeg)]) C (c_X5_look E.l g (xs (x3 + 1).toNatClampNeg) w h1) k_X5_look kd_0 (by decide) rfl rfl lw_m105 rfl rfl ⟨Nat.le_of_ble_eq_true rfl, Nat.le_of_ble_eq_true rfl⟩ rfl rfl (Nat.le_of_ble_eq_true rfl) dL_law_722 ?_
  refine x_aload_n C dL_law_725 2 rfl rfl ?_
  refine x_aload_n C dL_law_726 0 rfl rfl ?_
  refine x_iload_n C dL_law_727 3 rfl rfl ?_
  refine x_iconst (v := 1) C dL_law_728 (by decide) ?_
  refine x_iadd C dL_law_729 ?_
  refine x_sld C hB hX hbl hi1 dL_law_730 ?_
  refine x_callV (As := [.int (xs (x3 + 1).toNatClampNeg)]) C (c_X6_look E.l g (xs (x3 + 1).toNatClampNeg) w1 h2) k_X6_look kd_92 (by decide) rfl rfl lw_m108 rfl rfl ⟨Nat.le_of_ble_eq_true rfl, Nat.le_of_ble_eq_true rfl⟩ rfl rfl (Nat.le_of_ble_eq_true rfl) dL_law_731 ?_
  exact x_icmp_eq (tgt := 855) C dL_law_734 (by decide) (fun _ => kk w2 hI2) (fun h => absurd rfl h)
set_option maxRecDepth 20000 in
theorem law_case23 (C : Ctx E RL code room_1 4 g) (hB : E.s.heap.size = g.2.1) (hX : va_X b L xs E.s E.s.heap) (hbl : b < E.s.heap.size) (hO : OpsOK Iv) {x3 : Int32} (hi1 : inb (x3 + 1) L = true) (hi2 : inb (x3 + 2) L = true) (hi3 : inb (x3 + 3) L = true) {w : Wd} (hI : Iv w) (kk : ∀ w2, Iv w2 → Xx E 4 g 855 [(0, .ref b), (1, .ref (ad g 0)), (2, .ref (ad g 92)), (3, .int x3)] [] w2) : Xx E 4 g 739 [(0, .ref b), (1, .ref (ad g 0)), (2, .ref (ad g 92)), (3, .int x3)] [] w := by
  obtain ⟨r, w1, w2, h1, h2, hI2⟩ := hO.2.2.2.2.2.2.2.2.2.2.2.2.2.2.2.2.2.2.2.2.2.2.2.2.1 (xs (x3 + 1).toNatClampNeg) (xs (x3 + 2).toNatClampNeg) w hI
  refine x_aload_n C dL_law_739 1 rfl rfl ?_
  refine x_aload_n C dL_law_740 0 rfl rfl ?_
  refine x_iload_n C dL_law_741 3 rfl rfl ?_
  refine x_iconst (v := 1) C dL_law_742 (by decide) ?_
  refine x_iadd C dL_law_743 ?_
  refine x_sld C hB hX hbl hi1 dL_law_744 ?_
  refine x_aload_n C dL_law_745 0 rfl rfl ?_
  refine x_iload_n C dL_law_746 3 rfl rfl ?_
  refine x_iconst (v := 2) C dL_law_747 (by decide) ?_
  refine x_iadd C dL_law_748 ?_
  refine x_sld C hB hX hbl hi2 dL_law_749 ?_
  refine x_callV (As := [.int (xs (x3 + 1).toNatClampNeg), .int (xs (x3 + 2).toNatClampNeg)]) C (c_X5_rate E.l g (xs (x3 + 1).toNatClampNeg) (xs (x3 + 2).toNatClampNeg) w h1) k_X5_rate kd_0 (by decide) rfl rfl lw_m109 rfl rfl ⟨Nat.le_of_ble_eq_true rfl, Nat.le_of_ble_eq_true rfl⟩ rfl rfl (Nat.le_of_ble_eq_true rfl) dL_law_750 ?_
  refine x_aload_n C dL_law_753 2 rfl rfl ?_
  refine x_aload_n C dL_law_754 0 rfl rfl ?_
  refine x_iload_n C dL_law_755 3 rfl rfl ?_
  refine x_iconst (v := 1) C dL_law_756 (by decide) ?_
  refine x_iadd C dL_law_757 ?_
  refine x_sld C hB hX hbl hi1 dL_law_758 ?_
  refine x_aload_n C dL_law_759 0 rfl rfl ?_
  refine x_iload_n C dL_law_760 3 rfl rfl ?_
  refine x_iconst (v := 2) C dL_law_761 (by decide) ?_
  refine x_iadd C dL_law_762 ?_
  refine x_sld C hB hX hbl hi2 dL_law_763 ?_
  refine x_callV (As := [.int (xs (x3 + 1).toNatClampNeg), .int (xs (x3 + 2).toNatClampNeg)]) C (c_X6_rate E.l g (xs (x3 + 1).toNatClampNeg) (xs (x3 + 2).toNatClampNeg) w1 h2) k_X6_rate kd_92 (by decide) rfl rfl lw_m112 rfl rfl ⟨Nat.le_of_ble_eq_true rfl, Nat.le_of_ble_eq_true rfl⟩ rfl rfl (Nat.le_of_ble_eq_true rfl) dL_law_764 ?_
  exact x_icmp_eq (tgt := 855) C dL_law_767 (by decide) (fun _ => kk w2 hI2) (fun h => absurd rfl h)
set_option maxRecDepth 20000 in
theorem law_case24 (C : Ctx E RL code room_1 4 g) (hB : E.s.heap.size = g.2.1) (hX : va_X b L xs E.s E.s.heap) (hbl : b < E.s.heap.size) (hO : OpsOK Iv) {x3 : Int32} (hi1 : inb (x3 + 1) L = true) (hi2 : inb (x3 + 2) L = true) (hi3 : inb (x3 + 3) L = true) {w : Wd} (hI : Iv w) (kk : ∀ w2, Iv w2 → Xx E 4 g 855 [(0, .ref b), (1, .ref (ad g 0)), (2, .ref (ad g 92)), (3, .int x3)] [] w2) : Xx E 4 g 772 [(0, .ref b), (1, .ref (ad g 0)), (2, .ref (ad g 92)), (3, .int x3)] [] w := by
  obtain ⟨r, w1, w2, h1, h2, hI2⟩ := hO.2.2.2.2.2.2.2.2.2.2.2.2.2.2.2.2.2.2.2.2.2.2.2.2.2.1 (xs (x3 + 1).toNatClampNeg) w hI
  refine x_aload_n C dL_law_772 1 rfl rfl ?_
  refine x_aload_n C dL_law_773 0 rfl rfl ?_
  refine x_iload_n C dL_law_774 3 rfl rfl ?_
  refine x_iconst (v := 1) C dL_law_775 (by decide) ?_
  refine x_iadd C dL_law_776 ?_
  refine x_sld C hB hX hbl hi1 dL_law_777 ?_
  refine x_callV (As := [.int (xs (x3 + 1).toNatClampNeg)]) C (c_X5_keep E.l g (xs (x3 + 1).toNatClampNeg) w h1) k_X5_keep kd_0 (by decide) rfl rfl lw_m113 rfl rfl ⟨Nat.le_of_ble_eq_true rfl, Nat.le_of_ble_eq_true rfl⟩ rfl rfl (Nat.le_of_ble_eq_true rfl) dL_law_778 ?_
  refine x_aload_n C dL_law_781 2 rfl rfl ?_
  refine x_aload_n C dL_law_782 0 rfl rfl ?_
  refine x_iload_n C dL_law_783 3 rfl rfl ?_
  refine x_iconst (v := 1) C dL_law_784 (by decide) ?_
  refine x_iadd C dL_law_785 ?_
  refine x_sld C hB hX hbl hi1 dL_law_786 ?_
  refine x_callV (As := [.int (xs (x3 + 1).toNatClampNeg)]) C (c_X6_keep E.l g (xs (x3 + 1).toNatClampNeg) w1 h2) k_X6_keep kd_92 (by decide) rfl rfl lw_m116 rfl rfl ⟨Nat.le_of_ble_eq_true rfl, Nat.le_of_ble_eq_true rfl⟩ rfl rfl (Nat.le_of_ble_eq_true rfl) dL_law_787 ?_
  exact x_icmp_eq (tgt := 855) C dL_law_790 (by decide) (fun _ => kk w2 hI2) (fun h => absurd rfl h)
set_option maxRecDepth 20000 in
theorem law_case25 (C : Ctx E RL code room_1 4 g) (hB : E.s.heap.size = g.2.1) (hX : va_X b L xs E.s E.s.heap) (hbl : b < E.s.heap.size) (hO : OpsOK Iv) {x3 : Int32} (hi1 : inb (x3 + 1) L = true) (hi2 : inb (x3 + 2) L = true) (hi3 : inb (x3 + 3) L = true) {w : Wd} (hI : Iv w) (kk : ∀ w2, Iv w2 → Xx E 4 g 855 [(0, .ref b), (1, .ref (ad g 0)), (2, .ref (ad g 92)), (3, .int x3)] [] w2) : Xx E 4 g 795 [(0, .ref b), (1, .ref (ad g 0)), (2, .ref (ad g 92)), (3, .int x3)] [] w := by
  obtain ⟨r, w1, w2, h1, h2, hI2⟩ := hO.2.2.2.2.2.2.2.2.2.2.2.2.2.2.2.2.2.2.2.2.2.2.2.2.2.2.1 (xs (x3 + 1).toNatClampNeg) w hI
  refine x_aload_n C dL_law_795 1 rfl rfl ?_
  refine x_aload_n C dL_law_796 0 rfl rfl ?_
  refine x_iload_n C dL_law_797 3 rfl rfl ?_
  refine x_iconst (v := 1) C dL_law_798 (by decide) ?_
  refine x_iadd C dL_law_799 ?_
  refine x_sld C hB hX hbl hi1 dL_law_800 ?_
  refine x_callV (As := [.int (xs (x3 + 1).toNatClampNeg)]) C (c_X5_back E.l g (xs (x3 + 1).toNatClampNeg) w h1) k_X5_back kd_0 (by decide) rfl rfl lw_m117 rfl rfl ⟨Nat.le_of_ble_eq_true rfl, Nat.le_of_ble_eq_true rfl⟩ rfl rfl (Nat.le_of_ble_eq_true rfl) dL_law_801 ?_
  refine x_aload_n C dL_law_804 2 rfl rfl ?_
  refine x_aload_n C dL_law_805 0 rfl rfl ?_
  refine x_iload_n C dL_law_806 3 rfl rfl ?_
  refine x_iconst (v := 1) C dL_law_807 (by decide) ?_
  refine x_iadd C dL_law_808 ?_
  refine x_sld C hB hX hbl hi1 dL_law_809 ?_
  refine x_callV (As := [.int (xs (x3 + 1).toNatClampNeg)]) C (c_X6_back E.l g (xs (x3 + 1).toNatClampNeg) w1 h2) k_X6_back kd_92 (by decide) rfl rfl lw_m120 rfl rfl ⟨Nat.le_of_ble_eq_true rfl, Nat.le_of_ble_eq_true rfl⟩ rfl rfl (Nat.le_of_ble_eq_true rfl) dL_law_810 ?_
  exact x_icmp_eq (tgt := 855) C dL_law_813 (by decide) (fun _ => kk w2 hI2) (fun h => absurd rfl h)
set_option maxRecDepth 20000 in
theorem law_case26 (C : Ctx E RL code room_1 4 g) (hB : E.s.heap.size = g.2.1) (hX : va_X b L xs E.s E.s.heap) (hbl : b < E.s.heap.size) (hO : OpsOK Iv) {x3 : Int32} (hi1 : inb (x3 + 1) L = true) (hi2 : inb (x3 + 2) L = true) (hi3 : inb (x3 + 3) L = true) {w : Wd} (hI : Iv w) (kk : ∀ w2, Iv w2 → Xx E 4 g 855 [(0, .ref b), (1, .ref (ad g 0)), (2, .ref (ad g 92)), (3, .int x3)] [] w2) : Xx E 4 g 818 [(0, .ref b), (1, .ref (ad g 0)), (2, .ref (ad g 92)), (3, .int x3)] [] w := by
  obtain ⟨r, w1, w2, h1, h2, hI2⟩ := hO.2.2.2.2.2.2.2.2.2.2.2.2.2.2.2.2.2.2.2.2.2.2.2.2.2.2.2.1 (xs (x3 + 1).toNatClampNeg) w hI
  refine x_aload_n C dL_law_818 1 rfl rfl ?_
  refine x_aload_n C dL_law_819 0 rfl rfl ?_
  refine x_iload_n C dL_law_820 3 rfl rfl ?_
  refine x_iconst (v := 1) C dL_law_821 (by decide) ?_
  refine x_iadd C dL_law_822 ?_
  refine x_sld C hB hX hbl hi1 dL_law_823 ?_
  refine x_callV (As := [.int (xs (x3 + 1).toNatClampNeg)]) C (c_X5_count E.l g (xs (x3 + 1).toNatClampNeg) w h1) k_X5_count kd_0 (by decide) rfl rfl lw_m121 rfl rfl ⟨Nat.le_of_ble_eq_true rfl, Nat.le_of_ble_eq_true rfl⟩ rfl rfl (Nat.le_of_ble_eq_true rfl) dL_law_824 ?_
  refine x_aload_n C dL_law_827 2 rfl rfl ?_
  refine x_aload_n C dL_law_828 0 rfl rfl ?_
  refine x_iload_n C dL_law_829 3 rfl rfl ?_
  refine x_iconst (v := 1) C dL_law_830 (by decide) ?_
  refine x_iadd C dL_law_831 ?_
  refine x_sld C hB hX hbl hi1 dL_law_832 ?_
  refine x_callV (As := [.int (xs (x3 + 1).toNatClampNeg)]) C (c_X6_count E.l g (xs (x3 + 1).toNatClampNeg) w1 h2) k_X6_count kd_92 (by decide) rfl rfl lw_m124 rfl rfl ⟨Nat.le_of_ble_eq_true rfl, Nat.le_of_ble_eq_true rfl⟩ rfl rfl (Nat.le_of_ble_eq_true rfl) dL_law_833 ?_
  exact x_icmp_eq (tgt := 855) C dL_law_836 (by decide) (fun _ => kk w2 hI2) (fun h => absurd rfl h)
set_option maxRecDepth 20000 in
theorem law_case27 (C : Ctx E RL code room_1 4 g) (hB : E.s.heap.size = g.2.1) (hX : va_X b L xs E.s E.s.heap) (hbl : b < E.s.heap.size) (hO : OpsOK Iv) {x3 : Int32} (hi1 : inb (x3 + 1) L = true) (hi2 : inb (x3 + 2) L = true) (hi3 : inb (x3 + 3) L = true) {w : Wd} (hI : Iv w) (kk : ∀ w2, Iv w2 → Xx E 4 g 855 [(0, .ref b), (1, .ref (ad g 0)), (2, .ref (ad g 92)), (3, .int x3)] [] w2) : Xx E 4 g 841 [(0, .ref b), (1, .ref (ad g 0)), (2, .ref (ad g 92)), (3, .int x3)] [] w := by
  obtain ⟨r, w1, w2, h1, h2, hI2⟩ := hO.2.2.2.2.2.2.2.2.2.2.2.2.2.2.2.2.2.2.2.2.2.2.2.2.2.2.2.2 w hI
  refine x_aload_n C dL_law_841 1 rfl rfl ?_
  refine x_callV (As := []) C (c_X5_trace E.l g w h1) k_X5_trace kd_0 (by decide) rfl rfl lw_m125 rfl rfl ⟨Nat.le_of_ble_eq_true rfl, Nat.le_of_ble_eq_true rfl⟩ rfl rfl (Nat.le_of_ble_eq_true rfl) dL_law_842 ?_
  refine x_aload_n C dL_law_845 2 rfl rfl ?_
  refine x_callV (As := []) C (c_X6_trace E.l g w1 h2) k_X6_trace kd_92 (by decide) rfl rfl lw_m129 rfl rfl ⟨Nat.le_of_ble_eq_true rfl, Nat.le_of_ble_eq_true rfl⟩ rfl rfl (Nat.le_of_ble_eq_true rfl) dL_law_846 ?_
  refine x_lcmp C dL_law_849 ?_
  exact x_if_eq (tgt := 855) C dL_law_850 (by decide) (fun _ => kk w2 hI2) (fun h => absurd (lg_cmp_self r) h)
theorem lo_sub {L : Nat} (hL : L ≤ 256) : (nI L - 4).toInt = (L : Int) - 4 := by
  rw [Int32.toInt_sub, nI_toInt (by omega)]
  show ((L : Int) - 4).bmod (2 ^ 32) = _
  rw [Int.bmod_eq_of_le (by omega) (by omega)]
theorem lo_inb {L k j : Nat} (hL : L ≤ 256) (h : 4 * k + j < L) : inb (nI (4 * k) + nI j) L = true := by
  rw [nI_add]
  unfold inb
  rw [nI_clamp (by omega)]
  have h1 : ¬ nI (4 * k + j) < 0 := nI_pos (by omega)
  simp [h1]
  omega
set_option maxRecDepth 20000 in
theorem law_loop (C : Ctx E RL code room_1 4 g) (hB : E.s.heap.size = g.2.1) (hX : va_X b L xs E.s E.s.heap) (hbl : b < E.s.heap.size) (hL : L ≤ 256) (hO : OpsOK Iv) (hone : ∀ w, Xx E 4 g 862 [] [.int 1] w) : ∀ (n k : Nat) (w : Wd), L < 4 * (k + n) + 4 → 4 * k ≤ 260 → Iv w → Xx E 4 g 18 [(0, .ref b), (1, .ref (ad g 0)), (2, .ref (ad g 92)), (3, .int (nI (4 * k)))] [] w := by
  intro n
  induction n with
  | zero =>
    intro k w h1 h2 hI
    refine x_iload_n C dL_law_18 3 rfl rfl ?_
    refine x_aload_n C dL_law_19 0 rfl rfl ?_
    refine x_slen C hB hX hbl dL_law_20 ?_
    refine x_iconst (v := 4) C dL_law_21 (by decide) ?_
    refine x_isub C dL_law_22 ?_
    refine x_icmp_gt (tgt := 861) C dL_law_23 (by decide) (fun _ => ?_) (fun c => ?_)
    · refine x_sub (L' := []) [] rfl ?_
      refine x_iconst (v := 1) C dL_law_861 (by decide) ?_
      exact hone w
    · exfalso
      apply c
      rw [Int32.lt_iff_toInt_lt, nI_toInt (by omega)]
      have := lo_sub hL
      show (nI L - 4).toInt < _
      omega
  | succ n ih =>
    intro k w h1 h2 hI
    refine x_iload_n C dL_law_18 3 rfl rfl ?_
    refine x_aload_n C dL_law_19 0 rfl rfl ?_
    refine x_slen C hB hX hbl dL_law_20 ?_
    refine x_iconst (v := 4) C dL_law_21 (by decide) ?_
    refine x_isub C dL_law_22 ?_
    refine x_icmp_gt (tgt := 861) C dL_law_23 (by decide) (fun _ => ?_) (fun c => ?_)
    · refine x_sub (L' := []) [] rfl ?_
      refine x_iconst (v := 1) C dL_law_861 (by decide) ?_
      exact hone w
    · have hk : 4 * k + 4 ≤ L := by
        rcases Nat.lt_or_ge L (4 * k + 4) with q | q
        · exfalso
          apply c
          rw [Int32.lt_iff_toInt_lt, nI_toInt (by omega)]
          have := lo_sub hL
          show (nI L - 4).toInt < _
          omega
        · exact q
      have hi0 : inb (nI (4 * k)) L = true := by
        have h := lo_inb (j := 0) hL (by omega : 4 * k + 0 < L)
        rw [nI_add] at h
        exact h
      have hi1 : inb (nI (4 * k) + 1) L = true := lo_inb (j := 1) hL (by omega)
      have hi2 : inb (nI (4 * k) + 2) L = true := lo_inb (j := 2) hL (by omega)
      have hi3 : inb (nI (4 * k) + 3) L = true := lo_inb (j := 3) hL (by omega)
      have kk : ∀ w2, Iv w2 → Xx E 4 g 855 [(0, .ref b), (1, .ref (ad g 0)), (2, .ref (ad g 92)), (3, .int (nI (4 * k)))] [] w2 := by
        intro w2 hI2
        refine x_iinc (L' := [(3, .int (nI (4 * (k + 1)))), (0, .ref b), (1, .ref (ad g 0)), (2, .ref (ad g 92))]) C dL_law_855 3 rfl (v := nI (4 * (k + 1))) ?_ (by decide) rfl ?_
        · exact nI_add (4 * k) 4
        · refine x_goto (tgt := 18) C dL_law_858 (by decide) ?_
          refine x_sub (L' := [(0, .ref b), (1, .ref (ad g 0)), (2, .ref (ad g 92)), (3, .int (nI (4 * (k + 1))))]) [1, 2, 3, 0] rfl ?_
          exact ih (k + 1) w2 (by omega) (by omega) hI2
      refine x_aload_n C dL_law_26 0 rfl rfl ?_
      refine x_iload_n C dL_law_27 3 rfl rfl ?_
      refine x_sld C hB hX hbl hi0 dL_law_28 ?_
      refine x_bipush (v := 31) C dL_law_29 (by decide) ?_
      refine x_iand C dL_law_31 ?_
      obtain ⟨y, ey⟩ : ∃ y : Int32, y = xs (nI (4 * k)).toNatClampNeg &&& 31 := ⟨_, rfl⟩
      refine x_top ey ?_
      by_cases c0 : y = 0
      · refine x_tableIn (off := 128) (tgt := 160) C dL_law_32 (by rw [c0]; decide) (by rw [c0]; decide) (by rw [c0]; rfl) (by decide) ?_
        exact law_case0 C hB hX hbl hO hi1 hi2 hi3 hI kk
      by_cases c1 : y = 1
      · refine x_tableIn (off := 151) (tgt := 183) C dL_law_32 (by rw [c1]; decide) (by rw [c1]; decide) (by rw [c1]; rfl) (by decide) ?_
        exact law_case1 C hB hX hbl hO hi1 hi2 hi3 hI kk
      by_cases c2 : y = 2
      · refine x_tableIn (off := 164) (tgt := 196) C dL_law_32 (by rw [c2]; decide) (by rw [c2]; decide) (by rw [c2]; rfl) (by decide) ?_
        exact law_case2 C hB hX hbl hO hi1 hi2 hi3 hI kk
      by_cases c3 : y = 3
      · refine x_tableIn (off := 177) (tgt := 209) C dL_law_32 (by rw [c3]; decide) (by rw [c3]; decide) (by rw [c3]; rfl) (by decide) ?_
        exact law_case3 C hB hX hbl hO hi1 hi2 hi3 hI kk
      by_cases c4 : y = 4
      · refine x_tableIn (off := 210) (tgt := 242) C dL_law_32 (by rw [c4]; decide) (by rw [c4]; decide) (by rw [c4]; rfl) (by decide) ?_
        exact law_case4 C hB hX hbl hO hi1 hi2 hi3 hI kk
      by_cases c5 : y = 5
      · refine x_tableIn (off := 233) (tgt := 265) C dL_law_32 (by rw [c5]; decide) (by rw [c5]; decide) (by rw [c5]; rfl) (by decide) ?_
        exact law_case5 C hB hX hbl hO hi1 hi2 hi3 hI kk
      by_cases c6 : y = 6
      · refine x_tableIn (off := 256) (tgt := 288) C dL_law_32 (by rw [c6]; decide) (by rw [c6]; decide) (by rw [c6]; rfl) (by decide) ?_
        exact law_case6 C hB hX hbl hO hi1 hi2 hi3 hI kk
      by_cases c7 : y = 7
      · refine x_tableIn (off := 279) (tgt := 311) C dL_law_32 (by rw [c7]; decide) (by rw [c7]; decide) (by rw [c7]; rfl) (by decide) ?_
        exact law_case7 C hB hX hbl hO hi1 hi2 hi3 hI kk
      by_cases c8 : y = 8
      · refine x_tableIn (off := 292) (tgt := 324) C dL_law_32 (by rw [c8]; decide) (by rw [c8]; decide) (by rw [c8]; rfl) (by decide) ?_
        exact law_case8 C hB hX hbl hO hi1 hi2 hi3 hI kk
      by_cases c9 : y = 9
      · refine x_tableIn (off := 315) (tgt := 347) C dL_law_32 (by rw [c9]; decide) (by rw [c9]; decide) (by rw [c9]; rfl) (by decide) ?_
        exact law_case9 C hB hX hbl hO hi1 hi2 hi3 hI kk
      by_cases c10 : y = 10
      · refine x_tableIn (off := 338) (tgt := 370) C dL_law_32 (by rw [c10]; decide) (by rw [c10]; decide) (by rw [c10]; rfl) (by decide) ?_
        exact law_case10 C hB hX hbl hO hi1 hi2 hi3 hI kk
      by_cases c11 : y = 11
      · refine x_tableIn (off := 361) (tgt := 393) C dL_law_32 (by rw [c11]; decide) (by rw [c11]; decide) (by rw [c11]; rfl) (by decide) ?_
        exact law_case11 C hB hX hbl hO hi1 hi2 hi3 hI kk
      by_cases c12 : y = 12
      · refine x_tableIn (off := 374) (tgt := 406) C dL_law_32 (by rw [c12]; decide) (by rw [c12]; decide) (by rw [c12]; rfl) (by decide) ?_
        exact law_case12 C hB hX hbl hO hi1 hi2 hi3 hI kk
      by_cases c13 : y = 13
      · refine x_tableIn (off := 407) (tgt := 439) C dL_law_32 (by rw [c13]; decide) (by rw [c13]; decide) (by rw [c13]; rfl) (by decide) ?_
        exact law_case13 C hB hX hbl hO hi1 hi2 hi3 hI kk
      by_cases c14 : y = 14
      · refine x_tableIn (off := 430) (tgt := 462) C dL_law_32 (by rw [c14]; decide) (by rw [c14]; decide) (by rw [c14]; rfl) (by decide) ?_
        exact law_case14 C hB hX hbl hO hi1 hi2 hi3 hI kk
      by_cases c15 : y = 15
      · refine x_tableIn (off := 463) (tgt := 495) C dL_law_32 (by rw [c15]; decide) (by rw [c15]; decide) (by rw [c15]; rfl) (by decide) ?_
        exact law_case15 C hB hX hbl hO hi1 hi2 hi3 hI kk
      by_cases c16 : y = 16
      · refine x_tableIn (off := 496) (tgt := 528) C dL_law_32 (by rw [c16]; decide) (by rw [c16]; decide) (by rw [c16]; rfl) (by decide) ?_
        exact law_case16 C hB hX hbl hO hi1 hi2 hi3 hI kk
      by_cases c17 : y = 17
      · refine x_tableIn (off := 519) (tgt := 551) C dL_law_32 (by rw [c17]; decide) (by rw [c17]; decide) (by rw [c17]; rfl) (by decide) ?_
        exact law_case17 C hB hX hbl hO hi1 hi2 hi3 hI kk
      by_cases c18 : y = 18
      · refine x_tableIn (off := 552) (tgt := 584) C dL_law_32 (by rw [c18]; decide) (by rw [c18]; decide) (by rw [c18]; rfl) (by decide) ?_
        exact law_case18 C hB hX hbl hO hi1 hi2 hi3 hI kk
      by_cases c19 : y = 19
      · refine x_tableIn (off := 595) (tgt := 627) C dL_law_32 (by rw [c19]; decide) (by rw [c19]; decide) (by rw [c19]; rfl) (by decide) ?_
        exact law_case19 C hB hX hbl hO hi1 hi2 hi3 hI kk
      by_cases c20 : y = 20
      · refine x_tableIn (off := 638) (tgt := 670) C dL_law_32 (by rw [c20]; decide) (by rw [c20]; decide) (by rw [c20]; rfl) (by decide) ?_
        exact law_case20 C hB hX hbl hO hi1 hi2 hi3 hI kk
      by_cases c21 : y = 21
      · refine x_tableIn (off := 651) (tgt := 683) C dL_law_32 (by rw [c21]; decide) (by rw [c21]; decide) (by rw [c21]; rfl) (by decide) ?_
        exact law_case21 C hB hX hbl hO hi1 hi2 hi3 hI kk
      by_cases c22 : y = 22
      · refine x_tableIn (off := 684) (tgt := 716) C dL_law_32 (by rw [c22]; decide) (by rw [c22]; decide) (by rw [c22]; rfl) (by decide) ?_
        exact law_case22 C hB hX hbl hO hi1 hi2 hi3 hI kk
      by_cases c23 : y = 23
      · refine x_tableIn (off := 707) (tgt := 739) C dL_law_32 (by rw [c23]; decide) (by rw [c23]; decide) (by rw [c23]; rfl) (by decide) ?_
        exact law_case23 C hB hX hbl hO hi1 hi2 hi3 hI kk
      by_cases c24 : y = 24
      · refine x_tableIn (off := 740) (tgt := 772) C dL_law_32 (by rw [c24]; decide) (by rw [c24]; decide) (by rw [c24]; rfl) (by decide) ?_
        exact law_case24 C hB hX hbl hO hi1 hi2 hi3 hI kk
      by_cases c25 : y = 25
      · refine x_tableIn (off := 763) (tgt := 795) C dL_law_32 (by rw [c25]; decide) (by rw [c25]; decide) (by rw [c25]; rfl) (by decide) ?_
        exact law_case25 C hB hX hbl hO hi1 hi2 hi3 hI kk
      by_cases c26 : y = 26
      · refine x_tableIn (off := 786) (tgt := 818) C dL_law_32 (by rw [c26]; decide) (by rw [c26]; decide) (by rw [c26]; rfl) (by decide) ?_
        exact law_case26 C hB hX hbl hO hi1 hi2 hi3 hI kk
      by_cases c27 : y = 27
      · refine x_tableIn (off := 809) (tgt := 841) C dL_law_32 (by rw [c27]; decide) (by rw [c27]; decide) (by rw [c27]; rfl) (by decide) ?_
        exact law_case27 C hB hX hbl hO hi1 hi2 hi3 hI kk
      have t0 := lv_neT (a := 0) c0 (by decide)
      have t1 := lv_neT (a := 1) c1 (by decide)
      have t2 := lv_neT (a := 2) c2 (by decide)
      have t3 := lv_neT (a := 3) c3 (by decide)
      have t4 := lv_neT (a := 4) c4 (by decide)
      have t5 := lv_neT (a := 5) c5 (by decide)
      have t6 := lv_neT (a := 6) c6 (by decide)
      have t7 := lv_neT (a := 7) c7 (by decide)
      have t8 := lv_neT (a := 8) c8 (by decide)
      have t9 := lv_neT (a := 9) c9 (by decide)
      have t10 := lv_neT (a := 10) c10 (by decide)
      have t11 := lv_neT (a := 11) c11 (by decide)
      have t12 := lv_neT (a := 12) c12 (by decide)
      have t13 := lv_neT (a := 13) c13 (by decide)
      have t14 := lv_neT (a := 14) c14 (by decide)
      have t15 := lv_neT (a := 15) c15 (by decide)
      have t16 := lv_neT (a := 16) c16 (by decide)
      have t17 := lv_neT (a := 17) c17 (by decide)
      have t18 := lv_neT (a := 18) c18 (by decide)
      have t19 := lv_neT (a := 19) c19 (by decide)
      have t20 := lv_neT (a := 20) c20 (by decide)
      have t21 := lv_neT (a := 21) c21 (by decide)
      have t22 := lv_neT (a := 22) c22 (by decide)
      have t23 := lv_neT (a := 23) c23 (by decide)
      have t24 := lv_neT (a := 24) c24 (by decide)
      have t25 := lv_neT (a := 25) c25 (by decide)
      have t26 := lv_neT (a := 26) c26 (by decide)
      have t27 := lv_neT (a := 27) c27 (by decide)
      refine x_tableOut (tgt := 855) C dL_law_32 (by omega) (by decide) ?_
      exact kk w hI
end XLw
