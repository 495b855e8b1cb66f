theorem lg_f19 : Cond.fieldLink RX5 19 RX5 "told" "LDumplingPolls$Recipe;" ∈ gd_tbl := gd_in 271 (by decide +kernel) rfl
theorem lg_f29 : Cond.fieldLink RX5 29 RX5 "stew" "LDumplingPolls$Stew;" ∈ gd_tbl := gd_in 273 (by decide +kernel) rfl
theorem lg_m63 : Cond.methodLinkNest RX5 63 yX2_setAsAtFirst "DumplingPolls" ∈ ns_tbl := ns_in 262 (by decide +kernel) rfl
theorem lg_m66 : Cond.methodLinkNest RX5 66 yX4_begin "DumplingPolls" ∈ ns_tbl := ns_in 266 (by decide +kernel) rfl
theorem kZ_X2_setAsAtFirst : CalVZ yX2_setAsAtFirst cX2_setAsAtFirst 1 none 0 := ⟨⟨gd_in 265 (by decide +kernel) rfl, gd_in 85 (by decide +kernel) rfl, by decide +kernel⟩, gd_in 264 (by decide +kernel) rfl, gd_in 0 (by decide +kernel) rfl⟩
theorem kZ_X4_begin : CalVZ yX4_begin cX4_begin 3 none 1 := ⟨⟨gd_in 269 (by decide +kernel) rfl, gd_in 86 (by decide +kernel) rfl, by decide +kernel⟩, gd_in 268 (by decide +kernel) rfl, gd_in 1 (by decide +kernel) rfl⟩
def w0 : Wd := (fun _ _ => 0, fun _ => 0)
def zcells (g : Gx) (w : Wd) : List va_E := (List.range 92).map (fun k => encZ g k (w.1 k) (w.2 k))
theorem zcells_wl (g : Gx) (w : Wd) : wc g (zcells g w) = wlZ g w := by
  apply List.ext_getElem?
  intro i
  rw [wc_get]
  unfold zcells wlZ
  rw [List.getElem?_map, List.getElem?_map]
  rcases Nat.lt_or_ge i 92 with h | h
  · rw [List.getElem?_range h]
    rfl
  · rw [List.getElem?_eq_none (by rw [List.length_range]; exact h)]
    rfl
theorem arr_ring {g : Gx} {H : Heap} {a : Nat} {f f2 : Nat → Option Nat} (h : va_at g.1 vwCl (a, aQ g f) H) (e : ∀ j, j < 10 → f j = f2 j) : va_at g.1 vwCl (a, aQ g f2) H := by
  show H[a]? = some (vp_cell _ _)
  have h1 : H[a]? = some (vp_cell g.2.2.2.2 (10, .inr (.inr (.inr (.inr f))))) := h
  rw [h1, vp_cell_q, vp_cell_q]
  unfold arrV
  have e2 : (Array.ofFn (n := 10) fun j => va_rf (f j.val)) = Array.ofFn (n := 10) fun j => va_rf (f2 j.val) := congrArg _ (funext fun j => by rw [e j.val j.isLt])
  rw [e2]
set_option maxRecDepth 100000 in
theorem dp_set (g : Gx) : (wlZ g w0).set 25 (ad g 25, (dpCells g).getD 25 (.inr (0, []))) = wc g (dpCells g) := by rfl
theorem dp_conv {g : Gx} {H : Heap} (h : va_P g.1 vwCl (wc g (dpCells g)) H) : va_P g.1 vwCl (wlZ g w0) H := by
  intro k q hk
  by_cases hk25 : k = 25
  · subst hk25
    have e1 := h 25 (ad g 25, (dpCells g).getD 25 (.inr (0, []))) rfl
    obtain ⟨-, rfl⟩ := wl_invZ hk
    refine arr_ring e1 (fun j hj => ?_)
    match j, hj with
    | 0, _ => rfl
    | 1, _ => rfl
    | 2, _ => rfl
    | 3, _ => rfl
    | 4, _ => rfl
    | 5, _ => rfl
    | 6, _ => rfl
    | 7, _ => rfl
    | 8, _ => rfl
    | 9, _ => rfl
    | j + 10, h => omega
  · refine h k q ?_
    rw [← dp_set, List.getElem?_set_ne (fun e => hk25 e.symm)]
    exact hk
set_option maxRecDepth 20000 in
theorem c_X5_init (l : Launch) (g : Gx) {u1 u2 : Unit} {wa w1 : Wd} (h1 : f_X2_setAsAtFirst 4 w0 = some (u1, wa)) (h2 : f_X4_begin 14 4 wa = some (u2, w1)) : MetC l yX5_init cX5_init 1 rm_X5_init g [.ref (ad g 0)] [.inr (5, [.null, .null, .null, .null, .null, .null, .null, .null, .int 0, .null, .null, .null, .long 0])] (zcells g w1) 91 728 := by
  refine metC_of (by decide) rfl (Nat.le_of_ble_eq_true rfl) (fun E hl C hs hAO hR => ?_)
  refine Xc_locals (L' := [(0, .ref (ad g 0))]) rfl ?_
  refine h_X5_init C hs hAO hR.2.2.2 ?_
  intro H locs ls hP hS hl
  have C2 : Ctx (E.p, E.l, E.e, E.R, E.s, E.m, E.args, E.below, E.meth, E.c, 91, 728, E.Q, ()) RX5 cX5_init rm_X5_init 1 g := ⟨C.1, C.2.1, C.2.2.1, C.2.2.2.1, C.2.2.2.2.1, C.2.2.2.2.2.1, C.2.2.2.2.2.2.1, Nat.le_of_ble_eq_true rfl, Nat.le_of_ble_eq_true rfl⟩
  have K : XxZ (E.p, E.l, E.e, E.R, E.s, E.m, E.args, E.below, E.meth, E.c, 91, 728, E.Q, ()) 1 g 119 [(0, .ref (ad g 0))] [] w0 := by
    refine x_aload_nZ C2 dX5_init_119 0 rfl rfl ?_
    refine xg_5_1Z C2 (rfl : kindOfZ 0 = 5) lg_f19 dX5_init_120 ?_
    refine x_callVNvZ (As := []) C2 (c_X2_setAsAtFirstZ E.l g 4 rfl w0 h1) kZ_X2_setAsAtFirst (rfl : kindOfZ 4 = 2) (by decide) rfl rfl lg_m63 rfl rfl ⟨Nat.le_of_ble_eq_true rfl, Nat.le_of_ble_eq_true rfl⟩ rfl rfl (Nat.le_of_ble_eq_true rfl) dX5_init_123 ?_
    refine x_aload_nZ C2 dX5_init_126 0 rfl rfl ?_
    refine xg_5_3Z C2 (rfl : kindOfZ 0 = 5) lg_f29 dX5_init_127 ?_
    refine x_aload_nZ C2 dX5_init_130 0 rfl rfl ?_
    refine xg_5_1Z C2 (rfl : kindOfZ 0 = 5) lg_f19 dX5_init_131 ?_
    refine x_callVNvZ (As := [.ref (ad g 4)]) C2 (c_X4_beginZ E.l g 14 4 rfl rfl wa h2) kZ_X4_begin (rfl : kindOfZ 14 = 4) (by decide) rfl rfl lg_m66 rfl rfl ⟨Nat.le_of_ble_eq_true rfl, Nat.le_of_ble_eq_true rfl⟩ rfl rfl (Nat.le_of_ble_eq_true rfl) dX5_init_134 ?_
    intro H locs ls hP hS hl
    show W E.p E.l E.e E.R E.s E.m E.args E.below E.meth E.c H locs 91 728 E.Q _
    rw [hR.1]
    exact W.vret C.1 C.2.1 hR.2.1 (fun t ht _ => ⟨rfl, by rw [ht, zcells_wl]; exact hP, hS.F ht⟩) hS.2.2 dX5_init_137 hR.2.2.1
  exact K H locs ls (dp_conv hP) hS hl
