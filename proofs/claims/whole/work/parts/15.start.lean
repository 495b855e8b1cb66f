theorem ws_i0 : Cond.instantiable RX0 3 ∈ gd_tbl := gd_in 220 (by decide +kernel) rfl
theorem ws_i1 : Cond.instantiable RX1 10 ∈ gd_tbl := gd_in 103 (by decide +kernel) rfl
theorem ws_i2 : Cond.instantiable RX2 8 ∈ gd_tbl := gd_in 142 (by decide +kernel) rfl
theorem ws_i3 : Cond.instantiable RX3 4 ∈ gd_tbl := gd_in 240 (by decide +kernel) rfl
theorem ws_i4 : Cond.instantiable RX4 6 ∈ gd_tbl := gd_in 189 (by decide +kernel) rfl
theorem ws_i5 : Cond.instantiable RX5 13 ∈ gd_tbl := gd_in 95 (by decide +kernel) rfl
theorem ws_i6 : Cond.instantiable RX6 31 ∈ gd_tbl := gd_in 709 (by decide +kernel) rfl
theorem ws_aI : Cond.arrayClass .int ∈ gd_tbl := gd_in 140 (by decide +kernel) rfl
theorem ws_aZ : Cond.arrayClass .boolean ∈ gd_tbl := gd_in 808 (by decide +kernel) rfl
theorem ws_aQ : Cond.arrayOver (.object "DumplingPolls$Stew") ∈ lw_tbl := List.mem_of_getElem? (i := 226) (by decide +kernel)
theorem ws_c7 : Cond.classLink RL 7 RX5 ∈ gd_tbl := gd_in 94 (by decide +kernel) rfl
theorem ws_c10 : Cond.classLink RL 10 RX6 ∈ gd_tbl := gd_in 708 (by decide +kernel) rfl
theorem ws_n5 : Cond.initialized RX5 ∈ gd_tbl := gd_in 83 (by decide +kernel) rfl
theorem ws_n6 : Cond.initialized RX6 ∈ gd_tbl := gd_in 89 (by decide +kernel) rfl
theorem ws_m9 : Cond.methodLink RL 9 yX5_init ∈ gd_tbl := gd_in 96 (by decide +kernel) rfl
theorem ws_m12 : Cond.methodLink RL 12 yX6_init ∈ gd_tbl := gd_in 710 (by decide +kernel) rfl
theorem kl_X5_init : Cal yX5_init cX5_init 1 none 0 := ⟨gd_in 98 (by decide +kernel) rfl, gd_in 83 (by decide +kernel) rfl, by decide +kernel⟩
theorem kn_X5_init : Cond.instanceMethod yX5_init ∈ gd_tbl := gd_in 97 (by decide +kernel) rfl
theorem kl_X6_init : Cal yX6_init cX6_init 1 none 0 := ⟨gd_in 712 (by decide +kernel) rfl, gd_in 89 (by decide +kernel) rfl, by decide +kernel⟩
theorem kn_X6_init : Cond.instanceMethod yX6_init ∈ gd_tbl := gd_in 711 (by decide +kernel) rfl
abbrev va_E_i (g : Gx) (r : Nat → Int32) : va_E := .inl (g.2.2.1, 26, .inl r)
theorem law_K {p : Program} {s : State} {m : MethodId} {meth : Method} {c : Code} {b L : Nat} {xs : Nat → Int32} (C0 : lw_At p s m meth c b L xs) : ∃ g : Gx, g.2.1 = s.heap.size ∧ Kk g s ∧ (∀ w ∈ gd_tbl, w.before #[Value.ref b] s = true) ∧ va_AO "DumplingPolls$Stew" s := by
  obtain ⟨-, -, -, -, -, hts, -, -, -, -⟩ := C0
  have hg : ∀ w ∈ gd_tbl, w.before #[Value.ref b] s = true := fun w h => hts w (List.mem_filter.mp h).1
  obtain ⟨c0, i0, k0⟩ := u_known hg iC0 (hg _ ws_i0)
  obtain ⟨c1, i1, k1⟩ := u_known hg iC1 (hg _ ws_i1)
  obtain ⟨c2, i2, k2⟩ := u_known hg iC2 (hg _ ws_i2)
  obtain ⟨c3, i3, k3⟩ := u_known hg iC3 (hg _ ws_i3)
  obtain ⟨c4, i4, k4⟩ := u_known hg iC4 (hg _ ws_i4)
  obtain ⟨c5, i5, k5⟩ := u_known hg iC5 (hg _ ws_i5)
  obtain ⟨c6, i6, k6⟩ := u_known hg iC6 (hg _ ws_i6)
  obtain ⟨a1, ka1, m1, f1, g1, h1⟩ := Cond.arrayClass_spec (hg _ ws_aI)
  obtain ⟨a2, ka2, m2, f2, g2, h2⟩ := Cond.arrayClass_spec (hg _ ws_aZ)
  obtain ⟨m3, a3, ka3, f3, e3, g3, h3, n3⟩ := Cond.arrayOver_spec (hts _ ws_aQ)
  refine ⟨((fun k => match k with | 0 => c0 | 1 => c1 | 2 => c2 | 3 => c3 | 4 => c4 | 5 => c5 | _ => c6, fun k => match k with | 0 => i0 | 1 => i1 | 2 => i2 | 3 => i3 | 4 => i4 | 5 => i5 | _ => i6), s.heap.size, a1, a2, a3), rfl, ⟨⟨?_, ?_⟩, fun w hw => va_Nw.of (ns_on hw) (hts w (List.mem_filter.mp hw).1)⟩, hg, hts _ ws_aQ⟩
  · intro k q hq
    match k, hq with
    | 0, hq => cases hq; exact k0
    | 1, hq => cases hq; exact k1
    | 2, hq => cases hq; exact k2
    | 3, hq => cases hq; exact k3
    | 4, hq => cases hq; exact k4
    | 5, hq => cases hq; exact k5
    | 6, hq => cases hq; exact k6
    | k + 7, hq => simp [vwCl] at hq
  · intro k q hq
    match k, hq with
    | 0, hq => cases hq; exact ⟨fun n z => ⟨fun _ h => (by cases h), ka1, g1, m1, h1⟩, f1⟩
    | 1, hq => cases hq; exact ⟨fun n z => ⟨fun _ h => (by cases h), ka2, g2, m2, h2⟩, f2⟩
    | 2, hq => cases hq; exact ⟨fun n z => ⟨fun _ h => (by cases h), ka3, g3, m3, h3⟩, ka3, m3, g3, h3, f3, n3⟩
    | k + 3, hq => simp at hq
theorem kindAll : ∀ k, k < 92 → kindOfZ k = kindOf k ∧ lenOfZ k = lenOf k ∧ kindOf k < 10 := by decide +kernel
theorem encZ_enc (g : Gx) {k : Nat} (h : k < 92) (r : Nat → Int32) (t : Int64) : encZ g k r t = enc g k r t := by
  obtain ⟨h1, h2, h3⟩ := kindAll k h
  unfold encZ enc
  rw [h1, h2]
  generalize kindOf k = z at h3
  match z, h3 with
  | 0, _ => rfl
  | 1, _ => rfl
  | 2, _ => rfl
  | 3, _ => rfl
  | 4, _ => rfl
  | 5, _ => rfl
  | 6, _ => rfl
  | 7, _ => rfl
  | 8, _ => rfl
  | 9, _ => rfl
  | z + 10, h => omega
theorem zlen (g : Gx) (w : Wd) : (zcells g w).length = 92 := by simp [zcells]
abbrev mCells (g : Gx) : List va_E := [.inr (6, [.int 0, .ref (ad g 93), .ref (ad g 94), .ref (ad g 95), .int 3, .int 1, .int 20, .ref (ad g 96), .ref (ad g 97), .int 0, .ref (ad g 98), .ref (ad g 99), .int 0, .ref (ad g 100), .long 0, .ref (ad g 101), .int 0, .int 0, .int 0, .int 0, .int 0, .int 0, .int 0, .int 0, .ref (ad g 102), .int 0, .int 0, .int 0, .ref (ad g 103), .ref (ad g 104), .ref (ad g 105)]), aI g 6, aI g 6, aI g 6, .inl (g.2.2.1, 26, .inl (upd (fun _ => 0) 1 3)), aI g 260, aI g 52, aZ g 2, aI g 18, aI g 120, aI g 24, aI g 26, aI g 64, aI g 11]
set_option maxRecDepth 100000 in
theorem world_all (g : Gx) (w : Wd) : wc g (zcells g w ++ mCells g) = wl g (wI w) := by
  apply List.ext_getElem?
  intro i
  rw [wc_get]
  rcases Nat.lt_or_ge i 106 with hi | hi
  · rw [wl_at hi]
    rcases Nat.lt_or_ge i 92 with h | h
    · rw [List.getElem?_append_left (by rw [zlen]; exact h)]
      unfold zcells
      rw [List.getElem?_map, List.getElem?_range h]
      show some (ad g i, encZ g i (w.1 i) (w.2 i)) = _
      rw [encZ_enc g h]
      have e1 : (wI w).1 i = w.1 i := funext fun j => if_pos h
      have e2 : (wI w).2 i = w.2 i := if_pos h
      rw [e1, e2]
    · rw [List.getElem?_append_right (by rw [zlen]; exact h), zlen]
      obtain ⟨j, rfl⟩ : ∃ j, i = 92 + j := ⟨i - 92, by omega⟩
      rw [Nat.add_sub_cancel_left]
      have hj : j < 14 := by omega
      match j, hj with
      | 0, _ => rfl
      | 1, _ => rfl
      | 2, _ => rfl
      | 3, _ => rfl
      | 4, _ =>
        refine congrArg (fun r => some (ad g 96, va_E_i g r)) ?_
        funext x
        by_cases hx : x = 1
        · subst hx; rfl
        · simp [upd, wI, hx]
      | 5, _ => rfl
      | 6, _ => rfl
      | 7, _ => rfl
      | 8, _ => rfl
      | 9, _ => rfl
      | 10, _ => rfl
      | 11, _ => rfl
      | 12, _ => rfl
      | 13, _ => rfl
      | j + 14, h => omega
  · rw [List.getElem?_eq_none (by rw [List.length_append, zlen]; exact hi), List.getElem?_eq_none (by rw [wl_len]; exact hi)]
    rfl
set_option maxHeartbeats 4000000 in
set_option maxRecDepth 100000 in
theorem start_of {Iv : Wd → Prop} (hO : OpsOK Iv) {p : Program} {e : Env} {s : State} {m : MethodId} {below : List Frame} {meth : Method} {c : Code} (l : Launch) (hflags : l.flags = flags0) {b L : Nat} {xs : Nat → Int32} (hL : L ≤ 256) (C0 : lw_At p s m meth c b L xs) : W p l e room_1 s m #[Value.ref b] below meth c s.heap [] 0 0 (lw_Z below #[Value.ref b] s) (entryFrame m ([Value.ref b] : List Value).toArray 4) := by
  obtain ⟨g, hgB, hKk, hgd, hAO⟩ := law_K C0
  obtain ⟨hx, hb, hr, hml, hown, hts, hX, hbl, hlocks, hgv⟩ := id C0
  obtain ⟨wa, w1, hi1, hi2, hIv⟩ := hO.1
  have C1 : Ctx (p, l, e, room_1, s, m, #[Value.ref b], below, meth, c, 0, 0, lw_Z below #[Value.ref b] s, ()) RL code room_1 4 g := ⟨hx, hb, hml, hown, hgd, hKk, rfl, Nat.le_of_ble_eq_true rfl, Nat.le_of_ble_eq_true rfl⟩
  have C2 : Ctx (p, l, e, room_1, s, m, #[Value.ref b], below, meth, c, 106, 1393, lw_Z below #[Value.ref b] s, ()) RL code room_1 4 g := ⟨hx, hb, hml, hown, hgd, hKk, rfl, Nat.le_of_ble_eq_true rfl, Nat.le_of_ble_eq_true rfl⟩
  have hs : s.heap.size = g.2.1 := hgB.symm
  have hone : ∀ w, Xx (p, l, e, room_1, s, m, #[Value.ref b], below, meth, c, 106, 1393, lw_Z below #[Value.ref b] s, ()) 4 g 862 [] [.int 1] w := by
    intro w H locs ls hP hS hl
    refine va_forget (fun q hq => by rw [hs]; exact hS.2.2 q hq) ?_
    refine W.widen (k := 600000) (n := 7302250) (Nat.le_of_ble_eq_true rfl) (Nat.le_of_ble_eq_true rfl) ?_
    exact lw_ret hx hb hr hlocks dL_law_862
  have K : Xc (p, l, e, room_1, s, m, #[Value.ref b], below, meth, c, 0, 0, lw_Z below #[Value.ref b] s, ()) 4 g 0 0 0 [(0, .ref b)] [] [] := by
    refine c_new (q := 0) (cs' := [.inr (5, [.null, .null, .null, .null, .null, .null, .null, .null, .int 0, .null, .null, .null, .long 0])]) C1 iC5 rfl tyX5 tyX5_ok ws_c7 ws_i5 ws_n5 (fs := [.null, .null, .null, .null, .null, .null, .null, .null, .int 0, .null, .null, .null, .long 0]) (by decide +kernel) rfl ⟨hs, Or.inr rfl⟩ (by decide) (by decide) dL_law_0 rfl ?_
    refine c_dup C1 dL_law_3 rfl ?_
    refine c_callC (mc := 91) (ms := 728) (q := 1) (cs' := zcells g w1) C1 (c_X5_init l g hi1 hi2) kl_X5_init kn_X5_init rfl (Or.inl ws_m9) rfl rfl ⟨Nat.le_of_ble_eq_true rfl, Nat.le_of_ble_eq_true rfl⟩ rfl ⟨by show s.heap.size + _ = _; omega, Or.inl (by omega)⟩ hAO (Nat.le_of_ble_eq_true rfl) (Nat.le_of_ble_eq_true rfl) (Nat.le_of_ble_eq_true rfl) dL_law_4 ?_
    refine c_astore_n (L' := [(1, .ref (ad g 0)), (0, .ref b)]) C1 dL_law_7 rfl (by decide) rfl ?_
    refine c_new (q := 92) (cs' := zcells g w1 ++ [.inr (6, [.int 0, .null, .null, .null, .int 0, .int 0, .int 0, .null, .null, .int 0, .null, .null, .int 0, .null, .long 0, .null, .int 0, .int 0, .int 0, .int 0, .int 0, .int 0, .int 0, .int 0, .null, .int 0, .int 0, .int 0, .null, .null, .null])]) C1 iC6 rfl tyX6 tyX6_ok ws_c10 ws_i6 ws_n6 (fs := [.int 0, .null, .null, .null, .int 0, .int 0, .int 0, .null, .null, .int 0, .null, .null, .int 0, .null, .long 0, .null, .int 0, .int 0, .int 0, .int 0, .int 0, .int 0, .int 0, .int 0, .null, .int 0, .int 0, .int 0, .null, .null, .null]) (by decide +kernel) (zlen g w1) ⟨by show s.heap.size + _ = _; omega, Or.inl (by omega)⟩ (Nat.le_of_ble_eq_true rfl) (Nat.le_of_ble_eq_true rfl) dL_law_8 rfl ?_
    refine c_dup C1 dL_law_11 rfl ?_
    refine c_callC (mc := 13) (ms := 621) (q := 93) (cs' := zcells g w1 ++ mCells g) C1 (c_X6_init l g (pre := zcells g w1) (n := 92) (zlen g w1)) kl_X6_init kn_X6_init rfl (Or.inl ws_m12) rfl rfl ⟨Nat.le_of_ble_eq_true rfl, Nat.le_of_ble_eq_true rfl⟩ (ap_len (zlen g w1) (k := 1) rfl) ⟨by show s.heap.size + _ = _; omega, Or.inl (by omega)⟩ hAO (Nat.le_of_ble_eq_true rfl) (Nat.le_of_ble_eq_true rfl) (Nat.le_of_ble_eq_true rfl) dL_law_12 ?_
    refine c_astore_n (L' := [(2, .ref (ad g 92)), (1, .ref (ad g 0)), (0, .ref b)]) C1 dL_law_15 rfl (by decide) rfl ?_
    refine c_iconst (v := 0) C1 dL_law_16 (by decide) ?_
    refine c_istore_n (L' := [(3, .int 0), (2, .ref (ad g 92)), (1, .ref (ad g 0)), (0, .ref b)]) C1 dL_law_17 rfl (by decide) rfl ?_
    intro H locs ls hP hS hl
    rw [world_all] at hP
    exact law_loop C2 hs hX hbl hL hO hone 65 0 (wI w1) (by omega) (by decide) hIv H locs ls hP hS (lv_sub hl [3, 2, 1, 0] rfl)
  rw [lg_entry_eq]
  exact K s.heap [] _ (fun k q hk => by simp [wc] at hk) va_S.rf (lv_entry [.ref b] (Nat.le_of_ble_eq_true rfl))
