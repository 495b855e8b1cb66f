/-! THE WORLD WHILE IT IS MADE: the cells made so far, at ad g 0, ad g 1 .. -/
def wc (g : Gx) (cs : List va_E) : va_W := cs.zipIdx.map (fun q => (ad g q.2, q.1))
theorem wc_get {g : Gx} {cs : List va_E} (k : Nat) : (wc g cs)[k]? = (cs[k]?).map (fun e => (ad g k, e)) := by
  simp only [wc, List.getElem?_map, List.getElem?_zipIdx, Nat.zero_add]
  cases cs[k]? <;> rfl
theorem wc_at {g : Gx} {cs : List va_E} {k : Nat} {e : va_E} (h : cs[k]? = some e) : (wc g cs)[k]? = some (ad g k, e) := by rw [wc_get, h]; rfl
theorem wc_inv {g : Gx} {cs : List va_E} {k : Nat} {q : Nat × va_E} (h : (wc g cs)[k]? = some q) : ∃ e, cs[k]? = some e ∧ q = (ad g k, e) := by
  rw [wc_get] at h
  cases hc : cs[k]? with
  | none => rw [hc] at h; cases h
  | some e => rw [hc] at h; exact ⟨e, rfl, (Option.some.inj h).symm⟩
theorem wc_D (g : Gx) (cs : List va_E) : va_D (fun q => g.2.1 ≤ q) (wc g cs) := by
  refine ⟨fun i j p q hp hq e => ?_, fun k q hq => ?_⟩
  · obtain ⟨_, -, rfl⟩ := wc_inv hp
    obtain ⟨_, -, rfl⟩ := wc_inv hq
    exact Nat.add_left_cancel e
  · obtain ⟨_, -, rfl⟩ := wc_inv hq
    exact Nat.le_add_right _ _
theorem wc_len (g : Gx) (cs : List va_E) : (wc g cs).length = cs.length := by simp [wc]
theorem wc_set (g : Gx) (cs : List va_E) (k : Nat) (e : va_E) : (wc g cs).set k (ad g k, e) = wc g (cs.set k e) := by
  apply List.ext_getElem?
  intro i
  rw [wc_get, List.getElem?_set, List.getElem?_set]
  by_cases h : k = i
  · subst h
    simp only [if_true, wc_len]
    by_cases hl : k < cs.length
    · simp [hl]
    · simp [hl]
  · rw [if_neg h, if_neg h, wc_get]
theorem wc_app (g : Gx) (cs : List va_E) (e : va_E) : wc g (cs ++ [e]) = wc g cs ++ [(ad g cs.length, e)] := by
  simp [wc, List.zipIdx_append]
theorem wc_low {g : Gx} {cs : List va_E} {H : Heap} (h : va_P g.1 vwCl (wc g cs) H) (hn : 0 < cs.length) : g.2.1 + cs.length ≤ H.size := by
  have hl : cs.length - 1 < cs.length := by omega
  have h1 := h (cs.length - 1) _ (wc_at (List.getElem?_eq_getElem hl))
  have h2 := h1.lt
  show g.2.1 + cs.length ≤ H.size
  have h3 : ad g (cs.length - 1) < H.size := h2
  unfold ad at h3
  omega
def Xc (E : Ex) (nL : Nat) (g : Gx) (nc ns : Nat) (pc : Nat) (L : List (Nat × Value)) (st : List Value) (cs : List va_E) : Prop :=
  ∀ (H : Heap) (locs : List Loc) (ls : Array Slot), va_P g.1 vwCl (wc g cs) H → va_S (fun q => g.2.1 ≤ q) E.s.heap H locs → lv_has ls nL L → W E.p E.l E.e E.R E.s E.m E.args E.below E.meth E.c H locs nc ns E.Q (F0 E.m pc ls st)
theorem W_sz {p : Program} {l : Launch} {e : Env} {R : Room} {s : State} {m : MethodId} {args : Array Value} {below : List Frame} {meth : Method} {c : Code} {H : Heap} {locs : List Loc} {cells slots : Nat} {Q : State → Prop} {f : JFrame} (k : H.size ≤ s.heap.size + cells → W p l e R s m args below meth c H locs cells slots Q f) : W p l e R s m args below meth c H locs cells slots Q f := fun T hT X => k (hT ▸ X.heapSize) T hT X
/-- a constructor: the cells before, with the object last, and behind -/
def MetC (l : Launch) (y : MethodName) (cc : ByteArray) (maxL : Nat) (rm : Room) (g : Gx) (av : List Value) (cs cs' : List va_E) (mc ms : Nat) : Prop :=
  Met l y (.code y cc maxL none :: gd_tbl) rm (va_Pc av (fun U => va_P g.1 vwCl (wc g cs) U.heap ∧ U.heap.size = g.2.1 + cs.length ∧ Kk g U ∧ va_AO "DumplingPolls$Stew" U)) (fun _ st oc t => oc = .returned none ∧ va_P g.1 vwCl (wc g cs') t.heap ∧ va_F (fun q => g.2.1 ≤ q) st t) mc ms (fun q => g.2.1 ≤ q)
def RetC (E : Ex) (g : Gx) (cs' : List va_E) (mc ms : Nat) : Prop :=
  E.Q = MQ E.below (fun _ st oc t => oc = .returned none ∧ va_P g.1 vwCl (wc g cs') t.heap ∧ va_F (fun q => g.2.1 ≤ q) st t) E.args E.s mc ms (fun q => g.2.1 ≤ q) ∧ E.meth.sig.returnType = none ∧ E.meth.locks = false ∧ E.meth.name = "<init>"
theorem metC_of {l : Launch} {y : MethodName} {cc : ByteArray} {maxL : Nat} {rm : Room} {g : Gx} {av : List Value} {cs cs' : List va_E} {mc ms : Nat} (hy : plainName y.cls = true) (hyn : y.name = "<init>") (hn : (lg_sl av).length ≤ maxL)
    (body : ∀ E : Ex, E.l = l → Ctx E y.cls cc rm maxL g → E.s.heap.size = g.2.1 + cs.length → va_AO "DumplingPolls$Stew" E.s → RetC E g cs' mc ms → Xc E maxL g 0 0 0 (lv_args 0 av) [] cs) : MetC l y cc maxL rm g av cs cs' mc ms := by
  refine Met.ofW (cc := cc) (maxL := maxL) (ret := none) hy rfl ?_
  intro p e s m args below meth c s₁ B hml hv
  obtain ⟨rfl, hP, hsz, hK, hAO⟩ := hv
  have hts := atoms_spec (ws := .code y cc maxL none :: gd_tbl) B.pre
  have hown : s.vm.findClass y.cls = some m.cls := findClass_of_methodNamed B.named
  have hnm : meth.name = "<init>" := (name_of_methodNamed B.named B.method).1.trans hyn
  have hb := body (p, l, e, rm, s, m, av.toArray, below, meth, c, 0, 0, MQ below (fun _ st oc t => oc = .returned none ∧ va_P g.1 vwCl (wc g cs') t.heap ∧ va_F (fun q => g.2.1 ≤ q) st t) av.toArray s mc ms (fun q => g.2.1 ≤ q), ()) rfl
    ⟨B.exec, B.bytes, hml, hown, fun x hx => hts x (List.mem_cons_of_mem _ hx), hK, rfl, Nat.zero_le _, Nat.zero_le _⟩ hsz hAO ⟨rfl, B.returns, B.notSynchronized, hnm⟩
  rw [lg_entry_eq]
  exact hb s.heap [] _ hP va_S.rf (lv_entry av hn)
theorem ap_get {pre t : List va_E} {n : Nat} (hn : pre.length = n) (i : Nat) {e : va_E} (h : t[i]? = some e) : (pre ++ t)[n + i]? = some e := by
  subst hn
  rw [List.getElem?_append_right (Nat.le_add_right _ _), Nat.add_sub_cancel_left]
  exact h
theorem ap_get0 {pre t : List va_E} {n : Nat} (hn : pre.length = n) {e : va_E} (h : t[0]? = some e) : (pre ++ t)[n]? = some e := ap_get hn 0 h
theorem ap_set {pre t : List va_E} {n : Nat} (hn : pre.length = n) (i : Nat) (e : va_E) {t' : List va_E} (h : t.set i e = t') : (pre ++ t).set (n + i) e = pre ++ t' := by
  subst hn
  subst h
  rw [List.set_append_right _ _ (Nat.le_add_right _ _), Nat.add_sub_cancel_left]
theorem ap_set0 {pre t : List va_E} {n : Nat} (hn : pre.length = n) (e : va_E) {t' : List va_E} (h : t.set 0 e = t') : (pre ++ t).set n e = pre ++ t' := ap_set hn 0 e h
theorem ap_len {pre t : List va_E} {n k : Nat} (hn : pre.length = n) (h : t.length = k) : (pre ++ t).length = n + k := by rw [List.length_append, hn, h]
section XC
variable {E : Ex} {own : String} {cc : ByteArray} {rm : Room} {nL : Nat} {g : Gx} {nc ns pc : Nat} {L : List (Nat × Value)} {st : List Value} {cs : List va_E}
theorem c_aload_n (C : Ctx E own cc rm nL g) {j : Fin 4} {i : Nat} {x : Nat} (hdg : decode cc pc = .ok (.aload_n j, 1)) (k : Nat) (hi : (j : Nat) = i) (hk : L[k]? = some (i, .ref x)) (kk : Xc E nL g nc ns (pc + 1) L (.ref x :: st) cs) : Xc E nL g nc ns pc L st cs := fun H locs ls hP hS hl => lv_aload_n C.1 C.2.1 hdg hi (lv_at hl k hk) (kk H locs ls hP hS hl)
theorem c_iload_n (C : Ctx E own cc rm nL g) {j : Fin 4} {i : Nat} {x : Int32} (hdg : decode cc pc = .ok (.iload_n j, 1)) (k : Nat) (hi : (j : Nat) = i) (hk : L[k]? = some (i, .int x)) (kk : Xc E nL g nc ns (pc + 1) L (.int x :: st) cs) : Xc E nL g nc ns pc L st cs := fun H locs ls hP hS hl => lv_iload_n C.1 C.2.1 hdg hi (lv_at hl k hk) (kk H locs ls hP hS hl)
theorem c_iconst (C : Ctx E own cc rm nL g) {n : Int} {v : Int32} (hdg : decode cc pc = .ok (.iconst n, 1)) (hv : Int32.ofInt n = v) (kk : Xc E nL g nc ns (pc + 1) L (.int v :: st) cs) : Xc E nL g nc ns pc L st cs := fun H locs ls hP hS hl => lv_iconst C.1 C.2.1 hdg hv (kk H locs ls hP hS hl)
theorem c_bipush (C : Ctx E own cc rm nL g) {n : Int} {v : Int32} (hdg : decode cc pc = .ok (.bipush n, 2)) (hv : (Int8.ofInt n).toInt32 = v) (kk : Xc E nL g nc ns (pc + 2) L (.int v :: st) cs) : Xc E nL g nc ns pc L st cs := fun H locs ls hP hS hl => lv_bipush C.1 C.2.1 hdg hv (kk H locs ls hP hS hl)
theorem c_sipush (C : Ctx E own cc rm nL g) {n : Int} {v : Int32} (hdg : decode cc pc = .ok (.sipush n, 3)) (hv : (Int16.ofInt n).toInt32 = v) (kk : Xc E nL g nc ns (pc + 3) L (.int v :: st) cs) : Xc E nL g nc ns pc L st cs := fun H locs ls hP hS hl => lv_sipush C.1 C.2.1 hdg hv (kk H locs ls hP hS hl)
theorem c_dup (C : Ctx E own cc rm nL g) {va : Value} (hdg : decode cc pc = .ok (.dup, 1)) (hva : va.category = 1) (kk : Xc E nL g nc ns (pc + 1) L (va :: va :: st) cs) : Xc E nL g nc ns pc L (va :: st) cs := fun H locs ls hP hS hl => lv_dup C.1 C.2.1 hdg hva (kk H locs ls hP hS hl)
theorem c_istore_n (C : Ctx E own cc rm nL g) {j : Fin 4} {i : Nat} {x : Int32} {L' : List (Nat × Value)} (hdg : decode cc pc = .ok (.istore_n j, 1)) (hi : (j : Nat) = i) (hn : i < nL) (hL : (i, Value.int x) :: L.filter (fun q => !(q.1 == i) && !(q.1 + 1 == i && q.2.category == 2)) = L') (kk : Xc E nL g nc ns (pc + 1) L' st cs) : Xc E nL g nc ns pc L (.int x :: st) cs := fun H locs ls hP hS hl => lv_istore_n C.1 C.2.1 hdg hi hl hn hL (fun ls' hl' => kk H locs ls' hP hS hl')
theorem c_iinc (C : Ctx E own cc rm nL g) {i : Nat} {n : Int} {x v : Int32} {L' : List (Nat × Value)} (hdg : decode cc pc = .ok (.iinc i n, 3)) (k : Nat) (hk : L[k]? = some (i, .int x)) (hv : x + Int32.ofInt n = v) (hn : i < nL) (hL : (i, Value.int v) :: L.filter (fun q => !(q.1 == i) && !(q.1 + 1 == i && q.2.category == 2)) = L') (kk : Xc E nL g nc ns (pc + 3) L' st cs) : Xc E nL g nc ns pc L st cs := fun H locs ls hP hS hl => lv_iinc C.1 C.2.1 hdg hl hk hv hn hL (fun ls' hl' => kk H locs ls' hP hS hl')
theorem c_goto (C : Ctx E own cc rm nL g) {off : Int} {tgt : Nat} (hdg : decode cc pc = .ok (.goto off, 3)) (ht : (pc : Int) + off = (tgt : Int)) (kk : Xc E nL g nc ns tgt L st cs) : Xc E nL g nc ns pc L st cs := fun H locs ls hP hS hl => lv_goto C.1 C.2.1 hdg ht (kk H locs ls hP hS hl)
theorem c_icmp_ge (C : Ctx E own cc rm nL g) {x y : Int32} {off : Int} {tgt : Nat} (hdg : decode cc pc = .ok (.if_icmp .ge off, 3)) (ht : (pc : Int) + off = (tgt : Int)) (kt : y ≤ x → Xc E nL g nc ns tgt L st cs) (kf : ¬ y ≤ x → Xc E nL g nc ns (pc + 3) L st cs) : Xc E nL g nc ns pc L (.int y :: .int x :: st) cs := fun H locs ls hP hS hl => lv_icmp_ge C.1 C.2.1 hdg ht (fun h => kt h H locs ls hP hS hl) (fun h => kf h H locs ls hP hS hl)
theorem c_astore_n (C : Ctx E own cc rm nL g) {j : Fin 4} {i : Nat} {x : Nat} {L' : List (Nat × Value)} (hdg : decode cc pc = .ok (.astore_n j, 1)) (hi : (j : Nat) = i) (hn : i < nL) (hL : (i, Value.ref x) :: L.filter (fun q => !(q.1 == i) && !(q.1 + 1 == i && q.2.category == 2)) = L') (kk : Xc E nL g nc ns (pc + 1) L' st cs) : Xc E nL g nc ns pc L (.ref x :: st) cs := fun H locs ls hP hS hl => lv_astore_n C.1 C.2.1 hdg hi hl hn hL (fun ls' hl' => kk H locs ls' hP hS hl')
theorem c_objinit (C : Ctx E own cc rm nL g) {idx a : Nat} (hlink : Cond.methodLink own idx Lib.objectInit ∈ gd_tbl) (hinst : Cond.instanceMethod Lib.objectInit ∈ gd_tbl) (hcode : Cond.code Lib.objectInit ⟨#[0xb1]⟩ 1 none ∈ gd_tbl) (hdg : decode cc pc = .ok (.invokespecial idx, 3)) (hf : 1 ≤ rm.frames) (hlo : (st.map fun v => v.category).sum + 12 ≤ rm.locals) (kk : Xc E nL g nc ns (pc + 3) L st cs) : Xc E nL g nc ns pc L (.ref a :: st) cs := fun H locs ls hP hS hl => W.objInit (g := F0 E.m pc ls (.ref a :: st)) C.1 C.2.1 C.2.2.2.1 (C.2.2.2.2.1 _ hlink) (C.2.2.2.2.1 _ hinst) (C.2.2.2.2.1 _ hcode) rfl (hl.1.trans C.2.2.1.symm) rfl hdg (C.2.2.2.2.2.2.1 ▸ hf) (by rw [C.2.2.2.2.2.2.1]; show 2 * 0 + _ + 12 ≤ _; omega) (kk H locs ls hP hS hl)
theorem c_vret (C : Ctx E own cc rm nL g) {mc ms : Nat} {cs' : List va_E} (hR : RetC E g cs' mc ms) (hw : cs = cs') (h1 : nc = mc) (h2 : ns = ms) (hdg : decode cc pc = .ok (.return_, 1)) : Xc E nL g nc ns pc L [] cs := by
  subst hw; subst h1; subst h2
  intro H locs ls hP hS hl
  rw [hR.1]
  exact W.vret C.1 C.2.1 hR.2.1 (fun t ht _ => ⟨rfl, by rw [ht]; exact hP, hS.F ht⟩) hS.2.2 hdg hR.2.2.1
/-- where the cells end: the next address -/
theorem c_end {H : Heap} {locs : List Loc} (hz : E.s.heap.size + nc = g.2.1 + cs.length ∧ (0 < cs.length ∨ nc = 0)) (hP : va_P g.1 vwCl (wc g cs) H) (hS : va_S (fun q => g.2.1 ≤ q) E.s.heap H locs) (h : H.size ≤ E.s.heap.size + nc) : H.size = g.2.1 + cs.length := by
  obtain ⟨h1, h2⟩ := hz
  rcases Nat.eq_zero_or_pos cs.length with q | q
  · have := hS.1
    omega
  · have := wc_low hP q
    omega
theorem c_push {H H1 : Heap} {e : va_E} (hP : va_P g.1 vwCl (wc g cs) H) (hz : H.size = g.2.1 + cs.length) (hk : ∀ q : Nat, q < H.size → H1[q]? = H[q]?) (he : va_at g.1 vwCl (ad g cs.length, e) H1) : va_P g.1 vwCl (wc g (cs ++ [e])) H1 := by
  rw [wc_app]
  refine (hP.kept (fun k x hx => hk x.1 ((hP k x hx).lt))).app (fun k x hx => ?_)
  have hz : k < 1 := (List.getElem?_eq_some_iff.mp hx).1
  rw [show k = 0 by omega] at hx
  cases hx
  exact he
theorem c_newI (C : Ctx E own cc rm nL g) {n : Int32} {N : Nat} (harr : Cond.arrayClass .int ∈ gd_tbl) (hn : ¬ n < 0) (hN : n.toNatClampNeg = N) (hbytes : N * 4 ≤ 536870912) {q : Nat} (hq : cs.length = q) (hz : E.s.heap.size + nc = g.2.1 + q ∧ (0 < q ∨ nc = 0)) (hcells : nc + 1 ≤ rm.cells) (hslots : ns + N ≤ rm.slots) (hdg : decode cc pc = .ok (.newarray .int, 2)) {cs' : List va_E} (hcs : cs ++ [.inl (g.2.2.1, N, .inl (fun _ => 0))] = cs') (kk : Xc E nL g (nc + 1) (ns + N) (pc + 2) L (.ref (ad g q) :: st) cs') : Xc E nL g nc ns pc L (.int n :: st) cs := by
  subst hq
  subst hcs
  intro H locs ls hP hS hl
  refine W_sz fun hsz => ?_
  have hH := c_end hz hP hS hsz
  refine va_newaK (atype := .int) C.1 C.2.1 (C.2.2.2.2.1 _ harr) rfl hdg rfl hn hN hbytes (C.2.2.2.2.2.2.1 ▸ hcells) (C.2.2.2.2.2.2.1 ▸ hslots) (h := ad g cs.length) hH fun H1 cA e1 z1 o1 hAr hNm => ?_
  have hc : cA = g.2.2.1 := Option.some.inj (hNm.symm.trans ((C.2.2.2.2.2.1.1.2 0 _ rfl).2))
  subst hc
  have hH' : H.size = ad g cs.length := hH
  exact kk H1 locs ls (c_push hP hH (fun q hq => o1 q (hH' ▸ hq)) e1) ⟨Nat.le_trans hS.1 (by omega), fun q h1 h2 => (o1 q (hH' ▸ Nat.lt_of_lt_of_le h1 hS.1)).trans (hS.2.1 q h1 h2), hS.2.2⟩ hl
theorem c_newZ (C : Ctx E own cc rm nL g) {n : Int32} {N : Nat} (harr : Cond.arrayClass .boolean ∈ gd_tbl) (hn : ¬ n < 0) (hN : n.toNatClampNeg = N) (hbytes : N * 1 ≤ 536870912) {q : Nat} (hq : cs.length = q) (hz : E.s.heap.size + nc = g.2.1 + q ∧ (0 < q ∨ nc = 0)) (hcells : nc + 1 ≤ rm.cells) (hslots : ns + N ≤ rm.slots) (hdg : decode cc pc = .ok (.newarray .boolean, 2)) {cs' : List va_E} (hcs : cs ++ [.inl (g.2.2.2.1, N, .inl (fun _ => 0))] = cs') (kk : Xc E nL g (nc + 1) (ns + N) (pc + 2) L (.ref (ad g q) :: st) cs') : Xc E nL g nc ns pc L (.int n :: st) cs := by
  subst hq
  subst hcs
  intro H locs ls hP hS hl
  refine W_sz fun hsz => ?_
  have hH := c_end hz hP hS hsz
  refine va_newaK (atype := .boolean) C.1 C.2.1 (C.2.2.2.2.1 _ harr) rfl hdg rfl hn hN hbytes (C.2.2.2.2.2.2.1 ▸ hcells) (C.2.2.2.2.2.2.1 ▸ hslots) (h := ad g cs.length) hH fun H1 cA e1 z1 o1 hAr hNm => ?_
  have hc : cA = g.2.2.2.1 := Option.some.inj (hNm.symm.trans ((C.2.2.2.2.2.1.1.2 1 _ rfl).2))
  subst hc
  have hH' : H.size = ad g cs.length := hH
  exact kk H1 locs ls (c_push hP hH (fun q hq => o1 q (hH' ▸ hq)) e1) ⟨Nat.le_trans hS.1 (by omega), fun q h1 h2 => (o1 q (hH' ▸ Nat.lt_of_lt_of_le h1 hS.1)).trans (hS.2.1 q h1 h2), hS.2.2⟩ hl
theorem c_newQ (C : Ctx E own cc rm nL g) {n : Int32} {N idx : Nat} (hclink : Cond.classLink own idx "DumplingPolls$Stew" ∈ gd_tbl) (hover : va_AO "DumplingPolls$Stew" E.s) (hn : ¬ n < 0) (hN : n.toNatClampNeg = N) (hbytes : N * 4 ≤ 536870912) {q : Nat} (hq : cs.length = q) (hz : E.s.heap.size + nc = g.2.1 + q ∧ (0 < q ∨ nc = 0)) (hcells : nc + 1 ≤ rm.cells) (hslots : ns + N ≤ rm.slots) (hdg : decode cc pc = .ok (.anewarray idx, 3)) {cs' : List va_E} (hcs : cs ++ [.inl (g.2.2.2.2, N, .inr (.inr (.inr (.inr (fun _ => none)))))] = cs') (kk : Xc E nL g (nc + 1) (ns + N) (pc + 3) L (.ref (ad g q) :: st) cs') : Xc E nL g nc ns pc L (.int n :: st) cs := by
  subst hq
  subst hcs
  subst hN
  intro H locs ls hP hS hl
  refine W_sz fun hsz => ?_
  have hH := c_end hz hP hS hsz
  have hH' : H.size = ad g cs.length := hH
  refine W.anew C.1 C.2.1 C.2.2.2.1 (C.2.2.2.2.1 _ hclink) (va_AO.use hover) rfl hdg rfl hn hbytes (C.2.2.2.2.2.2.1 ▸ hcells) (C.2.2.2.2.2.2.1 ▸ hslots) fun cA kA comp f1 f2 f3 f4 => ?_
  generalize hH1 : H.push ({ cls := cA, slots := Array.replicate n.toNatClampNeg .null, vm := .none } : Cell) = H1
  have z1 : H1.size = H.size + 1 := by rw [← hH1, Array.size_push]
  have e1 : H1[H.size]? = some (arrV cA n.toNatClampNeg (fun _ => .null)) := by rw [← hH1, Array.getElem?_push_size, ← arrV_new]
  have o1 : ∀ q : Nat, q < H.size → H1[q]? = H[q]? := fun q hq => by rw [← hH1, Array.getElem?_push, if_neg (Nat.ne_of_lt hq)]
  obtain ⟨kA', comp', g1, g2, g3, g4⟩ := (C.2.2.2.2.2.1.1.2 2 _ rfl).2
  have hc : cA = g.2.2.2.2 := Option.some.inj (f1.symm.trans g4)
  subst hc
  rw [hH'] at e1
  have hst : (F0 E.m (pc + 3) ls (.ref H.size :: st)) = (F0 E.m (pc + 3) ls (.ref (ad g cs.length) :: st)) := by rw [hH']
  refine W.eq hst ?_
  exact kk H1 locs ls (c_push hP hH (fun q hq => o1 q hq) e1) ⟨Nat.le_trans hS.1 (by omega), fun q h1 h2 => (o1 q (Nat.lt_of_lt_of_le h1 hS.1)).trans (hS.2.1 q h1 h2), hS.2.2⟩ hl
theorem c_new (C : Ctx E own cc rm nL g) {Cn : String} {T : u_T} {N ci idx : Nat} (hin : ∀ w ∈ u_ws Cn T N, w ∈ gd_tbl) (hcl : vwCl[ci]? = some (Cn, T, N)) (ty : Nat → FieldType) (hty : ∀ k, k < N → parseFieldDescriptor (T k).2.2.1 = some (ty k)) (hclink : Cond.classLink own idx Cn ∈ gd_tbl) (hinst : Cond.instantiable Cn N ∈ gd_tbl) (hini : Cond.initialized Cn ∈ gd_tbl) {fs : List Value} (hfs : ∀ j, j < N → defaultValue (ty j) = vp_V fs j) {q : Nat} (hq : cs.length = q) (hz : E.s.heap.size + nc = g.2.1 + q ∧ (0 < q ∨ nc = 0)) (hcells : nc + 1 ≤ rm.cells) (hslots : ns + N ≤ rm.slots) (hdg : decode cc pc = .ok (.new idx, 3)) {cs' : List va_E} (hcs : cs ++ [.inr (ci, fs)] = cs') (kk : Xc E nL g (nc + 1) (ns + N) (pc + 3) L (.ref (ad g q) :: st) cs') : Xc E nL g nc ns pc L st cs := by
  subst hq
  subst hcs
  intro H locs ls hP hS hl
  refine W_sz fun hsz => ?_
  have hH := c_end hz hP hS hsz
  have hKn := C.2.2.2.2.2.1.1.1 ci _ hcl
  refine W.newcK C.1 C.2.1 C.2.2.2.1 (C.2.2.2.2.1 _ hclink) (C.2.2.2.2.1 _ hinst) (C.2.2.2.2.1 _ hini) rfl hdg (C.2.2.2.2.2.2.1 ▸ hcells) (C.2.2.2.2.2.2.1 ▸ hslots) hKn.2.1 (h := ad g cs.length) hH fun H1 kC hkC e1 z1 o1 => ?_
  have hH' : H.size = ad g cs.length := hH
  exact kk H1 locs ls (c_push hP hH (fun q hq => o1 q (hH' ▸ hq)) ⟨_, hcl, (u_born ty C.2.2.2.2.1 hin hKn hkC e1 hty).to hfs⟩) ⟨Nat.le_trans hS.1 (by omega), fun q h1 h2 => (o1 q (hH' ▸ Nat.lt_of_lt_of_le h1 hS.1)).trans (hS.2.1 q h1 h2), hS.2.2⟩ hl
theorem c_putF (C : Ctx E own cc rm nL g) {Cn : String} {T : u_T} {N ci idx : Nat} (hin : ∀ w ∈ u_ws Cn T N, w ∈ gd_tbl) (hcl : vwCl[ci]? = some (Cn, T, N)) (ty0 : Nat → FieldType) (hty : ∀ k, k < N → parseFieldDescriptor (T k).2.2.1 = some (ty0 k)) (hnm : ∀ a, a < N → ∀ b, b < N → a ≠ b → (T a).2.1 ≠ (T b).2.1) {k : Nat} {fs : List Value} (he : cs[k]? = some (.inr (ci, fs))) (j : Nat) (hj : j < N) (hlink : Cond.fieldLink own idx Cn (T j).2.1 (T j).2.2.1 ∈ gd_tbl) (hs : (T j).1 = Cn) (ho : Cn = own) (hfin : (T j).2.2.2 = true) (hnmi : E.meth.name = "<init>") {ty : FieldType} {v : Value} (hd : parseFieldDescriptor (T j).2.2.1 = some ty) (hn : narrow ty v = v) (hfit : fits ty v = true) (hlen : j < fs.length) {cs' : List va_E} (hcs : cs.set k (.inr (ci, fs.set j v)) = cs') (hdg : decode cc pc = .ok (.putfield idx, 3)) (kk : Xc E nL g nc ns (pc + 3) L st cs') : Xc E nL g nc ns pc L (v :: .ref (ad g k) :: st) cs := fun H locs ls hP hS hl => va_putF (D := g.1) (ref := Cn) C.1 C.2.1 C.2.2.2.2.1 hin ty0 hty hnm C.2.2.2.1 C.2.2.2.2.2.1.1 hP (wc_D g cs) hS k (wc_at he) hcl j hj (C.2.2.2.2.1 _ hlink) (fun x h => by rw [hs] at h; exact h) hfin hnmi (hs.trans ho) hd hn hfit hlen hdg (fun H1 l1 hP1 _ hS1 => kk H1 l1 ls (by rw [wc_set, hcs] at hP1; exact hP1) hS1 hl)
theorem c_putI (C : Ctx E own cc rm nL g) {Cn : String} {T : u_T} {N ci idx : Nat} (hin : ∀ w ∈ u_ws Cn T N, w ∈ gd_tbl) (hcl : vwCl[ci]? = some (Cn, T, N)) (ty0 : Nat → FieldType) (hty : ∀ k, k < N → parseFieldDescriptor (T k).2.2.1 = some (ty0 k)) (hnm : ∀ a, a < N → ∀ b, b < N → a ≠ b → (T a).2.1 ≠ (T b).2.1) {k : Nat} {fs : List Value} (he : cs[k]? = some (.inr (ci, fs))) (j : Nat) (hj : j < N) (hlink : Cond.fieldLink own idx Cn (T j).2.1 (T j).2.2.1 ∈ gd_tbl) (hs : (T j).1 = Cn) (hfin : (T j).2.2.2 = false) {v : Int32} (hd : parseFieldDescriptor (T j).2.2.1 = some .int) (hlen : j < fs.length) {cs' : List va_E} (hcs : cs.set k (.inr (ci, fs.set j (.int v))) = cs') (hdg : decode cc pc = .ok (.putfield idx, 3)) (kk : Xc E nL g nc ns (pc + 3) L st cs') : Xc E nL g nc ns pc L (.int v :: .ref (ad g k) :: st) cs := fun H locs ls hP hS hl => va_put (D := g.1) (ref := Cn) (ty := .int) C.1 C.2.1 C.2.2.2.2.1 hin ty0 hty hnm C.2.2.2.1 C.2.2.2.2.2.1.1 hP (wc_D g cs) hS k (wc_at he) hcl j hj (C.2.2.2.2.1 _ hlink) (fun x h => by rw [hs] at h; exact h) hfin hd rfl rfl hlen hdg (fun H1 l1 hP1 _ hS1 => kk H1 l1 ls (by rw [wc_set, hcs] at hP1; exact hP1) hS1 hl)
theorem c_get (C : Ctx E own cc rm nL g) {Cn : String} {T : u_T} {N ci idx : Nat} (hin : ∀ w ∈ u_ws Cn T N, w ∈ gd_tbl) (hcl : vwCl[ci]? = some (Cn, T, N)) {k : Nat} {fs : List Value} (he : cs[k]? = some (.inr (ci, fs))) (j : Nat) (hj : j < N) (hlink : Cond.fieldLink own idx Cn (T j).2.1 (T j).2.2.1 ∈ gd_tbl) (hs : (T j).1 = Cn) {v : Value} (hv : fs[j]? = some v) (hdg : decode cc pc = .ok (.getfield idx, 3)) (kk : Xc E nL g nc ns (pc + 3) L (v :: st) cs) : Xc E nL g nc ns pc L (.ref (ad g k) :: st) cs := fun H locs ls hP hS hl => va_get (D := g.1) (ref := Cn) C.1 C.2.1 C.2.2.2.2.1 hin C.2.2.2.1 C.2.2.2.2.2.1.1 hP k (wc_at he) hcl j hj (C.2.2.2.2.1 _ hlink) (fun x h => by rw [hs] at h; exact h) hv hdg (kk H locs ls hP hS hl)
theorem c_iast (C : Ctx E own cc rm nL g) {a n : Nat} {f : Nat → Int32} (ha : cs[a]? = some (.inl (g.2.2.1, n, .inl f))) {i v : Int32} (hi : inb i n = true) {cs' : List va_E} (hcs : cs.set a (.inl (g.2.2.1, n, .inl (upd f i.toNatClampNeg v))) = cs') (hdg : decode cc pc = .ok (.iastore, 1)) (kk : Xc E nL g nc ns (pc + 1) L st cs') : Xc E nL g nc ns pc L (.int v :: .int i :: .ref (ad g a) :: st) cs := fun H locs ls hP hS hl => va_iast (D := g.1) C.1 C.2.1 C.2.2.2.2.2.1.1 hP (wc_D g cs) hS a 0 (wc_at ha) rfl (inb_in hi) hdg (fun H1 l1 hP1 _ hS1 => kk H1 l1 ls (by rw [wc_set, hcs] at hP1; exact hP1) hS1 hl)
theorem c_aast (C : Ctx E own cc rm nL g) {a n k : Nat} {f : Nat → Option Nat} {fs : List Value} (ha : cs[a]? = some (.inl (g.2.2.2.2, n, .inr (.inr (.inr (.inr f)))))) (hv : cs[k]? = some (.inr (4, fs))) {i : Int32} (hi : inb i n = true) {cs' : List va_E} (hcs : cs.set a (.inl (g.2.2.2.2, n, .inr (.inr (.inr (.inr (va_up f i.toNatClampNeg (some (ad g k)))))))) = cs') (hdg : decode cc pc = .ok (.aastore, 1)) (kk : Xc E nL g nc ns (pc + 1) L st cs') : Xc E nL g nc ns pc L (.ref (ad g k) :: .int i :: .ref (ad g a) :: st) cs := fun H locs ls hP hS hl => va_astq (D := g.1) (r := (RX4, TX4, 6)) C.1 C.2.1 C.2.2.2.2.2.1.1 hP (wc_D g cs) hS a 2 k 4 (wc_at ha) rfl (wc_at hv) rfl (inb_in hi) hdg (fun H1 l1 hP1 _ hS1 => kk H1 l1 ls (by rw [wc_set, hcs] at hP1; exact hP1) hS1 hl)
/-- a constructor's call, the object the last cell -/
theorem c_callC (C : Ctx E own cc rm nL g) {y : MethodName} {bytes : ByteArray} {maxL idx k mc ms : Nat} {rm' : Room} {cs' : List va_E} (hM : MetC E.l y bytes maxL rm' g [.ref (ad g k)] cs cs' mc ms) (hc : Cal y bytes maxL none 0) (hins : Cond.instanceMethod y ∈ gd_tbl) (hy1 : y.name = "<init>") (hlink : Cond.methodLink own idx y ∈ gd_tbl ∨ ∃ host, Cond.methodLinkNest own idx y host ∈ ns_tbl) (hrc : rm'.cells = mc) (hrs : rm'.slots = ms) (hR : rm'.frames + 1 ≤ rm.frames ∧ 8 + (maxL + 11) + rm'.locals ≤ rm.locals) {q : Nat} (hq : cs.length = q) (hz : E.s.heap.size + nc = g.2.1 + q ∧ (0 < q ∨ nc = 0)) (hAO : va_AO "DumplingPolls$Stew" E.s) (hsum : (st.map fun v => v.category).sum ≤ 8) (hcells : nc + mc ≤ rm.cells) (hslots : ns + ms ≤ rm.slots) (hdg : decode cc pc = .ok (.invokespecial idx, 3)) (kk : Xc E nL g (nc + mc) (ns + ms) (pc + 3) L st cs') : Xc E nL g nc ns pc L (.ref (ad g k) :: st) cs := by
  subst hq
  intro H locs ls hP hS hl
  refine W_sz fun hsz => ?_
  have hH := c_end hz hP hS hsz
  have hblind : FrameBlind (va_Pc [.ref (ad g k)] (fun U => va_P g.1 vwCl (wc g cs) U.heap ∧ U.heap.size = g.2.1 + cs.length ∧ Kk g U ∧ va_AO "DumplingPolls$Stew" U)) := fun a U f mk h => ⟨h.1, h.2.1, h.2.2.1, h.2.2.2.1.same (U := U.calling f mk a) rfl, va_AO.moved (u := U) (U := U.calling f mk a) (Vm.Alike.refl U.vm) h.2.2.2.2⟩
  have hpre : PreS E.s H (va_Pc [.ref (ad g k)] (fun U => va_P g.1 vwCl (wc g cs) U.heap ∧ U.heap.size = g.2.1 + cs.length ∧ Kk g U ∧ va_AO "DumplingPolls$Stew" U)) (.ref (ad g k) :: []) := ⟨hblind, fun U hU hW => ⟨rfl, by rw [hU]; exact hP, by rw [hU]; exact hH, C.2.2.2.2.2.1.warm hW, hAO.moved hW.alike⟩⟩
  have hrun : va_Run E.p E.l E.e E.R E.s E.m E.args E.below E.meth E.c H locs nc ns mc ms (F0 E.m pc ls (.ref (ad g k) :: st)) st (fun st oc t => oc = .returned none ∧ va_P g.1 vwCl (wc g cs') t.heap ∧ va_F (fun q => g.2.1 ≤ q) st t) (fun q => g.2.1 ≤ q) := by
    rcases hlink with hlink | ⟨host, hlink⟩
    · exact va_runI (As := []) (rest := st) ⟨C.1, C.2.1, C.2.2.1, C.2.2.2.1, C.2.2.2.2.1⟩ hM ⟨callB_of 0 C.2.2.2.2.1 (gd_GoodIn hc.1) rfl hrc hrs (C.2.2.2.2.1 _ hc.2.1) (C.2.2.2.2.1 _ hlink) hc.2.2 (C.2.2.2.2.2.2.1 ▸ hR), hy1, C.2.2.2.2.1 _ hins⟩ hpre rfl rfl hl.1 rfl (lv_rm hsum) hdg ⟨C.2.2.2.2.2.2.1 ▸ hcells, C.2.2.2.2.2.2.1 ▸ hslots⟩
    · exact va_runIN (As := []) (rest := st) ⟨C.1, C.2.1, C.2.2.1, C.2.2.2.1, C.2.2.2.2.1⟩ hM ⟨va_cnB 0 C.2.2.2.2.1 (gd_GoodIn hc.1) rfl hrc hrs (C.2.2.2.2.2.1.2 _ hlink) (C.2.2.2.2.1 _ hc.2.1) hc.2.2 (C.2.2.2.2.2.2.1 ▸ hR), hy1, C.2.2.2.2.1 _ hins⟩ hpre rfl rfl hl.1 rfl (lv_rm hsum) hdg ⟨C.2.2.2.2.2.2.1 ▸ hcells, C.2.2.2.2.2.2.1 ▸ hslots⟩
  intro T hT X
  obtain ⟨v, st₀, t, T', Lc, h0, X', hL, e1, e2, ⟨hv, hP1, hz1, hk1⟩, go⟩ := hrun T hT X
  cases hv
  rw [h0] at hz1 hk1
  obtain ⟨t2, a1, b1⟩ := kk T'.heap (locs ++ Lc) ls (by rw [e1]; exact hP1) ⟨Nat.le_trans hS.1 (by rw [e1]; exact hz1), fun q h1 h2 => by rw [e1, hk1 q (Nat.lt_of_lt_of_le h1 hS.1) h2]; exact hS.2.1 q h1 h2, fun q hq => by
      rcases List.mem_append.mp hq with h | h
      · exact hS.2.2 q h
      · exact hL q h⟩ hl T' rfl X'
  exact ⟨t2, go t2 a1, b1⟩
end XC
