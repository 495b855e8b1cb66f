/-! THE WORLD: 106 cells at ad g 0 .. ad g 105 (the class's system 0 .. 91, the reference 92 .. 105); what changes are ints (a cell, a place) and a long a cell -/
abbrev Wd : Type := (Nat → Nat → Int32) × (Nat → Int64)
def wget (w : Wd) (k j : Nat) : Int32 := w.1 k j
def wset (w : Wd) (k j : Nat) (v : Int32) : Wd := (fun a b => if a = k ∧ b = j then v else w.1 a b, w.2)
def lget (w : Wd) (k : Nat) : Int64 := w.2 k
def lset (w : Wd) (k : Nat) (v : Int64) : Wd := (w.1, fun a => if a = k then v else w.2 a)
def wcpy (w : Wd) (ks kd n : Nat) : Wd := (fun a b => if a = kd ∧ b < n then w.1 ks b else w.1 a b, w.2)
abbrev Gx : Type := va_G × Nat × ClassId × ClassId × ClassId
def ad (g : Gx) (k : Nat) : Nat := g.2.1 + k
def kinds : List Nat := [5, 1,7,7, 2,7,7,7,7, 2,7,7,7,7, 4,7,7,7,7, 4,7,7,7,7, 0,9, 4,7,7,7,7, 4,7,7,7,7, 4,7,7,7,7, 4,7,7,7,7, 4,7,7,7,7, 4,7,7,7,7, 4,7,7,7,7, 4,7,7,7,7, 4,7,7,7,7, 4,7,7,7,7, 4,7,7,7,7, 4,7,7,7,7, 3,7,7,7, 7,7, 6,7,7,7,7,7,7,8,7,7,7,7,7,7]
def lens : List Nat := [0, 0,120,4, 0,6,6,6,6, 0,6,6,6,6, 0,6,6,6,6, 0,6,6,6,6, 0,10, 0,6,6,6,6, 0,6,6,6,6, 0,6,6,6,6, 0,6,6,6,6, 0,6,6,6,6, 0,6,6,6,6, 0,6,6,6,6, 0,6,6,6,6, 0,6,6,6,6, 0,6,6,6,6, 0,6,6,6,6, 0,6,6,6,6, 0,6,6,6, 64,11, 0,6,6,6,26,260,52,2,18,120,24,26,64,11]
def kindOf (k : Nat) : Nat := kinds.getD k 99
def lenOf (k : Nat) : Nat := lens.getD k 0
def enc (g : Gx) (k : Nat) (r : Nat → Int32) (t : Int64) : va_E := match kindOf k with
  | 0 => .inr (0, [.ref (ad g 25), .int (r 1), .int (r 2)])
  | 1 => .inr (1, [.ref (ad g 2), .ref (ad g 3), .int (r 2), .int (r 3), .int (r 4), .int (r 5), .int (r 6), .int (r 7), .int (r 8), .int (r 9)])
  | 2 => .inr (2, [.int (r 0), .int (r 1), .int (r 2), .int (r 3), .ref (ad g (k + 1)), .ref (ad g (k + 2)), .ref (ad g (k + 3)), .ref (ad g (k + 4))])
  | 3 => .inr (3, [.ref (ad g 87), .ref (ad g 88), .ref (ad g 89), .int (r 3)])
  | 4 => .inr (4, [.int (r 0), .int (r 1), .ref (ad g (k + 1)), .ref (ad g (k + 2)), .ref (ad g (k + 3)), .ref (ad g (k + 4))])
  | 5 => .inr (5, [.ref (ad g 1), .ref (ad g 4), .ref (ad g 9), .ref (ad g 14), .ref (ad g 19), .ref (ad g 24), .ref (ad g 76), .ref (ad g 81), .int (r 8), .ref (ad g 86), .ref (ad g 90), .ref (ad g 91), .long t])
  | 6 => .inr (6, [.int (r 0), .ref (ad g 93), .ref (ad g 94), .ref (ad g 95), .int (r 4), .int (r 5), .int (r 6), .ref (ad g 96), .ref (ad g 97), .int (r 9), .ref (ad g 98), .ref (ad g 99), .int (r 12), .ref (ad g 100), .long t, .ref (ad g 101), .int (r 16), .int (r 17), .int (r 18), .int (r 19), .int (r 20), .int (r 21), .int (r 22), .int (r 23), .ref (ad g 102), .int (r 25), .int (r 26), .int (r 27), .ref (ad g 103), .ref (ad g 104), .ref (ad g 105)])
  | 7 => .inl (g.2.2.1, lenOf k, .inl r)
  | 8 => .inl (g.2.2.2.1, lenOf k, .inl r)
  | _ => .inl (g.2.2.2.2, 10, .inr (.inr (.inr (.inr (fun j => some (ad g (26 + 5 * j)))))))
def wl (g : Gx) (w : Wd) : va_W := (List.range 106).map (fun k => (ad g k, enc g k (w.1 k) (w.2 k)))
theorem kind_lt {k n : Nat} (h : kindOf k = n) (hn : n ≠ 99) : k < 106 := by
  rcases Nat.lt_or_ge k 106 with q | q
  · exact q
  · exfalso
    have e : kindOf k = 99 := by
      unfold kindOf
      rw [List.getD_eq_getElem?_getD, List.getElem?_eq_none (show kinds.length ≤ k from q)]
      rfl
    exact hn (h.symm.trans e)
theorem wl_at {g : Gx} {w : Wd} {k : Nat} (hk : k < 106) : (wl g w)[k]? = some (ad g k, enc g k (w.1 k) (w.2 k)) := by
  simp [wl, hk]
theorem wl_len (g : Gx) (w : Wd) : (wl g w).length = 106 := by simp [wl]
theorem wl_inv {g : Gx} {w : Wd} {k : Nat} {q : Nat × va_E} (h : (wl g w)[k]? = some q) : k < 106 ∧ q = (ad g k, enc g k (w.1 k) (w.2 k)) := by
  have hk : k < 106 := by
    have := (List.getElem?_eq_some_iff.mp h).1
    rwa [wl_len] at this
  exact ⟨hk, (Option.some.inj ((wl_at hk).symm.trans h)).symm⟩
theorem wl_D (g : Gx) (w : Wd) : va_D (fun q => g.2.1 ≤ q) (wl g w) := by
  refine ⟨fun i j p q hp hq e => ?_, fun k q hq => ?_⟩
  · obtain ⟨-, rfl⟩ := wl_inv hp
    obtain ⟨-, rfl⟩ := wl_inv hq
    exact Nat.add_left_cancel e
  · obtain ⟨-, rfl⟩ := wl_inv hq
    exact Nat.le_add_right _ _
theorem wl_set {g : Gx} {w w' : Wd} {k : Nat} {e : va_E} (hk : k < 106) (he : enc g k (w'.1 k) (w'.2 k) = e) (ho : ∀ j, j ≠ k → w'.1 j = w.1 j ∧ w'.2 j = w.2 j) : (wl g w).set k (ad g k, e) = wl g w' := by
  subst he
  apply List.ext_getElem?
  intro i
  rcases Nat.lt_or_ge i 106 with hi | hi
  · rw [wl_at hi, List.getElem?_set]
    by_cases hik : k = i
    · subst hik
      simp [wl_len, hk]
    · rw [if_neg hik, wl_at hi]
      obtain ⟨h1, h2⟩ := ho i (fun q => hik q.symm)
      rw [h1, h2]
  · rw [List.getElem?_eq_none (by rw [List.length_set, wl_len]; exact hi), List.getElem?_eq_none (by rw [wl_len]; exact hi)]
theorem wset_off (w : Wd) (k j : Nat) (v : Int32) : ∀ i, i ≠ k → (wset w k j v).1 i = w.1 i ∧ (wset w k j v).2 i = w.2 i := fun i hi => ⟨funext fun b => if_neg (fun q => hi q.1), rfl⟩
theorem lset_off (w : Wd) (k : Nat) (v : Int64) : ∀ i, i ≠ k → (lset w k v).1 i = w.1 i ∧ (lset w k v).2 i = w.2 i := fun i hi => ⟨rfl, if_neg hi⟩
theorem wcpy_off (w : Wd) (ks kd n : Nat) : ∀ i, i ≠ kd → (wcpy w ks kd n).1 i = w.1 i ∧ (wcpy w ks kd n).2 i = w.2 i := fun i hi => ⟨funext fun b => if_neg (fun q => hi q.1), rfl⟩
/-! the words that a callee may be handed, and the nest's -/
def isNst : Cond → Bool
  | .fieldLinkNest .. => true
  | .methodLinkNest .. => true
  | _ => false
def gd_tbl : List Cond := lw_tbl.filter goodWord
def ns_tbl : List Cond := lw_tbl.filter isNst
theorem gd_in {w : Cond} (i : Nat) (h : lw_tbl[i]? = some w) (hg : goodWord w = true) : w ∈ gd_tbl := List.mem_filter.mpr ⟨List.mem_of_getElem? h, hg⟩
theorem ns_in {w : Cond} (i : Nat) (h : lw_tbl[i]? = some w) (hg : isNst w = true) : w ∈ ns_tbl := List.mem_filter.mpr ⟨List.mem_of_getElem? h, hg⟩
theorem gd_good {w : Cond} (h : w ∈ gd_tbl) : (w.onTables && w.keeps) = true ∨ ∃ ty, w = .arrayClass ty := good_of_word (List.mem_filter.mp h).2
theorem ns_warm {w : Cond} (h : w ∈ ns_tbl) {s U : State} (hW : s.WarmedH U.vm) (hZ : va_Nw w s) : va_Nw w U := by
  have hn := (List.mem_filter.mp h).2
  cases w <;> first | exact va_Nw.warmF hW hZ | exact va_Nw.warmM hW hZ | cases hn
theorem ns_on {w : Cond} (h : w ∈ ns_tbl) : w.onTables = true := by
  have hn := (List.mem_filter.mp h).2
  cases w <;> first | rfl | cases hn
/-! what every method is told of the tables -/
def Kk (g : Gx) (U : State) : Prop := va_K g.1 vwCl [(g.2.2.1, .int), (g.2.2.2.1, .boolean), (g.2.2.2.2, .object "DumplingPolls$Stew")] U ∧ ∀ w ∈ ns_tbl, va_Nw w U
theorem Kk.warm {g : Gx} {s U : State} (h : Kk g s) (hW : s.WarmedH U.vm) : Kk g U := ⟨va_K.moved hW.alike h.1, fun w hw => ns_warm hw hW (h.2 w hw)⟩
theorem Kk.same {g : Gx} {s U : State} (h : Kk g s) (hv : s.vm = U.vm) : Kk g U := ⟨va_K.moved (hv ▸ Vm.Alike.refl s.vm) h.1, fun w hw => va_Nw.same (ns_on hw) hv (h.2 w hw)⟩
abbrev Ex : Type := Program × Launch × Env × Room × State × MethodId × Array Value × List Frame × Method × Code × Nat × Nat × (State → Prop) × Unit
abbrev Ex.p (E : Ex) : Program := E.1
abbrev Ex.l (E : Ex) : Launch := E.2.1
abbrev Ex.e (E : Ex) : Env := E.2.2.1
abbrev Ex.R (E : Ex) : Room := E.2.2.2.1
abbrev Ex.s (E : Ex) : State := E.2.2.2.2.1
abbrev Ex.m (E : Ex) : MethodId := E.2.2.2.2.2.1
abbrev Ex.args (E : Ex) : Array Value := E.2.2.2.2.2.2.1
abbrev Ex.below (E : Ex) : List Frame := E.2.2.2.2.2.2.2.1
abbrev Ex.meth (E : Ex) : Method := E.2.2.2.2.2.2.2.2.1
abbrev Ex.c (E : Ex) : Code := E.2.2.2.2.2.2.2.2.2.1
abbrev Ex.cells (E : Ex) : Nat := E.2.2.2.2.2.2.2.2.2.2.1
abbrev Ex.slots (E : Ex) : Nat := E.2.2.2.2.2.2.2.2.2.2.2.1
abbrev Ex.Q (E : Ex) : State → Prop := E.2.2.2.2.2.2.2.2.2.2.2.2.1
/-- where a method stands: its class, its bytes, its room, its locals' number -/
def Ctx (E : Ex) (own : String) (cc : ByteArray) (rm : Room) (nL : Nat) (g : Gx) : Prop :=
  E.p.tables.exec = Jvm.exec ∧ E.c.code = cc ∧ E.c.maxLocals = nL ∧ E.s.vm.findClass own = some E.m.cls ∧ (∀ w ∈ gd_tbl, w.before E.args E.s = true) ∧ Kk g E.s ∧ E.R = rm ∧ E.cells ≤ rm.cells ∧ E.slots ≤ rm.slots
def Xx (E : Ex) (nL : Nat) (g : Gx) (pc : Nat) (L : List (Nat × Value)) (st : List Value) (w : Wd) : Prop :=
  ∀ (H : Heap) (locs : List Loc) (ls : Array Slot), va_P g.1 vwCl (wl g w) H → va_S (fun q => g.2.1 ≤ q) E.s.heap H locs → lv_has ls nL L → W E.p E.l E.e E.R E.s E.m E.args E.below E.meth E.c H locs E.cells E.slots E.Q (F0 E.m pc ls st)
/-! a method's contract: the whole world, before and behind -/
def Pm (g : Gx) (av : List Value) (w : Wd) : Array Value → State → Prop := va_Pc av (fun U => va_P g.1 vwCl (wl g w) U.heap ∧ Kk g U)
def Qm (g : Gx) (o : Option Value) (w' : Wd) : Array Value → State → Outcome → State → Prop := fun _ st oc t => oc = .returned o ∧ va_P g.1 vwCl (wl g w') t.heap ∧ va_F (fun q => g.2.1 ≤ q) st t
def MetM (l : Launch) (y : MethodName) (cc : ByteArray) (maxL : Nat) (ret : Option FieldType) (rm : Room) (g : Gx) (av : List Value) (w : Wd) (o : Option Value) (w' : Wd) : Prop :=
  Met l y (.code y cc maxL ret :: gd_tbl) rm (Pm g av w) (Qm g o w') 0 0 (fun q => g.2.1 ≤ q)
def Rets (E : Ex) (g : Gx) (ret : Option FieldType) (o : Option Value) (w' : Wd) : Prop :=
  E.Q = MQ E.below (Qm g o w') E.args E.s E.cells E.slots (fun q => g.2.1 ≤ q) ∧ E.meth.sig.returnType = ret ∧ E.meth.locks = false
theorem Pm_blind (g : Gx) (av : List Value) (w : Wd) : FrameBlind (Pm g av w) := fun a U f mk h => ⟨h.1, h.2.1, h.2.2.same (U := U.calling f mk a) rfl⟩
theorem met_of {l : Launch} {y : MethodName} {cc : ByteArray} {maxL : Nat} {ret : Option FieldType} {rm : Room} {g : Gx} {av : List Value} {w w' : Wd} {o : Option Value} (hy : plainName y.cls = true) (hn : (lg_sl av).length ≤ maxL)
    (body : ∀ E : Ex, E.l = l → Ctx E y.cls cc rm maxL g → Rets E g ret o w' → Xx E maxL g 0 (lv_args 0 av) [] w) : MetM l y cc maxL ret rm g av w o w' := by
  refine Met.ofW (cc := cc) (maxL := maxL) (ret := ret) hy rfl ?_
  intro p e s m args below meth c s₁ B hml hv
  obtain ⟨rfl, hP, hK⟩ := hv
  have hts := atoms_spec (ws := .code y cc maxL ret :: gd_tbl) B.pre
  have hown : s.vm.findClass y.cls = some m.cls := findClass_of_methodNamed B.named
  have hb := body (p, l, e, rm, s, m, av.toArray, below, meth, c, 0, 0, MQ below (Qm g o w') av.toArray s 0 0 (fun q => g.2.1 ≤ q), ()) rfl
    ⟨B.exec, B.bytes, hml, hown, fun x hx => hts x (List.mem_cons_of_mem _ hx), hK, rfl, Nat.zero_le _, Nat.zero_le _⟩ ⟨rfl, B.returns, B.notSynchronized⟩
  rw [lg_entry_eq]
  exact hb s.heap [] _ hP va_S.rf (lv_entry av hn)
/-! the pieces of the functions -/
def bnd {α β : Type} (a : α) (f : α → Option β) : Option β := f a
def grd {β : Type} (b : Bool) (x : Option β) : Option β := match b with
  | true => x
  | false => none
def cal {α β : Type} (o : Option (α × Wd)) (f : α → Wd → Option β) : Option β := match o with
  | none => none
  | some q => f q.1 q.2
def inb (i : Int32) (n : Nat) : Bool := !(decide (i < 0) || decide (n ≤ i.toNatClampNeg))
theorem bd {α β : Type} {a : α} {f : α → Option β} {r : β} (h : bnd a f = some r) : ∃ x, x = a ∧ f x = some r := ⟨a, rfl, h⟩
theorem gd {β : Type} {b : Bool} {x : Option β} {r : β} (h : grd b x = some r) : b = true ∧ x = some r := by
  cases b with
  | true => exact ⟨rfl, h⟩
  | false => cases h
theorem cl {α β : Type} {o : Option (α × Wd)} {f : α → Wd → Option β} {r : β} (h : cal o f = some r) : ∃ a w, o = some (a, w) ∧ f a w = some r := by
  cases o with
  | none => cases h
  | some q => exact ⟨q.1, q.2, rfl, h⟩
theorem rt {α : Type} {a b : α} {w w' : Wd} (h : some (a, w) = some (b, w')) : b = a ∧ w' = w := by
  have e := Option.some.inj h
  exact ⟨(congrArg Prod.fst e).symm, (congrArg Prod.snd e).symm⟩
theorem ip {β : Type} {c : Prop} {dc : Decidable c} {A B : Option β} {r : β} (hc : c) (h : @ite _ c dc A B = some r) : A = some r := by rwa [if_pos hc] at h
theorem iq {β : Type} {c : Prop} {dc : Decidable c} {A B : Option β} {r : β} (hc : ¬ c) (h : @ite _ c dc A B = some r) : B = some r := by rwa [if_neg hc] at h
theorem inb_in {i : Int32} {n : Nat} (h : inb i n = true) : vp_in i n := by
  unfold inb at h
  intro q
  rcases q with q | q
  · simp [q] at h
  · simp [q] at h
