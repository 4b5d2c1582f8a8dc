theorem pay1 {args : Array Value} {s : State} {w : Cond} (hT : ∀ w ∈ tblG, w.before args s = true) (h : w ∈ tblG) : ∀ (a' : Array Value) (U : State), s.WarmedH U.vm → w.before a' U = true := fun _ _ hW => word_at hW (tg_self h).2 (hT w h)
def ex_N (E N : String) (U : State) : Prop := ∃ (c d : ClassId), U.vm.findClass E = some c ∧ U.vm.findClass N = some d ∧ U.vm.assignable c d = false
theorem ex_N_move {E N : String} {s U : State} (hvm : s.vm.Alike U.vm) (h : ex_N E N s) : ex_N E N U := by
  obtain ⟨c, d, h1, h2, h3⟩ := h
  exact ⟨c, d, by rw [hvm.findClass]; exact h1, by rw [hvm.findClass]; exact h2, by rw [hvm.assignable]; exact h3⟩
theorem ex_locs {D : va_G} {cl : List vw_C} {ws : va_W} {A : Nat → Prop} {locs : List Loc} {H : Heap} {s : State} (hP0 : va_P D cl ws s.heap) (hA : ∀ q, A q → va_A ws s.heap.size q) (hS : va_S A s.heap H locs) : ∀ x ∈ locs, ∀ cell, s.heap[x.base]? = some cell → cell.vm.isStatics = false := by
  intro x hx cell hc
  rcases hA _ (hS.2.2 x hx) with ⟨k, e, hk⟩ | h
  · have h1 := hP0 k _ hk
    cases e with
    | inl a =>
      have h2 : s.heap[x.base]? = some (vp_cell a.1 a.2) := h1
      rw [h2] at hc
      obtain rfl := Option.some.inj hc
      have h3 : (vp_cell a.1 a.2).vm = .none := by unfold vp_cell; split <;> rfl
      rw [h3]; rfl
    | inr o =>
      obtain ⟨r, -, cell', h3, -, h4, -⟩ := h1
      have h5 : s.heap[x.base]? = some cell' := h3
      rw [h5] at hc
      obtain rfl := Option.some.inj hc
      rw [h4]; rfl
  · have h1 := (Array.getElem?_eq_some_iff.mp hc).1
    omega
/-! ex_: a method that throws, with the world that it leaves (own rows over 05.throws). -/
section Ex2
variable {p : Program} {l : Launch} {e : Env} {R : Room} {s : State} {m : MethodId} {args : Array Value} {below : List Frame} {meth : Method} {c : Code} {H : Heap} {locs : List Loc} {cells slots : Nat}
theorem va_Pk {D : va_G} {cl : List vw_C} {ws : va_W} {H H1 : Heap} (hP : va_P D cl ws H) (hk : ∀ q : Nat, q < H.size → H1[q]? = H[q]?) : va_P D cl ws H1 := hP.kept (fun k q h => hk q.1 (hP k q h).lt)
/-- the same place, told from the heap that stands there -/
theorem ex_base {T : State} (X : Stand p l e R s m args below meth c T locs cells slots) (h1 : cells ≤ R.cells) (h2 : slots ≤ R.slots) :
    Stand p l e ({ R with cells := R.cells - cells, slots := R.slots - slots } : Room) ({ s with heap := T.heap, slotsUsed := T.slotsUsed } : State) m args below meth c T [] 0 0 := by
  have hz := X.heapSize
  have hu := X.used
  have hb := X.book
  refine ⟨X.admits, X.cas, X.clock, X.frames, ?_, X.hears, X.method, X.code, X.here, X.tail, X.warmed, X.limits, X.bytes, ?_⟩
  · have h := X.room
    simp only [State.hasRoom, Bool.and_eq_true, decide_eq_true_eq] at h ⊢
    obtain ⟨⟨⟨⟨a1, a2⟩, a3⟩, a4⟩, a5⟩ := h
    refine ⟨⟨⟨⟨a1, a2⟩, ?_⟩, ?_⟩, hb⟩
    · show T.heap.size + (R.cells - cells) ≤ _
      omega
    · show T.slotsUsed + (R.slots - slots) ≤ _
      omega
  · have h := X.same.1
    refine ⟨h, Nat.le_refl _, Nat.le_refl _, ?_, ?_, fun a c9 h9 => ⟨c9, h9, rfl, rfl, fun _ _ => rfl⟩⟩
    · show T.slotsUsed = T.slotsUsed + ((T.heap.toList.drop T.heap.size).map (·.slots.size)).sum
      rw [List.drop_of_length_le (by simp)]
      rfl
    · show ((T.heap.toList.drop T.heap.size).map (·.slots.size)).sum ≤ 0
      rw [List.drop_of_length_le (by simp)]
      exact Nat.le_refl _
theorem ex_frm {x T : State} {F0 F : List Frame} {h : Heap} {u : Nat} (e : T = ({ x.setFrames F0 with heap := h, slotsUsed := u } : State)) : T.setFrames F = ({ x.setFrames F with heap := h, slotsUsed := u } : State) := by
  subst e
  have k : (x.setFrames F0).setFrames F = x.setFrames F := State.setFrames_setFrames ..
  exact congrArg (fun z : State => ({ z with heap := h, slotsUsed := u } : State)) k
theorem ex_back {T U : State} {k n : Nat} (X : Stand p l e R s m args below meth c T locs cells slots) (h : ({ s with heap := T.heap, slotsUsed := T.slotsUsed } : State).sameButNew ({ U with vm := s.vm } : State) [] k n) : s.sameButNew ({ U with vm := s.vm } : State) locs (cells + k) (slots + n) := by
  have h0 : (T.setVm s.vm).sameButNew ({ U with vm := s.vm } : State) [] k n := by
    obtain ⟨a1, a2⟩ := h
    have k1 := ex_frm (F := ({ U with vm := s.vm } : State).frames) X.same.1
    refine ⟨?_, a2⟩
    rw [k1]
    exact a1
  have h1 := X.same.trans h0
  rw [List.append_nil] at h1
  exact h1
theorem ex_stays {T : State} (X : Stand p l e R s m args below meth c T locs cells slots) (hlocs : ∀ x ∈ locs, ∀ cell, s.heap[x.base]? = some cell → cell.vm.isStatics = false) {a : Nat} {cell : Cell} (h : s.heap[a]? = some cell) (hv : cell.vm.isStatics = true) : T.heap[a]? = some cell := by
  obtain ⟨c9, e1, e2, -, e4⟩ := X.same.2.2.2.2.2 a cell h
  have hs : c9.slots = cell.slots := Array.ext_getElem? fun i => e4 i fun hm => by
    have h8 := hlocs _ hm cell h
    rw [hv] at h8
    cases h8
  rw [hs] at e2
  have e5 : T.heap[a]? = some c9 := e1
  rw [e5, e2]
theorem ex_Y_base {n d : String} {T : State} (hq : ∀ (a : Nat) (cell : Cell), s.heap[a]? = some cell → cell.vm.isStatics = true → T.heap[a]? = some cell) (h : ex_Y n d s) : ex_Y n d ({ s with heap := T.heap, slotsUsed := T.slotsUsed } : State) := by
  obtain ⟨c, k, i, f, a, cell, v, h1, h2, h3, h4, h5, h6, h7, h8, h9, hv, hr⟩ := h
  exact ⟨c, k, i, f, a, cell, v, h1, h2, h3, h4, hq a cell h5 h6, h6, h7, h8, h9, hv, hr⟩
theorem ex_Z_base {cls : String} {T : State} (hq : ∀ (a : Nat) (cell : Cell), s.heap[a]? = some cell → cell.vm.isStatics = true → T.heap[a]? = some cell) (h : ex_Z cls s) : ex_Z cls ({ s with heap := T.heap, slotsUsed := T.slotsUsed } : State) := by
  obtain ⟨h1, h3, h4, h5, h6, h7⟩ := h
  exact ⟨h1, ex_Y_base hq h3, ex_Y_base hq h4, ex_D_move (Vm.Alike.refl _) h5, ex_D_move (Vm.Alike.refl _) h6, ex_D_move (Vm.Alike.refl _) h7⟩
def ex_TQ {S : Type} (E : String) (post : S → Prop) (B : S → State → Prop) (A : Nat → Prop) (mc ms : Nat) : Array Value → State → Outcome → State → Prop := fun a st o t => ex_T E A mc ms a st o t ∧ ∃ u : S, post u ∧ B u t
def ex_MetQ {S : Type} (l : Launch) (y : MethodName) (ws : List Cond) (rm : Room) (Pc : Array Value → State → Prop) (E : String) (post : S → Prop) (B : S → State → Prop) (A : Nat → Prop) (mc ms : Nat) : Prop :=
  MetFree l y (headSpec ws rm) Pc (fun _ _ _ _ _ => True) (ex_TQ E post B A mc ms)
def ex_MQQ {S : Type} (below : List Frame) (E : String) (post : S → Prop) (B : S → State → Prop) (A : Nat → Prop) (a : Array Value) (s : State) (mc ms : Nat) : State → Prop := fun t =>
  ∃ o, t.status = .running ∧ Ended t below o ∧ ex_TQ E post B A mc ms a s o t
/-- 'throw new cls()', with what the heap holds behind it -/
theorem ex_throwQ {S : Type} {post : S → Prop} {B : S → State → Prop} {cc : ByteArray} {pc : Nat} {ls : Array Slot} {rest : List Value} (hexec : p.tables.exec = Jvm.exec) (hb : c.code = cc) (hl : l.stackTraces = false) {own cls : String} {names : List String} {ik ic mc ms : Nat} {A : Nat → Prop}
    (hown : s.vm.findClass own = some m.cls) (hcls : Bundle.fit cls = true) (hnames : ∀ n ∈ names, Bundle.fit n = true)
    (hk : ∀ (a' : Array Value) (U : State), s.WarmedH U.vm → (Cond.classLink own ik cls).before a' U = true) (hini : ∀ (a' : Array Value) (U : State), s.WarmedH U.vm → (Cond.initialized cls).before a' U = true) (hat : ∀ w ∈ ex_ow own ic cls names, ∀ (a' : Array Value) (U : State), s.WarmedH U.vm → w.before a' U = true) (hz : ex_Z cls s)
    (hlocs : ∀ x ∈ locs, ∀ cell, s.heap[x.base]? = some cell → cell.vm.isStatics = false) (hsize : ls.size = c.maxLocals)
    (d0 : decode cc pc = .ok (.new ik, 3)) (d3 : decode cc (pc + 3) = .ok (.dup, 1)) (d4 : decode cc (pc + 4) = .ok (.invokespecial ic, 3)) (d7 : decode cc (pc + 7) = .ok (.athrow, 1))
    (hout : ∀ x ∈ c.exceptionTable.toList, False) (hRf : names.length + 3 < R.frames) (hRl : (rest.map fun v => v.category).sum + (13 * (names.length + 1) + 42) ≤ R.locals) (hRc : cells + 1 ≤ R.cells) (hRs : slots + 6 ≤ R.slots) (hlocks : meth.locks = false)
    (hS : va_S A s.heap H locs) (hc : cells + 1 ≤ mc) (hs : slots + 6 ≤ ms) (hq : ∀ t : State, (∀ q : Nat, q < H.size → t.heap[q]? = H[q]?) → s.vm.Alike t.vm → t.heap.size ≤ s.heap.size + (cells + 1) → hsm t.heap ≤ hsm s.heap + (slots + 6) → ∃ u : S, post u ∧ B u t) : W p l e R s m args below meth c H locs cells slots (ex_MQQ below cls post B A args s mc ms) (F0 m pc ls rest) := by
  intro T hT X
  have htr : e.platform.stackTraces = false := (show e.platform.stackTraces = l.stackTraces by rw [X.admits.platform]).trans hl
  have Xb := ex_base X (by omega) (by omega)
  have hW0 : s.WarmedH ({ s with heap := T.heap, slotsUsed := T.slotsUsed } : State).vm := State.WarmedH.refl s
  have hall := ex_words (args := args) (own := own) (ic := ic) (cls := cls) (names := names) (fun w hw => hat w hw args _ hW0) (ex_Z_base (T := T) (fun a cell h1 h2 => ex_stays X hlocs h1 h2) hz)
  have hkb := hk args _ hW0
  have hinib := hini args _ hW0
  generalize hse : ({ s with heap := T.heap, slotsUsed := T.slotsUsed } : State) = sb at Xb hall hkb hinib
  have hvb : sb.vm = s.vm := by rw [← hse]
  have hhb : sb.heap = T.heap := by rw [← hse]
  have hins : (Cond.instantiable cls 6).before args sb = true := hall _ (by simp [Bundle.ownAtoms0])
  have hownb : sb.vm.findClass own = some m.cls := by rw [hvb]; exact hown
  obtain ⟨vm₁, cX, kX, hfX, hkX, -, -, X₁, st1⟩ := Xb.newCold hexec (own := own) (C := cls) (index := ik) (n := 6) hownb hkb hins hinib (g := F0 m pc ls rest) rfl (by rw [hb]; exact d0) (by show 0 + 1 ≤ R.cells - cells; omega) (by show 0 + 6 ≤ R.slots - slots; omega)
  generalize hT1 : (T.setVm vm₁).pushCell { cls := cX, slots := kX.instanceTypes.map defaultValue, vm := .none } = T1 at X₁ st1
  have hcat : (Value.ref T.heap.size).category = 1 := rfl
  have hcellA : T1.heap[T.heap.size]? = some (freshCell cX kX) := by rw [← hT1]; exact State.heap_pushCell_size _ _
  have d3' : decode c.code (pc + 3) = .ok (.dup, 1) := by rw [hb]; exact d3
  obtain ⟨U, hsteps, hrun, hend, hW, hsame, ce, hce, hO⟩ := X₁.ctorThrow0 hexec htr (own := own) (cls := cls) (names := names) (ic := ic) hownb hcls hnames hall (fun x hx => nomatch hx) hfX hkX hcellA (by rw [hhb]; exact Nat.le_refl _)
    (g := { method := m, pc := pc + 4, locals := ls, stack := .ref T.heap.size :: .ref T.heap.size :: rest, locked := none }) rfl hsize rfl rfl (rest := rest) rfl
    (by rw [hb]; exact d4) (by rw [hb]; exact d7) (fun x hx => (hout x hx).elim) hRf (by simp only [List.map_cons, List.sum_cons, hcat]; omega) hlocks
  have hold : ∀ q : Nat, q < H.size → U.heap[q]? = H[q]? := by
    intro q h9
    rw [← hT] at h9 ⊢
    have h8 := hsame.old_cell (a := q) (c := T.heap[q]) (by rw [hhb]; exact Array.getElem?_eq_getElem h9)
    rw [Array.getElem?_eq_getElem h9]
    exact h8
  rw [hvb] at hsame
  have hWs : s.WarmedH U.vm := by
    subst hse
    exact hW
  have hcl : s.vm.findClass cls = some ce.cls := by
    have h9 := hO.cls
    rw [hvb] at h9
    exact h9
  have hb2 := ex_back (U := U) (k := 0 + 1) (n := 0 + 6) X (by rw [hse]; exact hsame)
  refine ⟨U, ?_, .threw T.heap.size, hrun, hend, ⟨T.heap.size, ce, locs, rfl, hce, hO.vm, hcl, hWs, hb2.mono (by omega) (by omega), hS.2.2, ex_frame hS.2.2 hb2⟩, hq U hold hWs.alike hb2.2.2.1 ?_⟩
  rotate_left
  · have f1 : U.slotsUsed = s.slotsUsed + _ := hb2.2.2.2.1
    have f2 := hb2.2.2.2.2.1
    have f4 : ({ U with vm := s.vm } : State).slotsTrue = true := State.slotsTrue_of_sameButNew (wk_s X) hb2
    have f3 : U.slotsTrue = true := f4
    rw [← hsm_T f3, ← hsm_T (wk_s X), f1]
    exact Nat.add_le_add_left f2 _
  refine st1 _ ?_
  show Steps p.tables e below (T1.setTop { method := m, pc := pc + 3, locals := ls, stack := .ref T.heap.size :: rest, locked := none }) _
  jvm_step X₁.here [X₁.here.top, hexec, d3', Value.category]
  exact hsteps
/-- a call of a method that throws, with its world -/
theorem ex_runVQ {S9 : Type} {post : S9 → Prop} {B : S9 → State → Prop} {Q : State → Prop} {y : MethodName} {bytes cc : ByteArray} {maxL nL mc ms n index pc : Nat} {ret : Option FieldType} {ws : List Cond} {rm : Room} {Pc : Array Value → State → Prop} {E : String} {A1 : Nat → Prop} {Ts : List Cond} {own C : String} {b : Addr} {As rest st0 : List Value} {ls : Array Slot}
    (S : CallFix p m c cc nL s args Ts own) (hM : ex_MetQ l y ws rm Pc E post B A1 mc ms) (cw : CallW R s args own C index y bytes maxL ret ws rm mc ms n) (hp : PreV s H C b Pc As)
    (hn : As.length = n) (hsize : ls.size = nL) (hstack : st0 = As.reverse ++ .ref b :: rest) (hW : 2 * (F0 m pc ls rest).monitorRoom + (rest.map fun v => v.category).sum ≤ 8) (hdg : decode cc pc = .ok (.invokevirtual index, 3)) (hf : cells + mc ≤ R.cells ∧ slots + ms ≤ R.slots)
    (kk : ∀ (q : Nat) (ce : Cell) (H1 : Heap) (locs1 : List Loc), H1[q]? = some ce → ce.vm = .none → s.vm.findClass E = some ce.cls → H.size ≤ H1.size → (∀ z : Nat, z < H.size → ¬ A1 z → H1[z]? = H[z]?) → (∀ z ∈ locs1, z ∈ locs ∨ A1 z.base) → ∀ (u : S9) (t : State), t.heap = H1 → s.vm.Alike t.vm → post u → B u t →
      ex_W p l e R s m args below meth c H1 locs1 (cells + mc) (slots + ms) Q (F0 m pc ls rest) q) : W p l e R s m args below meth c H locs cells slots Q (F0 m pc ls st0) := by
  obtain ⟨⟨hrc, hrs, hfr, hlo, hws, hcw, hcode, hini, hy, hlen, hl⟩, hin, hse⟩ := cw
  obtain ⟨hx, hb, hml, ho, -⟩ := S
  obtain ⟨hbl, ⟨cellB, hcB, hoB, hclB⟩, hPc⟩ := hp
  intro T hT X
  obtain ⟨mk, methM, hnamed, hmethM, hstM, habM⟩ := Cond.instanceMethod_spec hin
  obtain ⟨methM', cM, hmethM', hcM, -, hlM, -, -, -, hsigM⟩ := Cond.code_spec hnamed hcode
  cases hmethM.symm.trans hmethM'
  obtain ⟨c2, r2, m2, q1, q2, q3, q4, kP, hkP, hkPi⟩ := Cond.selects_spec hse
  cases hclB.symm.trans q1
  cases (State.methodFound?_of_named hnamed hy).symm.trans q2
  cases hnamed.symm.trans q3
  have hselP : selectMethod e.platform s.vm cellB.cls mk = .method mk := by rw [Launch.admits_selectMethod X.admits]; exact q4
  obtain ⟨vm₁, X₁, hstep₁⟩ := X.invokevirtual hx ho hl hnamed hmethM hstM hkP hkPi hy (a := b) (cell := cellB) (by rw [hT]; exact hcB) (fun z h => by rw [h] at hoB; cases hoB) hselP hmethM habM hkP hkPi (g := F0 m pc ls st0) rfl (argsL := As) (rest := rest) (hn.trans (hlen _ hsigM)) hstack (by rw [hb]; exact hdg)
  have hnU : (T.setVm vm₁).methodNamed? y = some mk := X₁.named hnamed
  have h2 : (Cond.code y bytes maxL ret).before (Value.ref b :: As).toArray (T.setVm vm₁) = true := hws _ hcw _ _ X₁.warmed
  have h3 : (Cond.initialized y.cls).before (Value.ref b :: As).toArray (T.setVm vm₁) = true := word_at X₁.warmed (Or.inl (by first | rfl | simp [Cond.onTables, Cond.keeps, Cond.steady])) hini
  obtain ⟨methY, cY, hmY, hcY, -, hlY, -, -, -, -⟩ := Cond.code_spec hnU h2
  obtain ⟨kY, hkY, -⟩ := className_of_methodNamed hnU
  have hinitY : kY.init = .initialized := Cond.initialized_spec (findClass_of_methodNamed hnU) hkY h3
  have hlo9 : 8 + (maxL + 11) + (headSpec ws rm).room.locals ≤ R.locals := hlo
  have hc9 : cells + (headSpec ws rm).room.cells ≤ R.cells := by rw [show (headSpec ws rm).room.cells = mc from hrc]; exact hf.1
  have hs9 : slots + (headSpec ws rm).room.slots ≤ R.slots := by rw [show (headSpec ws rm).room.slots = ms from hrs]; exact hf.2
  have hA9 : At (T.setVm vm₁) (F0 m pc ls rest).method c below := X₁.here
  have happ : (headSpec ws rm).appliesLoose y e.platform ((T.setVm vm₁).calling (F0 m pc ls rest) mk (Value.ref b :: As).toArray) = true :=
    Spec.appliesLoose_calling (g := F0 m pc ls rest) hA9 (by rw [hb]; exact hdg) hnU hkY hinitY
      (X₁.room_calling (g := F0 m pc ls rest) (R' := (headSpec ws rm).room) (hsize.trans hml.symm) hmY hcY hfr (by rw [hlY]; show 2 * (F0 m pc ls rest).monitorRoom + (rest.map fun v => v.category).sum + (maxL + 11) + (headSpec ws rm).room.locals ≤ R.locals; omega) hc9 hs9) (atoms_intro fun w hw => hws w hw _ _ X₁.warmed)
  have hfr9 : ((T.setVm vm₁).setTop (F0 m pc ls rest)).frames = .java (F0 m pc ls rest) :: below := by rw [State.frames_setTop' (F0 m pc ls rest) hA9.top, X₁.tail]
  obtain ⟨o, s₂, hsteps, -, hend, hq⟩ := Steps.callFree hM p X₁.admits X₁.cas X₁.clock (acts := []) (mid := [.java (F0 m pc ls rest)]) (below := below) hfr9 happ (hbl _ _ _ _ (hPc (T.setVm vm₁) hT X₁.warmed)) trivial
  rw [hfr9] at hend
  obtain ⟨⟨q, ce, L, rfl, hce, hcv, hcl, hW2, hsm, hL, hF⟩, u9, hu9, hB9⟩ := hq
  obtain ⟨T', X', -, -, ht⟩ := X₁.outOfThrown (g := F0 m pc ls rest) (mk := mk) (a := (Value.ref b :: As).toArray) rfl hend hW2 hsm
  have hh : T'.heap = s₂.heap := by rw [ht]; exact (Stand.throwing_heap T' (F0 m pc ls rest) q).symm
  have hcl' : s.vm.findClass E = some ce.cls := by
    have h1 : (T.setVm vm₁).vm.findClass E = some ce.cls := hcl
    rw [X₁.warmed.alike.findClass] at h1
    exact h1
  have hal9 : s.vm.Alike s₂.vm := X₁.warmed.alike.trans (show (T.setVm vm₁).vm.Alike s₂.vm from hW2.alike)
  obtain ⟨hz1, hk1⟩ := hF
  have hz1' : H.size ≤ s₂.heap.size := by rw [← hT]; exact hz1
  have hk1' : ∀ z : Nat, z < H.size → ¬ A1 z → s₂.heap[z]? = H[z]? := fun z h1 h2 => by rw [← hT] at h1 ⊢; exact hk1 z h1 h2
  obtain ⟨t2, a1, b1⟩ := kk q ce T'.heap (locs ++ L) (by rw [hh]; exact hce) hcv hcl' (by rw [hh]; exact hz1') (fun z h1 h2 => by rw [hh]; exact hk1' z h1 h2) (fun z hz => (List.mem_append.mp hz).elim Or.inl (fun h => Or.inr (hL z h))) u9 s₂ hh.symm hal9 hu9 hB9 T' rfl X'
  refine ⟨t2, hstep₁ _ (fun acts => ?_), b1⟩
  rw [doInvoke_state]
  rw [← ht] at a1
  exact hsteps.trans a1
/-- the search in the table of handlers: the first row does not take it -/
theorem ex_goN {f : JFrame} {a : Addr} {S : State} {x : ExceptionTableEntry} {t : List ExceptionTableEntry} {k : ClassId} {cell : Cell} (hx : covers x f.pc = true) (h0 : x.catchType ≠ 0) (hl : S.vm.ClassLinks e.platform f.method.cls x.catchType k) (hcell : S.heap[a]? = some cell) (hobj : ∀ k, cell.vm ≠ .statics k)
    (hk : ∃ k, S.vm.classes[cell.cls]? = some k) (hc : ∃ q, S.vm.classes[k]? = some q) (hfit : S.vm.assignable cell.cls k = false) {Q9 : Handler → Bool → List Action → State → Prop} {E9 : CtlPost} {d9 : Bool} {acts : List Action} :
    wp (findHandler.go f a (x :: t)) Q9 E9 e d9 acts S ↔ wp (findHandler.go f a t) Q9 E9 e d9 acts (S.setVm (S.vm.noted f.method.cls x.catchType (.cls k))) := by
  simp only [covers] at hx
  obtain ⟨ha, ht⟩ := (resolveClass_links e.toSetting hl).op (op := VmOp.resolveClass f.method.cls x.catchType) rfl
  have hal : S.vm.Alike (S.vm.noted f.method.cls x.catchType (.cls k)) := (Vm.Alike.refl S.vm).noted _ _ _
  obtain ⟨k1, hk1⟩ := hk
  obtain ⟨k2, hk2⟩ := hc
  obtain ⟨k1', hk1', -⟩ := hal.2.2 _ _ hk1
  obtain ⟨k2', hk2', -⟩ := hal.2.2 _ _ hk2
  have hfit' : (S.vm.noted f.method.cls x.catchType (.cls k)).assignable cell.cls k = false := by rw [hal.assignable]; exact hfit
  simp [findHandler.go, hx, h0, ha, ht, hcell, hobj, hk1', hk2', hfit', VmOp.dirties, VmOp.acts]
theorem ex_catch2 {Q : State → Prop} {own name0 name E : String} {ce : Cell} {q : Addr} {pc : Nat} {ls : Array Slot} {rest : List Value} (hown : s.vm.findClass own = some m.cls) (y x : ExceptionTableEntry) (suf : List ExceptionTableEntry) (hsplit : c.exceptionTable.toList = y :: x :: suf)
    (hy : covers y pc = true) (hy0 : y.catchType ≠ 0) (hx : covers x pc = true) (h0 : x.catchType ≠ 0) (hlinkY : (Cond.classLink own y.catchType name0).before args s = true) (hlink : (Cond.classLink own x.catchType name).before args s = true) (hnot : ex_N E name0 s) (hcast : (Cond.castable E name).before args s = true) (hcell : H[q]? = some ce) (hv : ce.vm = .none) (hcl : s.vm.findClass E = some ce.cls)
    (kk : W p l e R s m args below meth c H locs cells slots Q (F0 m x.handlerPc ls [.ref q])) : ex_W p l e R s m args below meth c H locs cells slots Q (F0 m pc ls rest) q := by
  intro T hT X
  have hpl : e.platform.magicAccessors = ({} : Platform).magicAccessors := by rw [X.admits.platform]
  obtain ⟨c3, c4, hc3, hc4, hasg⟩ := Cond.castable_spec hcast
  cases Option.some.inj (hc3.symm.trans hcl)
  obtain ⟨c5, hc5, hcl5⟩ := Cond.classLink_spec hown hlink e.platform hpl
  cases Option.some.inj (hc4.symm.trans hc5)
  obtain ⟨n1, n2, hn1, hn2, hn3⟩ := hnot
  cases Option.some.inj (hn1.symm.trans hcl)
  obtain ⟨c6, hc6, hcl6⟩ := Cond.classLink_spec hown hlinkY e.platform hpl
  cases Option.some.inj (hn2.symm.trans hc6)
  obtain ⟨dy, _, _, ky, hdy, _, _, _, _, hky, _, hopeny⟩ := hcl6.here
  obtain ⟨dk, _, _, kt, hd, _, _, _, _, hkt, _, hopen⟩ := hcl5.here
  have hWy : s.WarmedH (T.vm.noted m.cls y.catchType (.cls n2)) := X.warmed.noted hdy hopeny (State.rightAt_cls hcl6)
  have hW' : s.WarmedH ((T.vm.noted m.cls y.catchType (.cls n2)).noted m.cls x.catchType (.cls c4)) := hWy.noted hd hopen (State.rightAt_cls hcl5)
  obtain ⟨ky', hky', -⟩ := X.warmed.alike.2.2 _ _ hky
  obtain ⟨kt', hkt', -⟩ := hWy.alike.2.2 _ _ hkt
  have hfitY : T.vm.assignable ce.cls n2 = false := by rw [X.warmed.alike.assignable]; exact hn3
  have hfit' : (T.vm.noted m.cls y.catchType (.cls n2)).assignable ce.cls c4 = true := by rw [hWy.alike.assignable]; exact hasg
  have hclY : T.vm.ClassLinks e.platform m.cls y.catchType n2 := X.warmed.classLinks hcl6
  have hcl₀ : (T.vm.noted m.cls y.catchType (.cls n2)).ClassLinks e.platform m.cls x.catchType c4 := hWy.classLinks hcl5
  have hobj : ∀ k, ce.vm ≠ .statics k := fun k h => by rw [hv] at h; cases h
  have hkc : ∃ k, (T.vm.noted m.cls y.catchType (.cls n2)).classes[ce.cls]? = some k := Vm.classAt_of_assignable hfit' ⟨kt', hkt'⟩
  have hkc0 : ∃ k, T.vm.classes[ce.cls]? = some k := by
    have h9 : s.vm.assignable ce.cls c4 = true := hasg
    have h8 : T.vm.assignable ce.cls c4 = true := by rw [X.warmed.alike.assignable]; exact h9
    obtain ⟨k9, hk9, -⟩ := X.warmed.alike.2.2 _ _ hkt
    exact Vm.classAt_of_assignable h8 ⟨k9, hk9⟩
  obtain ⟨t, a1, b1⟩ := kk (T.setVm ((T.vm.noted m.cls y.catchType (.cls n2)).noted m.cls x.catchType (.cls c4))) hT (X.noted hW')
  refine ⟨t, ?_, b1⟩
  obtain ⟨hgo, hw⟩ := At.throwing (g := F0 m pc ls rest) X.here q
  refine Steps.head hgo hw ?_
  have hfind : ∀ (Q9 : Handler → Bool → List Action → State → Prop) (E9 : CtlPost) (d9 : Bool) (acts : List Action), wp (findHandler (F0 m pc ls rest) q) Q9 E9 e d9 acts ((T.setTop (F0 m pc ls rest)).pushFrame (.throwing q)) ↔ Q9 (.found x.handlerPc) d9 acts (((T.setTop (F0 m pc ls rest)).pushFrame (.throwing q)).setVm ((T.vm.noted m.cls y.catchType (.cls n2)).noted m.cls x.catchType (.cls c4))) := by
    intro Q9 E9 d9 acts
    rw [W.findHandler_eq (s := (T.setTop (F0 m pc ls rest)).pushFrame (.throwing q)) (f := F0 m pc ls rest) (meth := meth) (code := c) X.method' X.code, hsplit]
    rw [ex_goN (S := (T.setTop (F0 m pc ls rest)).pushFrame (.throwing q)) (f := F0 m pc ls rest) (k := n2) (cell := ce) hy hy0 hclY (by show T.heap[q]? = some ce; rw [hT]; exact hcell) hobj hkc0 ⟨ky', hky'⟩ hfitY]
    exact ex_go (S := ((T.setTop (F0 m pc ls rest)).pushFrame (.throwing q)).setVm (T.vm.noted m.cls y.catchType (.cls n2))) (f := F0 m pc ls rest) (k := c4) (cell := ce) hx h0 hcl₀ (by show T.heap[q]? = some ce; rw [hT]; exact hcell) hobj hkc ⟨kt', hkt'⟩ hfit'
  have hone : (stepThrowing e ((T.setTop (F0 m pc ls rest)).pushFrame (.throwing q)) q (.java (F0 m pc ls rest) :: T.frames.tail)).Is ((((T.setTop (F0 m pc ls rest)).pushFrame (.throwing q)).setVm ((T.vm.noted m.cls y.catchType (.cls n2)).noted m.cls x.catchType (.cls c4))).setFrames (.java (F0 m x.handlerPc ls [.ref q]) :: T.frames.tail)) [] := by
    simp only [stepThrowing, searchFrame, vmDo]
    generalize hr : Sem.go _ e false [] ((T.setTop (F0 m pc ls rest)).pushFrame (.throwing q)) = res
    obtain ⟨as, rfl, ha⟩ := Sem.eq_ok_of hr (a := Handler.found x.handlerPc) (s' := ((T.setTop (F0 m pc ls rest)).pushFrame (.throwing q)).setVm ((T.vm.noted m.cls y.catchType (.cls n2)).noted m.cls x.catchType (.cls c4))) (acts' := []) (by simp [hfind _ _ _ _])
    exact ⟨rfl, ha⟩
  rw [stepThread_throwing (frames_entered X.here.top _), hone.1]
  obtain ⟨g₀, hg⟩ := Option.isSome_iff_exists.mp X.here.top
  obtain ⟨r, hr⟩ := State.topJava?_eq_some.mp hg
  have hr' : (T.setVm ((T.vm.noted m.cls y.catchType (.cls n2)).noted m.cls x.catchType (.cls c4))).frames = .java g₀ :: r := hr
  rw [State.setTop_of_frames _ hr'] at a1
  have e1 : ∀ (u : State) (v9 : Vm) (F G : List Frame), ((u.setFrames F).setVm v9).setFrames G = (u.setVm v9).setFrames G := fun u v9 F G => by
    have h1 : (u.setFrames F).setVm v9 = (u.setVm v9).setFrames F := rfl
    rw [h1, State.setFrames_setFrames]
  rw [hr, List.tail_cons, State.pushFrame, e1, State.setTop_of_frames _ hr, e1]
  exact a1
end Ex2
section Ex3
variable {l : Launch}
theorem ex_ofWQ {S9 : Type} {post : S9 → Prop} {B : S9 → State → Prop} {y : MethodName} {ws ws' : List Cond} {rm : Room} {Pc : Array Value → State → Prop} {E : String} {A : Nat → Prop} {mc ms : Nat} {cc : ByteArray} {maxL : Nat} {ret : Option FieldType}
    (hy : plainName y.cls = true) (hw : ws = Cond.code y cc maxL ret :: ws')
    (body : ∀ p e s m args below meth c s₁, BodyLoose p l y (headSpec ws rm) cc maxL ret e s m args below meth c s₁ → c.maxLocals = maxL → (∀ x ∈ c.exceptionTable.toList, False) → Pc args s →
      W p l e (headSpec ws rm).room s m args below meth c s.heap [] 0 0 (ex_MQQ below E post B A args s mc ms) (entryFrame m args maxL)) : ex_MetQ l y ws rm Pc E post B A mc ms := by
  refine MetFree.of_bodyS (code := cc) (maxLocals := maxL) (ret := ret) hy ?_ ?_
  · intro args s m h hn
    obtain ⟨meth, c, h1, h2, h3, h4, h5, h6, -, -⟩ := Cond.code_spec hn (atoms_spec (ws := ws) h _ (by rw [hw]; exact List.mem_cons_self))
    exact ⟨meth, c, h1, h2, h3, h4, h5, h6⟩
  · intro p e s m args below meth c s₁ B9 hml hP _
    have hh0 : s₁.heap = s.heap := by rw [B9.state]; rfl
    have ht : ∀ x ∈ c.exceptionTable.toList, False := by
      obtain ⟨meth9, c9, h1, h2, -, -, -, -, h7, -⟩ := Cond.code_spec B9.named (atoms_spec (ws := ws) B9.pre _ (by rw [hw]; exact List.mem_cons_self))
      cases Option.some.inj (h1.symm.trans B9.method)
      cases Option.some.inj (h2.symm.trans (Stand.of_body B9).code)
      intro x hx
      rw [Array.isEmpty_iff.mp h7] at hx
      cases hx
    obtain ⟨t, a1, o, b1, b2, b3⟩ := body p e s m args below meth c s₁ B9 hml ht hP s₁ hh0 (Stand.of_body B9)
    exact ⟨t, o, a1, b1, b2, b3⟩
end Ex3
