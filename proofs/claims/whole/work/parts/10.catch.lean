/-! A HANDLER OF THE METHOD'S OWN; THE CLASS IN ITS ROW COLD OR WARM. -/
/-- the row x names a class; whether what is thrown (of class cX) is one of it -/
def px_row (pl : Platform) (s : State) (d cX : ClassId) (x : ExceptionTableEntry) (yes : Bool) : Prop := x.catchType ≠ 0 ∧ ∃ c : ClassId, s.vm.ClassLinks pl d x.catchType c ∧ s.vm.assignable cX c = yes
def px_rows (pl : Platform) (s : State) (d cX : ClassId) (pc : Nat) : List ExceptionTableEntry → List Bool → Prop
  | [], _ => True
  | _ :: _, [] => False
  | x :: xs, y :: ys => (covers x pc = true → px_row pl s d cX x y) ∧ ((covers x pc = true ∧ y = true) ∨ px_rows pl s d cX pc xs ys)
def px_srch (pc : Nat) : List ExceptionTableEntry → List Bool → Option Nat
  | x :: xs, y :: ys => if covers x pc = true ∧ y = true then some x.handlerPc else px_srch pc xs ys
  | _, _ => none
def px_hd : Option Nat → Handler
  | some h => .found h
  | none => .none
section PXC
variable {e : Env} {s : State} {f : JFrame} {a : Addr} {cell : Cell}
theorem px_search (hobj : ∀ k, cell.vm ≠ .statics k) (hk0 : ∃ k, s.vm.classes[cell.cls]? = some k) : ∀ (xs : List ExceptionTableEntry) (ys : List Bool) (S : State), s.WarmedH S.vm → S.heap[a]? = some cell → px_rows e.platform s f.method.cls cell.cls f.pc xs ys →
    ∃ vm', s.WarmedH vm' ∧ ∀ (Q : Handler → Pre) (E : CtlPost) (d : Bool) (acts : List Action), wp (findHandler.go f a xs) Q E e d acts S ↔ Q (px_hd (px_srch f.pc xs ys)) d acts (S.setVm vm') := by
  intro xs
  induction xs with
  | nil =>
    intro ys S hW hc _
    refine ⟨S.vm, hW, fun Q E d acts => ?_⟩
    rw [W.findHandler_go_nil, State.setVm_self]
    rfl
  | cons x xs ih =>
    intro ys S hW hc hr
    cases ys with
    | nil => exact absurd hr id
    | cons y ys =>
      by_cases hcov : covers x f.pc = true
      · obtain ⟨h0, c, hl, hfit⟩ := hr.1 hcov
        obtain ⟨dk, _, _, kt, hd, _, _, _, _, hkt, _, hopen⟩ := hl.here
        have hW' : s.WarmedH (S.vm.noted f.method.cls x.catchType (.cls c)) := hW.noted hd hopen (State.rightAt_cls hl)
        obtain ⟨ha, ht⟩ := (resolveClass_links e.toSetting (hW.classLinks hl)).op (op := VmOp.resolveClass f.method.cls x.catchType) rfl
        obtain ⟨k0, hk0⟩ := hk0
        obtain ⟨k1, hk1, -⟩ := hW'.alike.2.2 _ _ hk0
        obtain ⟨k2, hk2, -⟩ := hW'.alike.2.2 _ _ hkt
        have hfit' : (S.vm.noted f.method.cls x.catchType (.cls c)).assignable cell.cls c = y := by rw [hW'.alike.assignable]; exact hfit
        have hcov' := hcov
        simp only [covers] at hcov'
        cases y with
        | true =>
          refine ⟨_, hW', fun Q E d acts => ?_⟩
          simp [findHandler.go, hcov', h0, ha, ht, hc, hobj, hk1, hk2, hfit', VmOp.dirties, VmOp.acts, px_srch, hcov, px_hd]
        | false =>
          have hr2 : px_rows e.platform s f.method.cls cell.cls f.pc xs ys := by
            rcases hr.2 with h | h
            · exact absurd h.2 (by decide)
            · exact h
          obtain ⟨vm', hW2, hq⟩ := ih ys (S.setVm (S.vm.noted f.method.cls x.catchType (.cls c))) hW' hc hr2
          refine ⟨vm', hW2, fun Q E d acts => ?_⟩
          have h1 : wp (findHandler.go f a (x :: xs)) Q E e d acts S ↔ wp (findHandler.go f a xs) Q E e d acts (S.setVm (S.vm.noted f.method.cls x.catchType (.cls c))) := by
            simp [findHandler.go, hcov', h0, ha, ht, hc, hobj, hk1, hk2, hfit', VmOp.dirties, VmOp.acts]
          rw [h1, hq]
          simp [px_srch]
          rfl
      · have hr2 : px_rows e.platform s f.method.cls cell.cls f.pc xs ys := by
          rcases hr.2 with h | h
          · exact absurd h.1 hcov
          · exact h
        obtain ⟨vm', hW2, hq⟩ := ih ys S hW hc hr2
        refine ⟨vm', hW2, fun Q E d acts => ?_⟩
        rw [W.findHandler_go_skip (by simpa using hcov), hq]
        simp [px_srch, hcov]
end PXC
/-- the handler is gone to -/
theorem px_caught {tb : Tables} {e : Env} {T target : State} {g : JFrame} {c : Code} {below : List Frame} {a : Addr} (h : At T g.method c below) {pc : Nat} {vm' : Vm}
    (hfind : ∀ (Q : Handler → Pre) (E : CtlPost) (d : Bool) (acts : List Action), wp (findHandler g a) Q E e d acts ((T.setTop g).pushFrame (.throwing a)) ↔ Q (.found pc) d acts (((T.setTop g).pushFrame (.throwing a)).setVm vm'))
    (hrest : Steps tb e below ((T.setVm vm').setTop { g with pc := pc, stack := [.ref a] }) target) : Steps tb e below ((T.setTop g).pushFrame (.throwing a)) target := by
  obtain ⟨hgo, hw⟩ := h.throwing a
  refine Steps.head hgo hw ?_
  have hst : (stepThrowing e ((T.setTop g).pushFrame (.throwing a)) a (.java g :: T.frames.tail)).Is ((((T.setTop g).pushFrame (.throwing a)).setVm vm').setFrames (.java { g with pc := pc, stack := [.ref a] } :: T.frames.tail)) [] := by
    simp only [stepThrowing, searchFrame, vmDo]
    generalize hr : Sem.go _ e false [] ((T.setTop g).pushFrame (.throwing a)) = res
    obtain ⟨as, rfl, ha⟩ := Sem.eq_ok_of hr (a := Handler.found pc) (s' := ((T.setTop g).pushFrame (.throwing a)).setVm vm') (acts' := []) (by simp [hfind _ _ _ _])
    exact ⟨rfl, ha⟩
  rw [stepThread_throwing (frames_entered h.top _), hst.1]
  obtain ⟨g₀, hg⟩ := Option.isSome_iff_exists.mp h.top
  obtain ⟨r, hr⟩ := State.topJava?_eq_some.mp hg
  have hr' : (T.setVm vm').frames = .java g₀ :: r := hr
  rw [State.setTop_of_frames _ hr'] at hrest
  have hs : (((T.setTop g).pushFrame (.throwing a)).setVm vm').setFrames (.java { g with pc := pc, stack := [.ref a] } :: T.frames.tail) = (T.setVm vm').setFrames (.java { g with pc := pc, stack := [.ref a] } :: r) := by
    rw [hr, List.tail_cons, State.pushFrame, State.setTop_of_frames _ hr]
    show (((T.setVm vm').setFrames _).setFrames _).setFrames _ = _
    rw [State.setFrames_setFrames, State.setFrames_setFrames]
  rw [hs]
  exact hrest
theorem px_catch {p : Program} {l : Launch} {e : Env} {R : Room} {s : State} {m : MethodId} {args : Array Value} {below : List Frame} {meth : Method} {c : Code} {T : State} {locs : List Loc} {cells slots : Nat} {a : Addr} {cell : Cell} {g : JFrame} {pc : Nat}
    (X : Stand p l e R s m args below meth c T locs cells slots) (hg : g.method = m) (hcell : T.heap[a]? = some cell) (hobj : cell.vm.isStatics = false) (hk0 : ∃ k, s.vm.classes[cell.cls]? = some k)
    (ys : List Bool) (hrows : px_rows e.platform s m.cls cell.cls g.pc c.exceptionTable.toList ys) (hpc : px_srch g.pc c.exceptionTable.toList ys = some pc) :
    ∃ vm', Stand p l e R s m args below meth c (T.setVm vm') locs cells slots ∧ ∀ target, Steps p.tables e below ((T.setVm vm').setTop { g with pc := pc, stack := [.ref a] }) target → Steps p.tables e below ((T.setTop g).pushFrame (.throwing a)) target := by
  subst hg
  obtain ⟨vm', hW', hq⟩ := px_search (e := e) (s := s) (f := g) (a := a) (cell := cell) (VmData.ne_statics_of hobj) hk0 c.exceptionTable.toList ys ((T.setTop g).pushFrame (.throwing a)) X.warmed hcell hrows
  refine ⟨vm', X.noted hW', fun target hrest => px_caught X.here (fun Q E d acts => ?_) hrest⟩
  rw [W.findHandler_eq (s := (T.setTop g).pushFrame (.throwing a)) (meth := meth) (code := c) X.method' X.code, hq, hpc]
  rfl
