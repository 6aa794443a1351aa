/-! 'throw new X("..")', OUT OF THE METHOD. -/
def px_oc (b base : Nat) : Option Value ⊕ Nat → Outcome
  | .inl v => .returned (v.map (px_cv b base))
  | .inr a => .threw (px_adr b base a)
/-- what a method comes to: its outcome; its cells; what else has changed -/
def px_End (D : va_G) (cl : List vw_C) (cA : Nat → ClassId) (b base : Nat) (below : List Frame) (s : State) (o : Option Value ⊕ Nat) (w : px_W) (k n : Nat) (t : State) : Prop :=
  ∃ L : List Loc, t.status = .running ∧ Ended t below (px_oc b base o) ∧ s.WarmedH t.vm ∧ s.sameButNew ({ t with vm := s.vm } : State) L k n ∧ (∀ q ∈ L, base ≤ q.base) ∧ va_S (fun q => base ≤ q) s.heap t.heap [] ∧ va_P D cl (px_cw cA b base w) t.heap ∧ base + (w.length - 1) ≤ t.heap.size
def px_four : List Cond := [.isRef (.static "java/lang/Throwable" "UNASSIGNED_STACK" "[Ljava/lang/StackTraceElement;"), .isRef (.static "java/lang/Throwable" "SUPPRESSED_SENTINEL" "Ljava/util/List;"), .laysStatic "java/lang/Throwable" "UNASSIGNED_STACK" "[Ljava/lang/StackTraceElement;", .laysStatic "java/lang/Throwable" "SUPPRESSED_SENTINEL" "Ljava/util/List;"]
theorem px_four_at {ss : List (String × Nat × String)} {base : Nat} {s : State} {args : Array Value} (h : px_Out ss base s s.heap) : ∀ w ∈ px_four, w.before args s = true := by
  intro w hw
  simp only [px_four, List.mem_cons, List.not_mem_nil, or_false] at hw
  rcases hw with rfl | rfl | rfl | rfl
  · exact h.1.isRef
  · exact h.2.1.isRef
  · exact h.1.lays
  · exact h.2.1.lays
section PXT
variable {p : Program} {l : Launch} {e : Env} {R : Room} {s : State} {m : MethodId} {args : Array Value} {below : List Frame} {meth : Method} {c : Code} {T : State} {H : Heap} {locs : List Loc} {cells slots : Nat}
/-- the method as if it had been called here, with the heap as it now is -/
theorem px_rebase (X : Stand p l e R s m args below meth c T locs cells slots) {R' : Room} (hf : R'.frames ≤ R.frames) (hl : R'.locals ≤ R.locals) (hc : cells + R'.cells ≤ R.cells) (hs : slots + R'.slots ≤ R.slots) :
    Stand p l e R' ((T.setVm s.vm).setFrames (.invoking m args :: below)) m args below meth c T [] 0 0 := by
  obtain ⟨g₀, hfr⟩ := X.frames_eq
  have hcur : (T.setVm s.vm).cur < (T.setVm s.vm).threads.size := State.cur_lt_of_frames (s := T.setVm s.vm) hfr
  have hF : ((T.setVm s.vm).setFrames (.invoking m args :: below)).frames = .invoking m args :: below := State.frames_setFrames _ hcur
  have hlim : e.platform.stackLimits ((T.setVm s.vm).setFrames (.invoking m args :: below)).me = e.platform.stackLimits s.me := by
    rw [State.stackLimits_setFrames]; exact X.limits
  have hby : ((T.setVm s.vm).setFrames (.invoking m args :: below)).me.stackBytes = s.me.stackBytes := by
    rw [State.stackBytes_setFrames]; exact X.bytes
  have hloc : ((T.setVm s.vm).setFrames (.invoking m args :: below)).localsInUse = s.localsInUse := by
    rw [State.localsInUse_invoking (meth := meth) (c := c) hF X.method X.code, State.localsInUse_invoking X.frames X.method X.code]
  have hroom : ((T.setVm s.vm).setFrames (.invoking m args :: below)).hasRoom e.platform R' = true := by
    have h := X.room
    have h1 := X.heapSize
    have h2 := X.used
    have hb := X.book
    unfold State.hasRoom at h ⊢
    rw [hloc, hF, hlim, hby]
    rw [X.frames] at h
    simp only [Bool.and_eq_true, decide_eq_true_eq, List.length_cons] at h ⊢
    refine ⟨⟨⟨⟨?_, ?_, ?_, ?_, ?_, ?_⟩, ?_⟩, ?_⟩, hb⟩
    · omega
    · omega
    · omega
    · omega
    · omega
    · exact h.1.1.1.2.2.2.2.2
    · show T.heap.size + R'.cells ≤ _
      omega
    · show T.slotsUsed + R'.slots ≤ _
      omega
  have hsame : ((T.setVm s.vm).setFrames (.invoking m args :: below)).sameButNew (T.setVm s.vm) [] 0 0 := by
    obtain ⟨x, hx, -⟩ := State.frames_cons hF
    obtain ⟨y, hy, -⟩ := State.frames_cons (s := T.setVm s.vm) hfr
    have h := (State.sameButNew.refl ((T.setVm s.vm).setFrames (.invoking m args :: below)) hx).setFrames (T.setVm s.vm).frames (State.cur_lt_of_frames hF)
    rw [State.setFrames_setFrames, State.setFrames_self hy] at h
    exact h
  exact ⟨X.admits, X.cas, X.clock, hF, hroom, X.hears, X.method, X.code, X.here, X.tail, X.warmed, X.limits.trans hlim.symm, X.bytes.trans hby.symm, hsame⟩
/-- nothing written: what was there is there -/
theorem px_same0 {s t : State} {k n : Nat} (h : s.sameButNew t [] k n) : s.heap.size ≤ t.heap.size ∧ t.heap.size ≤ s.heap.size + k ∧ ∀ q : Nat, q < s.heap.size → t.heap[q]? = s.heap[q]? := by
  obtain ⟨-, h1, h2, -, -, h3⟩ := h
  refine ⟨h1, h2, fun q hq => ?_⟩
  obtain ⟨c', g1, g2, g3, g4⟩ := h3 q _ (Array.getElem?_eq_getElem hq)
  rw [g1, Array.getElem?_eq_getElem hq, g2]
  have : c'.slots = s.heap[q].slots := by
    apply Array.ext_getElem?
    intro i
    exact g4 i (fun x => nomatch x)
  rw [this]
set_option maxHeartbeats 2000000 in
theorem px_throw {tb : List Cond} {ss : List (String × Nat × String)} {cl : List vw_C} {tys : List (ClassId × FieldType)} {D : va_G} {cA : Nat → ClassId} {b base : Nat} {w : px_W} {own C Y0 tx : String} {Tt : u_T} {names : List String} {bytes : ByteArray} {idx ik is ic ci pc : Nat} {cc : ByteArray} {ls : Array Slot} {rest : List Value}
    (hexec : p.tables.exec = Jvm.exec) (hb : c.code = cc) (hl : l.stackTraces = false) (hown : s.vm.findClass own = some m.cls) (hC : cl[ci]? = some (C, Tt, 0)) (hfit : Bundle.fit C = true) (hY0 : Bundle.fit Y0 = true) (hnames : ∀ n ∈ names, Bundle.fit n = true) (b0 : decode bytes 0 = .ok (.aload_n 0, 1)) (b1 : decode bytes 1 = .ok (.aload_n 1, 1)) (b2 : decode bytes 2 = .ok (.invokespecial idx, 3)) (b5 : decode bytes 5 = .ok (.return_, 1))
    (hts : ∀ w ∈ tb, w.before args s = true) (hkp : ∀ w ∈ tb, px_kp w = true) (h1 : Cond.classLink own ik C ∈ tb) (h2 : Cond.initialized C ∈ tb) (hat : ∀ w ∈ px_at own ic C Y0 idx bytes names, w ∈ tb ∨ w ∈ px_four) (hss : (own, is, tx) ∈ ss) (hO : px_Out ss base s s.heap)
    (hK : va_K D cl tys s) (hP : va_P D cl (px_cw cA b base w) H) (hS : va_S (fun q => base ≤ q) s.heap H locs) (hw : 0 < w.length) (hsz : base + (w.length - 1) ≤ H.size) (hcw : base + (w.length - 1) = s.heap.size + cells)
    (hsize : ls.size = c.maxLocals) (d0 : decode cc pc = .ok (.new ik, 3)) (d3 : decode cc (pc + 3) = .ok (.dup, 1)) (d4 : decode cc (pc + 4) = .ok (.ldc is, 2)) (d6 : decode cc (pc + 6) = .ok (.invokespecial ic, 3)) (d9 : decode cc (pc + 9) = .ok (.athrow, 1))
    (hout : ∀ x ∈ c.exceptionTable.toList, covers x (pc + 9) = false) (hfr : names.length + 4 < R.frames) (hlo : (rest.map fun v => v.category).sum + (13 * (names.length + 2) + 43) ≤ R.locals) (hrc : cells + 1 ≤ R.cells) (hrs : slots + 6 ≤ R.slots) (hlocks : meth.locks = false) :
    W p l e R s m args below meth c H locs cells slots (px_End D cl cA b base below s (.inr w.length) (w ++ [px_exc ci]) (cells + 1) (slots + 6)) (F0 m pc ls rest) := by
  intro T hT X
  have htr : e.platform.stackTraces = false := by
    rw [X.admits.platform]; exact hl
  have Y := px_rebase X (R' := { frames := R.frames, locals := R.locals, cells := 1, slots := 6 }) (Nat.le_refl _) (Nat.le_refl _) hrc hrs
  have hW0 : s.WarmedH ((T.setVm s.vm).setFrames (.invoking m args :: below)).vm := State.WarmedH.refl s
  have hHs : ((T.setVm s.vm).setFrames (.invoking m args :: below)).heap = H := hT
  have hO1 : px_Out ss base ((T.setVm s.vm).setFrames (.invoking m args :: below)) ((T.setVm s.vm).setFrames (.invoking m args :: below)).heap := by
    rw [hHs]; exact hO.next hW0 hS.2.1
  have hown1 : ((T.setVm s.vm).setFrames (.invoking m args :: below)).vm.findClass own = some m.cls := hown
  have hvm1 : ((T.setVm s.vm).setFrames (.invoking m args :: below)).vm = s.vm := rfl
  generalize hs1 : (T.setVm s.vm).setFrames (.invoking m args :: below) = s1 at Y hW0 hHs hO1 hown1 hvm1
  have hts1 : ∀ w ∈ tb, w.before args s1 = true := fun w hw => px_kp_at hW0 (hkp w hw) (hts w hw)
  have hat1 : ∀ w ∈ px_at own ic C Y0 idx bytes names, w.before args s1 = true := fun w hw => (hat w hw).elim (hts1 w) (px_four_at hO1 w)
  obtain ⟨sa, hsa⟩ := hO1.2.2 _ hss
  obtain ⟨vm₁, cX, kX, hfX, hkX, -, -, X₁, st1⟩ := Y.newCold hexec (own := own) (C := C) (index := ik) (n := 6) hown1 (hts1 _ h1) (hat1 _ (by simp [px_at])) (hts1 _ h2)
    (g := F0 m pc ls rest) rfl (by rw [hb]; exact d0) (Nat.le_refl _) (Nat.le_refl _)
  have hcell : ((T.setVm vm₁).pushCell { cls := cX, slots := kX.instanceTypes.map defaultValue, vm := .none }).heap[T.heap.size]? = some (freshCell cX kX) := State.heap_pushCell_size _ _
  generalize (T.setVm vm₁).pushCell { cls := cX, slots := kX.instanceTypes.map defaultValue, vm := .none } = T1 at X₁ st1 hcell
  have d3' : decode c.code (pc + 3) = .ok (.dup, 1) := by rw [hb]; exact d3
  have hcat : (Value.ref T.heap.size).category = 1 := rfl
  obtain ⟨U, hsteps, hrun, hend, hW, hsame, ce, hce, hcls, hcv⟩ := px_ctor X₁ hexec htr (own := own) (cls := C) (Y0 := Y0) (idx := idx) (bytes := bytes) (names := names) (ic := ic) hown1 hfit hY0 hnames b0 b1 b2 b5 hat1 hfX hkX hcell (by rw [hHs, hT]; exact Nat.le_refl _) (msg := .ref sa) rfl
    (g := F0 m (pc + 6) ls (.ref sa :: .ref T.heap.size :: .ref T.heap.size :: rest)) rfl hsize rfl rfl (rest := rest) rfl
    (by rw [hb]; exact d6) (by rw [hb]; exact d9) hout hfr (by
      show 2 * 0 + ((Value.ref T.heap.size :: rest).map fun v => v.category).sum + (13 * (names.length + 2) + 42) ≤ R.locals
      simp only [List.map_cons, List.sum_cons, hcat]; omega) hlocks
  obtain ⟨f1, f2, f3⟩ := px_same0 hsame
  have f1 : H.size ≤ U.heap.size := by rw [← hHs]; exact f1
  have f3 : ∀ q : Nat, q < H.size → U.heap[q]? = H[q]? := by rw [← hHs]; exact f3
  have hWs : s.WarmedH U.vm := State.WarmedH.trans hW0 hW
  have hXs := X.heapSize
  rw [hT] at hXs
  have hHsz : base + (w.length - 1) = H.size := by omega
  have hlt : H.size < U.heap.size := by
    have := (Array.getElem?_eq_some_iff.mp hce).1
    rw [hT] at this
    exact this
  have hall : s.sameButNew ({ U with vm := s.vm } : State) locs (cells + 1) (slots + 6) := by
    subst hs1
    obtain ⟨e1, e2⟩ := hsame
    rw [State.setFrames_setFrames] at e1
    have h3 : (T.setVm s.vm).sameButNew ({ U with vm := s.vm } : State) [] (0 + 1) (0 + 6) := ⟨e1, e2⟩
    have h4 := X.same.trans h3
    rw [List.append_nil] at h4
    exact h4
  refine ⟨U, ?_, locs, hrun, ?_, hWs, hall, hS.2.2, ⟨Nat.le_trans hS.1 f1, fun q hq hn => (f3 q (Nat.lt_of_lt_of_le hq hS.1)).trans (hS.2.1 q hq hn), fun _ h => nomatch h⟩, ?_, ?_⟩
  · refine st1 _ ?_
    show Steps p.tables e below (T1.setTop (F0 m (pc + 3) ls (.ref T.heap.size :: rest))) _
    jvm_step X₁.here [X₁.here.top, hexec, d3', Value.category]
    exact X₁.ldcString hexec (own := own) (text := tx) (index := is) (a := sa) hown1 hsa.1 hsa.2
      (g := F0 m (pc + 4) ls (.ref T.heap.size :: .ref T.heap.size :: rest)) rfl (by rw [hb]; exact d4) _ hsteps
  · show Ended U below (.threw (px_adr b base w.length))
    rw [px_adr_len hw, hHsz, ← hT]
    exact hend
  · rw [px_cw_app hw]
    refine va_P.app (hP.kept (fun k q hk => f3 _ (hP k q hk).lt)) (fun k q hk => ?_)
    cases k with
    | succ k => simp at hk
    | zero =>
      cases hk
      obtain ⟨-, hcC⟩ := hK.1 ci _ hC
      rw [hvm1] at hcls
      refine ⟨_, hC, ce, ?_, ?_, hcv, fun k hk => absurd hk (Nat.not_lt_zero _)⟩
      · show U.heap[base + (w.length - 1)]? = some ce
        rw [hHsz, ← hT]; exact hce
      · exact Option.some.inj (hcls.symm.trans hcC.1)
  · rw [List.length_append]
    show base + (w.length + 1 - 1) ≤ _
    omega
end PXT
