/-! FROM THE PURE MACHINE TO THE CLAIM (begun from the skeleton's text). -/
def lw_P (b : Addr) (xs : List Int32) (args : Array Value) (s : State) : Prop := args = #[.ref b] ∧ s.IntsAt b xs ∧ xs.length ≤ 2563 ∧ (Jvm.Cond.and given_1 narrow_1).before args s = true
def lw_Q (_ : Array Value) (s : State) (o : Outcome) (t : State) : Prop := o = .returned (some (.int 1)) ∧ Framed s o t [] 601024 7293000
def lw_Z (below : List Frame) (a : Array Value) (s : State) : State → Prop := fun t => ∃ o, t.status = .running ∧ Ended t below o ∧ lw_Q a s o t
/-- the law as the pure machine runs it: it ends, and answers 1, within the room -/
def px_Goal (N : Nat) : Prop := ∀ (L : Nat) (xs : Nat → Int32), L ≤ N → ∃ w' : px_W, px_E px_ET px_P 200 207 0 (px_ent 7 [.ref 0]) [] [.inl (0, L, .inl xs)] (.inl (some (.int 1))) w' ∧ w'.length ≤ 601025 ∧ px_tot w' ≤ 7293000 + L
/-- the classes -/
theorem px_okC0 {C : String} {T : u_T} {N : Nat} {y : Nat → FieldType} {f : List Value} (h1 : ∀ w ∈ u_ws C T N, w ∈ px_wd) (h2 : ∀ k, k < N → parseFieldDescriptor (T k).2.2.1 = some (y k)) (h3 : ∀ a, a < N → ∀ c, c < N → a ≠ c → (T a).2.1 ≠ (T c).2.1) (h4 : f.length = N) (h5 : ∀ j, j < N → defaultValue (y j) = vp_V f j) (h6 : (f.all fun v => match v with
    | .ref _ => false
    | _ => true) = true) : (∀ w ∈ u_ws C T N, w ∈ px_wd) ∧ (∀ k, k < N → parseFieldDescriptor (T k).2.2.1 = some (y k)) ∧ (∀ a, a < N → ∀ c, c < N → a ≠ c → (T a).2.1 ≠ (T c).2.1) ∧ (0 < N → f.length = N ∧ (∀ j, j < N → defaultValue (y j) = vp_V f j) ∧ ∀ v ∈ f, ∀ a, v ≠ .ref a) :=
  ⟨h1, h2, h3, fun _ => ⟨h4, h5, fun v hv a he => by
    have := List.all_eq_true.mp h6 v hv
    rw [he] at this
    cases this⟩⟩
theorem px_okC_all : px_okC px_wd px_cl px_ET := by
  intro ci C T N h
  match ci, h with
  | 0, h => cases h; exact px_okC0 (by decide +kernel) (by decide +kernel) (by decide +kernel) rfl (by decide +kernel) (by decide +kernel)
  | 1, h => cases h; exact px_okC0 (by decide +kernel) (by decide +kernel) (by decide +kernel) rfl (by decide +kernel) (by decide +kernel)
  | 2, h => cases h; exact px_okC0 (by decide +kernel) (by decide +kernel) (by decide +kernel) rfl (by decide +kernel) (by decide +kernel)
  | 3, h => cases h; exact px_okC0 (by decide +kernel) (by decide +kernel) (by decide +kernel) rfl (by decide +kernel) (by decide +kernel)
  | 4, h => cases h; exact px_okC0 (by decide +kernel) (by decide +kernel) (by decide +kernel) rfl (by decide +kernel) (by decide +kernel)
  | 5, h => cases h; exact px_okC0 (by decide +kernel) (by decide +kernel) (by decide +kernel) rfl (by decide +kernel) (by decide +kernel)
  | 6, h => cases h; exact px_okC0 (by decide +kernel) (by decide +kernel) (by decide +kernel) rfl (by decide +kernel) (by decide +kernel)
  | 7, h => cases h; exact ⟨fun w hw => by simp [u_ws] at hw, fun k hk => absurd hk (Nat.not_lt_zero _), fun k hk => absurd hk (Nat.not_lt_zero _), fun hk => absurd hk (Nat.lt_irrefl _)⟩
  | 8, h => cases h; exact ⟨fun w hw => by simp [u_ws] at hw, fun k hk => absurd hk (Nat.not_lt_zero _), fun k hk => absurd hk (Nat.not_lt_zero _), fun hk => absurd hk (Nat.lt_irrefl _)⟩
  | _ + 9, h => cases h
theorem px_known {args : Array Value} {s : State} (hts : ∀ w ∈ px_wd, w.before args s = true) : ∃ (D : va_G) (cA : Nat → ClassId), va_K D px_cl (px_tys cA) s := by
  have hins : ∀ (ci : Nat) (q : vw_C), px_cl[ci]? = some q → ∃ n, Cond.instantiable q.1 n ∈ px_wd := by
    intro ci q h
    match ci, h with
    | 0, h => cases h; exact ⟨5, px_in_mem (k := 644) (by decide +kernel)⟩
    | 1, h => cases h; exact ⟨4, px_in_mem (k := 8) (by decide +kernel)⟩
    | 2, h => cases h; exact ⟨10, px_in_mem (k := 15) (by decide +kernel)⟩
    | 3, h => cases h; exact ⟨8, px_in_mem (k := 26) (by decide +kernel)⟩
    | 4, h => cases h; exact ⟨12, px_in_mem (k := 23) (by decide +kernel)⟩
    | 5, h => cases h; exact ⟨10, px_in_mem (k := 36) (by decide +kernel)⟩
    | 6, h => cases h; exact ⟨31, px_in_mem (k := 652) (by decide +kernel)⟩
    | 7, h => cases h; exact ⟨6, px_wdx_in _ (by decide +kernel)⟩
    | 8, h => cases h; exact ⟨6, px_wdx_in _ (by decide +kernel)⟩
    | _ + 9, h => cases h
  have h0 : ∀ c : Nat, ∃ z : ClassId × (Nat → Nat), ∀ q : vw_C, px_cl[c]? = some q → u_Kn s q.1 q.2.1 q.2.2 z.1 z.2 := by
    intro c
    cases hq : px_cl[c]? with
    | none => exact ⟨(0, fun _ => 0), fun q h => nomatch h⟩
    | some q =>
      obtain ⟨C, T, N⟩ := q
      obtain ⟨n, hn⟩ := hins c _ hq
      obtain ⟨cC, iS, hk⟩ := u_known (C := C) (T := T) (N := N) (n := n) hts (px_okC_all c C T N hq).1 (hts _ hn)
      exact ⟨(cC, iS), fun q h => by cases h; exact hk⟩
  obtain ⟨f, hf⟩ := Classical.axiomOfChoice h0
  have harr : ∀ ty : FieldType, (∀ C, ty ≠ .object C) → (Cond.arrayClass ty).before args s = true → ∃ c : ClassId, ArrOfT s c ty ∧ va_RA s c ty := by
    intro ty hty h
    obtain ⟨c, k, comp, h1, h2, h3⟩ := Cond.arrayClass_spec h
    refine ⟨c, fun n z => ⟨fun k h => (by cases h), k, h2, comp, h3⟩, ?_⟩
    cases ty with
    | object C => exact absurd rfl (hty C)
    | _ => exact h1
  obtain ⟨a0, ha0⟩ := harr .int (fun _ h => nomatch h) (hts _ (px_in_mem (k := 162) (by decide +kernel)))
  obtain ⟨a1, ha1⟩ := harr .boolean (fun _ h => nomatch h) (hts _ (px_in_mem (k := 171) (by decide +kernel)))
  obtain ⟨a2, ha2⟩ := harr .long (fun _ h => nomatch h) (hts _ (px_in_mem (k := 657) (by decide +kernel)))
  refine ⟨(fun c => (f c).1, fun c => (f c).2), fun k => match k with
    | 0 => a0
    | 1 => a1
    | _ => a2, fun c q hq => hf c q hq, fun k q hk => ?_⟩
  match k, hk with
  | 0, hk => cases hk; exact ha0
  | 1, hk => cases hk; exact ha1
  | 2, hk => cases hk; exact ha2
  | _ + 3, hk => cases hk
theorem px_words {args : Array Value} {s : State} (h0 : (Cond.code x code maxLocals ret).before args s = true) (hts : ∀ w ∈ lw_tbl, w.before args s = true) (hgv : (Jvm.Cond.and given_1 narrow_1).before args s = true) : ∀ w ∈ px_wd, w.before args s = true := by
  intro w hw
  have hfl := flat_of_before _ hgv
  rcases List.mem_append.mp (px_wd_big w hw) with h | h
  · simp only [List.mem_cons, List.not_mem_nil, or_false] at h
    rcases h with rfl | rfl | rfl
    · exact hfl _ (by decide +kernel)
    · exact hfl _ (by decide +kernel)
    · exact h0
  · exact hts w h
theorem px_outs {args : Array Value} {s : State} (hts : ∀ w ∈ lw_tbl, w.before args s = true) (hgv : (Jvm.Cond.and given_1 narrow_1).before args s = true) : px_Out px_ss s.heap.size s s.heap := by
  have hfl := flat_of_before _ hgv
  refine ⟨px_st.of (hts (.laysStatic "java/lang/Throwable" "UNASSIGNED_STACK" "[Ljava/lang/StackTraceElement;") (by decide +kernel)) (hfl (.isRef (.static "java/lang/Throwable" "UNASSIGNED_STACK" "[Ljava/lang/StackTraceElement;")) (by decide +kernel)) (Nat.le_refl _), px_st.of (hts (.laysStatic "java/lang/Throwable" "SUPPRESSED_SENTINEL" "Ljava/util/List;") (by decide +kernel)) (hfl (.isRef (.static "java/lang/Throwable" "SUPPRESSED_SENTINEL" "Ljava/util/List;")) (by decide +kernel)) (Nat.le_refl _), ?_⟩
  have key : ∀ (o : String) (k : Nat) (t : String), Cond.stringRef o k t ∈ lw_tbl → Cond.exactly (.string o k) "java/lang/String" ∈ flatC (Jvm.Cond.and given_1 narrow_1) → ∃ a : Nat, vk_R o k t a s := by
    intro o k t h1 h2
    obtain ⟨a, c, cell, k', q1, -⟩ := Cond.exactly_spec (hfl _ h2)
    exact ⟨a, vk_R.of (hts _ h1) q1⟩
  intro z hz
  simp only [px_ss, List.mem_cons, List.not_mem_nil, or_false] at hz
  rcases hz with rfl | rfl | rfl | rfl
  · exact key _ _ _ (by decide +kernel) (by decide +kernel)
  · exact key _ _ _ (by decide +kernel) (by decide +kernel)
  · exact key _ _ _ (by decide +kernel) (by decide +kernel)
  · exact key _ _ _ (by decide +kernel) (by decide +kernel)
set_option maxHeartbeats 4000000 in
theorem lw_walk (hG : px_Goal 2563) (l : Launch) (hfg : l.flags = flags0) (b : Addr) (xs : List Int32) : MetFree l x (headSpec (Jvm.Cond.code x code maxLocals ret :: tables_1) room_1) (lw_P b xs) (fun _ _ _ _ _ => True) lw_Q := by
  refine MetFree.of_bodyS (code := code) (maxLocals := maxLocals) (ret := ret) (by decide) ?_ ?_
  · intro args s m h hn
    obtain ⟨meth, c, h1, h2, h3, h4, h5, h6, -, -⟩ := Cond.code_spec hn (atoms_spec (ws := Jvm.Cond.code x code maxLocals ret :: tables_1) h _ List.mem_cons_self)
    exact ⟨meth, c, h1, h2, h3, h4, h5, h6⟩
  · intro p e s m args below meth c s₁ B hml0 hP _
    obtain ⟨rfl, hx, hbd, hgv⟩ := hP
    obtain ⟨scr, harrAt, hlist, hof, hsmall⟩ := hx
    obtain ⟨hcb, hkn, -, -⟩ := State.arrayAt?_spec harrAt
    have hts0 : ∀ c ∈ (Jvm.Cond.code x code maxLocals ret :: tables_1), c.before #[Value.ref b] s = true := atoms_spec (ws := Jvm.Cond.code x code maxLocals ret :: tables_1) B.pre
    have hts : ∀ w ∈ lw_tbl, w.before #[Value.ref b] s = true := k2_hts_sels lw_privs (fun w hw => hts0 w (List.mem_cons_of_mem _ hw)) lw_privs_ok
    have X₀ : Stand p l e room_1 s m #[Value.ref b] below meth c s₁ [] 0 0 := Stand.of_body B
    have hh0 : s₁.heap = s.heap := by rw [B.state]; rfl
    have hsz : scr.slots.size = xs.length := by rw [← Array.length_toList, hlist, List.length_map]
    have hval : ∀ j : Nat, j < xs.length → scr.slots[j]? = some (.int (xs.getD j 0)) := fun j hj => by
      rw [← Array.getElem?_toList, hlist]
      simp [hj]
    have hbl : b < s.heap.size := (Array.getElem?_eq_some_iff.mp hcb).1
    have hX : va_X b xs.length (fun j => xs.getD j 0) s s.heap := ⟨scr, hcb, hof, hkn, hsz, hval⟩
    have hst : l.stackTraces = false := by
      unfold Launch.stackTraces
      rw [hfg]
      decide +kernel
    have hwd := px_words (hts0 _ List.mem_cons_self) hts hgv
    obtain ⟨D, cA, hK⟩ := px_known hwd
    obtain ⟨methY, cY, y1, y2, y3, y4, y5, y6, y7, y8⟩ := Cond.code_spec B.named (hts0 _ List.mem_cons_self)
    cases B.method.symm.trans y1
    cases X₀.code.symm.trans y2
    have hB : px_B px_wd p s m #[Value.ref b] meth c pm_L_law := ⟨B.exec, B.bytes, y4, findClass_of_methodNamed B.named, hwd, B.returns, B.notSynchronized, (name_of_methodNamed B.named B.method).1⟩
    have hext : c.exceptionTable.toList.map (fun h => (h.startPc, h.endPc, h.handlerPc, h.catchType)) = pm_L_law.hf := by
      rw [Array.isEmpty_iff.mp y7]; rfl
    obtain ⟨w', ⟨n, qs, hrun, hqs⟩, hw1, hw2⟩ := hG xs.length (fun j => xs.getD j 0) hbd
    have hI : px_I D px_cl cA b s.heap.size [.inl (0, xs.length, .inl (fun j => xs.getD j 0))] s s.heap := ⟨hK, fun k q hk => (by cases hk), xs.length, _, rfl, hX, hbl⟩
    have hgr := px_run_gr _ _ _ _ _ _ _ _ hrun
    have hg1 : 1 ≤ w'.length := hgr.1
    have hg2 : xs.length ≤ px_tot w' := by
      have := hgr.2.1
      simpa [px_tot, px_sz] using this
    have key := px_sim (l := l) (D := D) (cA := cA) (b := b) (base := s.heap.size) hst px_okC_all px_wd_kp ok_all n 200 207 0 (px_ent 7 [.ref 0]) [] _ w' _ qs hrun hqs (by simp) pm_L_law _ rfl rfl p e room_1 s m #[Value.ref b] below meth c s.heap [] 0 0 (w'.length - 1) (px_tot w' - xs.length) _ hB hext hI (px_outs hts hgv) va_S.rf (by simp) (by simp) (Nat.le_refl _) (px_ent_hl (vs := [.ref 0]) (by decide)) rfl (by decide) (by decide) (by simp; omega) (by
      show px_tot w' - xs.length + px_tot [.inl (0, xs.length, .inl (fun j => xs.getD j 0))] = _
      simp only [px_tot, px_sz, List.map_cons, List.map_nil, List.sum_cons, List.sum_nil]
      simp only [px_tot] at hg2
      omega) (by show w'.length - 1 ≤ 601024; omega) (by show px_tot w' - xs.length ≤ 7293000; omega)
    have key : W p l e room_1 s m #[Value.ref b] below meth c s.heap [] 0 0 (px_End D px_cl cA b s.heap.size below s (.inl (some (.int 1))) w' (w'.length - 1) (px_tot w' - xs.length)) (F0 m 0 ((lg_sl ([Value.ref 0].map (px_cv b s.heap.size)) ++ List.replicate (7 - (lg_sl ([Value.ref 0].map (px_cv b s.heap.size))).length) Slot.unset).toArray) []) := key
    rw [← lg_entry_eq] at key
    obtain ⟨t, a1, L, b1, b2, b3, b4, b5, -⟩ := key s₁ hh0 X₀
    refine ⟨t, _, a1, b1, b2, rfl, ⟨_, rfl⟩, b3, b4.weaken (fun y hy hlt => absurd (b5 y hy) (Nat.not_le.mpr hlt)) (by omega) (by omega)⟩
