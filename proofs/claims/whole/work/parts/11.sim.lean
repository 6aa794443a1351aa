/-! WHAT THE PURE MACHINE SAYS, THE MACHINE DOES. -/
def px_rm (d k n : Nat) : Room := { frames := d, cells := k, slots := n, locals := 64 * d }
/-- a call's row -/
def px_okK (tb : List Cond) (cl : List vw_C) (P : List px_M) (M : px_M) (i : Nat) (r : px_R) : Bool :=
  decide (r.2.2.1 = 3) && px_nx M.cd (i + 1) (r.1 + 3) && (match P[px_nm r 1]? with
    | none => false
    | some N => decide (N.nm.cls ≠ "java/lang/invoke/MethodHandle") && decide (N.nm.cls ≠ "java/lang/invoke/VarHandle") && (match parseMethodDescriptor N.nm.desc with
        | none => false
        | some sg => decide (px_nm r 2 = sg.parameters.length + (if px_nm r 3 = 0 then 0 else 1))) && (match px_nm r 3, r.2.1 with
        | 0, .invokestatic idx => px_in tb (px_nm r 5) (.methodLink M.nm.cls idx N.nm) && px_in tb (px_nm r 6) (.static N.nm)
        | 1, .invokespecial idx => decide (N.nm.name = "<init>") && px_in tb (px_nm r 5) (.methodLink M.nm.cls idx N.nm) && px_in tb (px_nm r 6) (.instanceMethod N.nm) && px_in tb (px_nm r 7) (.code N.nm N.by N.ml none)
        | 2, .invokevirtual idx => px_in tb (px_nm r 5) (.methodLink M.nm.cls idx N.nm) && px_in tb (px_nm r 6) (.instanceMethod N.nm) && (match cl[px_nm r 4]? with
          | some (C, _, _) => px_in tb (px_nm r 7) (.selects C N.nm N.nm)
          | none => false)
        | 3, .invokespecial idx => decide (N.nm.name = "<init>") && px_in tb (px_nm r 5) (.methodLinkNest M.nm.cls idx N.nm M.nm.cls) && px_in tb (px_nm r 6) (.instanceMethod N.nm) && px_in tb (px_nm r 7) (.code N.nm N.by N.ml none)
        | _, _ => false))
/-- a row of 'throw new' -/
def px_okT (tb : List Cond) (ss : List (String × Nat × String)) (cl : List vw_C) (M : px_M) (r : px_R) : Prop :=
  ∃ (C Y0 tx : String) (Tt : u_T) (names : List String) (bytes : ByteArray) (idx ik is ic : Nat), r.2.1 = .new ik ∧ r.2.2.1 = 3 ∧ cl[px_nm r 0]? = some (C, Tt, 0) ∧ Bundle.fit C = true ∧ Bundle.fit Y0 = true ∧ (∀ n ∈ names, Bundle.fit n = true) ∧ names.length ≤ 3 ∧ decode bytes 0 = .ok (.aload_n 0, 1) ∧ decode bytes 1 = .ok (.aload_n 1, 1) ∧ decode bytes 2 = .ok (.invokespecial idx, 3) ∧ decode bytes 5 = .ok (.return_, 1) ∧ Cond.classLink M.nm.cls ik C ∈ tb ∧ Cond.initialized C ∈ tb ∧ (∀ w ∈ px_at M.nm.cls ic C Y0 idx bytes names, w ∈ tb ∨ w ∈ px_four) ∧ (M.nm.cls, is, tx) ∈ ss ∧
    decode M.by (r.1 + 3) = .ok (.dup, 1) ∧ decode M.by (r.1 + 4) = .ok (.ldc is, 2) ∧ decode M.by (r.1 + 6) = .ok (.invokespecial ic, 3) ∧ decode M.by (r.1 + 9) = .ok (.athrow, 1) ∧ ∀ h ∈ M.hf, px_cov (r.1 + 9) h = false
/-- the handlers -/
def px_okH (tb : List Cond) (cl : List vw_C) (M : px_M) : Prop := M.hs.length = M.hf.length ∧ ∀ (j : Nat) (h f : Nat × Nat × Nat × Nat), M.hs[j]? = some h → M.hf[j]? = some f → h.1 = f.1 ∧ h.2.1 = f.2.1 ∧ (∃ r : px_R, M.cd[h.2.2.1]? = some r ∧ r.1 = f.2.2.1) ∧ f.2.2.2 ≠ 0 ∧ ∃ (C : String) (T : u_T), cl[h.2.2.2]? = some (C, T, 0) ∧ Cond.classLink M.nm.cls f.2.2.2 C ∈ tb ∧ Cond.castable C C ∈ tb ∧ (j + 1 < M.hs.length → ∀ (c' : Nat) (C' : String) (T' : u_T), ¬ c' = h.2.2.2 → cl[c']? = some (C', T', 0) → Cond.not (.castable C' C) ∈ tb)
def px_okR (tb : List Cond) (ss : List (String × Nat × String)) (cl : List vw_C) (P : List px_M) (M : px_M) (i : Nat) (r : px_R) : Prop :=
  decode M.by r.1 = .ok (r.2.1, r.2.2.1) ∧ (px_kd r = 0 → px_okS tb cl M i r = true) ∧ (px_kd r = 1 → r.2.2.1 = 1) ∧ (px_kd r = 2 → px_okT tb ss cl M r) ∧ (px_kd r = 3 → px_okK tb cl P M i r = true)
def px_okM (tb : List Cond) (ss : List (String × Nat × String)) (cl : List vw_C) (P : List px_M) (M : px_M) : Prop :=
  plainFor M.nm = true ∧ (Cond.codeWith M.nm M.by M.ml M.rt M.hf ∈ tb ∨ (M.hf = [] ∧ Cond.code M.nm M.by M.ml M.rt ∈ tb)) ∧ Cond.initialized M.nm.cls ∈ tb ∧ M.ml ≤ 40 ∧ px_nx M.cd 0 0 = true ∧ px_okH tb cl M ∧ ∀ (i : Nat) (r : px_R), M.cd[i]? = some r → px_okR tb ss cl P M i r
section PXN
variable {tb : List Cond} {ss : List (String × Nat × String)} {cl : List vw_C} {P : List px_M} {N : px_M} {args : Array Value} {s : State}
/-- what the words say of a method -/
theorem px_named (hN : px_okM tb ss cl P N) (hts : ∀ w ∈ tb, w.before args s = true) : ∃ (mk : MethodId) (methY : Method) (cY : Code) (kY : Class), s.methodNamed? N.nm = some mk ∧ s.vm.method? mk = some methY ∧ methY.code = some cY ∧ cY.code = N.by ∧ cY.maxLocals = N.ml ∧
    cY.exceptionTable.toList.map (fun h => (h.startPc, h.endPc, h.handlerPc, h.catchType)) = N.hf ∧ methY.sig.returnType = N.rt ∧ methY.locks = false ∧ parseMethodDescriptor N.nm.desc = some methY.sig ∧ s.vm.classes[mk.cls]? = some kY ∧ kY.init = .initialized := by
  have hcw : (Cond.codeWith N.nm N.by N.ml N.rt N.hf).before args s = true := by
    rcases hN.2.1 with h | ⟨h0, h⟩
    · exact hts _ h
    · rw [h0]
      have h1 : (Cond.code N.nm N.by N.ml N.rt).holds args s none s [] = true := hts _ h
      show (Cond.codeWith N.nm N.by N.ml N.rt []).holds args s none s [] = true
      unfold Cond.holds at h1 ⊢
      rw [← Cond.code_iff_codeWith_nil]
      exact h1
  obtain ⟨mk, methY, cY, h1, h2, h3, h4, h5, h6, h7, h8, h9⟩ := Cond.codeWith_spec hcw
  obtain ⟨kY, hk, -⟩ := className_of_methodNamed h1
  exact ⟨mk, methY, cY, kY, h1, h2, h3, h4, h5, h6, h7, h8, h9, hk, Cond.initialized_spec (findClass_of_methodNamed h1) hk (hts _ hN.2.2.1)⟩
end PXN
/-! a method begins -/
theorem px_en_sl (b base : Nat) (vs : List Value) : (px_en vs).length = (lg_sl (vs.map (px_cv b base))).length := by
  induction vs with
  | nil => rfl
  | cons v vs ih =>
    have e : lg_sl ((v :: vs).map (px_cv b base)) = (if (px_cv b base v).category = 2 then [Slot.val (px_cv b base v), .second] else [.val (px_cv b base v)]) ++ lg_sl (vs.map (px_cv b base)) := by
      simp [lg_sl]
    rw [e, px_cat]
    unfold px_en
    by_cases h : v.category = 2
    · simp [h, ih]
    · simp [h, ih]
theorem px_en_at (b base : Nat) : ∀ (vs : List Value) (j : Nat) (v : Value), px_lg (px_en vs) j = some v → (lg_sl (vs.map (px_cv b base)))[j]? = some (.val (px_cv b base v)) := by
  intro vs
  induction vs with
  | nil =>
    intro j v h
    simp [px_lg, px_en] at h
  | cons u vs ih =>
    intro j v h
    have e : lg_sl ((u :: vs).map (px_cv b base)) = (if (px_cv b base u).category = 2 then [Slot.val (px_cv b base u), .second] else [.val (px_cv b base u)]) ++ lg_sl (vs.map (px_cv b base)) := by
      simp [lg_sl]
    rw [e, px_cat]
    unfold px_en at h
    by_cases hc : u.category = 2
    · rw [if_pos hc] at h ⊢
      match j, h with
      | 0, h =>
        simp [px_lg] at h
        subst h
        rfl
      | 1, h => simp [px_lg] at h
      | j + 2, h =>
        have h' : px_lg (px_en vs) j = some v := by simpa [px_lg] using h
        simpa using ih j v h'
    · rw [if_neg hc] at h ⊢
      match j, h with
      | 0, h =>
        simp [px_lg] at h
        subst h
        rfl
      | j + 1, h =>
        have h' : px_lg (px_en vs) j = some v := by simpa [px_lg] using h
        simpa using ih j v h'
theorem px_ent_hl {b base ml : Nat} {vs : List Value} (h : (px_en vs).length ≤ ml) : px_hl b base ((lg_sl (vs.map (px_cv b base)) ++ List.replicate (ml - (lg_sl (vs.map (px_cv b base))).length) Slot.unset).toArray) (px_ent ml vs) := by
  have hle : (lg_sl (vs.map (px_cv b base))).length ≤ ml := by rw [← px_en_sl]; exact h
  obtain ⟨h1, h2, -⟩ := lv_entry (vs.map (px_cv b base)) (n := ml) hle
  refine ⟨?_, h2, fun j v hj => ?_⟩
  · rw [h1]
    simp [px_ent]
    omega
  · have hlt : j < (px_en vs).length := by
      rcases Nat.lt_or_ge j (px_en vs).length with q | q
      · exact q
      · exfalso
        unfold px_lg px_ent at hj
        rw [List.getElem?_append_right q] at hj
        rw [List.getElem?_replicate] at hj
        split at hj <;> simp_all
    have hj' : px_lg (px_en vs) j = some v := by
      unfold px_lg px_ent at hj
      rw [List.getElem?_append_left hlt] at hj
      exact hj
    rw [List.getElem?_toArray, List.getElem?_append_left (by rw [← px_en_sl]; exact hlt)]
    exact px_en_at b base vs j v hj'
theorem px_ent_len {ml : Nat} {vs : List Value} (h : (px_en vs).length ≤ ml) : (px_ent ml vs).length = ml := by
  simp [px_ent]; omega
