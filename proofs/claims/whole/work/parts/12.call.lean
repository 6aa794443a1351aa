/-! A METHOD'S CONTRACT, AND A CALL. -/
section PXL
variable {tb : List Cond} {ss : List (String × Nat × String)} {cl : List vw_C} {P : List px_M} {M N : px_M} {D : va_G} {cA : Nat → ClassId} {b base : Nat} {w w' : px_W} {o : Option Value ⊕ Nat} {d k n : Nat} {vs : List Value}
variable {p : Program} {l : Launch} {e : Env} {R : Room} {s : State} {m : MethodId} {args : Array Value} {below : List Frame} {meth : Method} {c : Code} {T : State} {H : Heap} {locs : List Loc} {cells slots : Nat}
def px_Pre (ss : List (String × Nat × String)) (cl : List vw_C) (D : va_G) (cA : Nat → ClassId) (b base : Nat) (w : px_W) (vs : List Value) (a : Array Value) (U : State) : Prop :=
  a = (vs.map (px_cv b base)).toArray ∧ base + (w.length - 1) = U.heap.size ∧ px_I D cl cA b base w U U.heap ∧ px_Out ss base U U.heap
def px_Post (cl : List vw_C) (D : va_G) (cA : Nat → ClassId) (b base : Nat) (o : Option Value ⊕ Nat) (w : px_W) (k n : Nat) (_ : Array Value) (st : State) (oc : Outcome) (t : State) : Prop :=
  oc = px_oc b base o ∧ ∃ L : List Loc, st.WarmedH t.vm ∧ st.sameButNew ({ t with vm := st.vm } : State) L k n ∧ (∀ q ∈ L, base ≤ q.base) ∧ va_S (fun q => base ≤ q) st.heap t.heap [] ∧ va_P D cl (px_cw cA b base w) t.heap ∧ base + (w.length - 1) ≤ t.heap.size
theorem px_met (hN : px_okM tb ss cl P N) (hlen : (px_en vs).length ≤ N.ml)
    (body : ∀ (p : Program) (e : Env) (s : State) (m : MethodId) (args : Array Value) (below : List Frame) (meth : Method) (c : Code) (ls : Array Slot), px_B tb p s m args meth c N → c.exceptionTable.toList.map (fun h => (h.startPc, h.endPc, h.handlerPc, h.catchType)) = N.hf → px_Pre ss cl D cA b base w vs args s → px_hl b base ls (px_ent N.ml vs) →
      W p l e (px_rm d k n) s m args below meth c s.heap [] 0 0 (px_End D cl cA b base below s o w' k n) (F0 m 0 ls [])) :
    MetFree l N.nm (headSpec tb (px_rm d k n)) (px_Pre ss cl D cA b base w vs) (fun _ _ _ _ _ => True) (px_Post cl D cA b base o w' k n) := by
  refine MetFree.of_bodySF (code := N.by) (maxLocals := N.ml) (ret := N.rt) hN.1 ?_ ?_
  · intro args s m h hn
    obtain ⟨mk, methY, cY, kY, h1, h2, h3, h4, h5, h6, h7, h8, h9, h10, h11⟩ := px_named hN (atoms_spec (ws := tb) h)
    cases hn.symm.trans h1
    exact ⟨methY, cY, h2, h3, h4, h5, h7, h8⟩
  · intro p e s m args below meth c s₁ B hml hP _
    have hts := atoms_spec (ws := tb) B.pre
    obtain ⟨mk, methY, cY, kY, h1, h2, h3, h4, h5, h6, h7, h8, h9, h10, h11⟩ := px_named hN hts
    cases B.named.symm.trans h1
    cases B.method.symm.trans h2
    have X := Stand.of_body B
    cases X.code.symm.trans h3
    have hh0 : s₁.heap = s.heap := by rw [B.state]; rfl
    have hB : px_B tb p s m args meth c N := ⟨B.exec, B.bytes, hml, findClass_of_methodNamed B.named, hts, B.returns, B.notSynchronized, (name_of_methodNamed B.named B.method).1⟩
    have key := body p e s m args below meth c _ hB h6 hP (px_ent_hl hlen)
    rw [← lg_entry_eq, ← hP.1] at key
    obtain ⟨t, a1, L, b1, b2, b3⟩ := key s₁ hh0 X
    exact ⟨t, _, a1, b1, b2, rfl, L, b3⟩
/-- an invoke instruction: the method is found -/
theorem px_link {i : Nat} {r : px_R} {S : List Value} {ls : Array Slot} (hM : ∀ N ∈ P, px_okM tb ss cl P N) (hB : px_B tb p s m args meth c M) (hdg : decode M.by r.1 = .ok (r.2.1, r.2.2.1)) (hK3 : px_okK tb cl P M i r = true) (hN : P[px_nm r 1]? = some N) (hc : px_okc r N S w = true)
    (hK : va_K D cl (px_tys cA) s) (hP : va_P D cl (px_cw cA b base w) H) (hT : T.heap = H) (X : Stand p l e R s m args below meth c T locs cells slots) :
    ∃ (mk : MethodId) (vm₁ : Vm), s.methodNamed? N.nm = some mk ∧ s.WarmedH vm₁ ∧ Stand p l e R s m args below meth c (T.setVm vm₁) locs cells slots ∧
      ∀ target, (∀ acts, Steps p.tables e below (doInvoke e ((T.setVm vm₁).setTop (F0 m r.1 ls ((S.drop (px_nm r 2)).map (px_cv b base)))) acts mk (((S.take (px_nm r 2)).reverse).map (px_cv b base)).toArray).1 target) → Steps p.tables e below (T.setTop (F0 m r.1 ls (S.map (px_cv b base)))) target := by
  obtain ⟨hx, hb, hmx, hown, hts, hrt, hlk, hnm⟩ := hB
  have hNok := hM N (List.mem_of_getElem? hN)
  obtain ⟨mk, methY, cY, kY, h1, h2, h3, h4, h5, h6, h7, h8, h9, h10, h11⟩ := px_named (args := args) (s := s) hNok hts
  unfold px_okK at hK3
  rw [hN] at hK3
  simp only [Bool.and_eq_true, decide_eq_true_eq, h9] at hK3
  obtain ⟨⟨hlen, hnx⟩, ⟨⟨hm1, hm2⟩, hpar⟩, hmode⟩ := hK3
  have hdg' : decode c.code r.1 = .ok (r.2.1, 3) := by rw [hb, hdg, hlen]
  unfold px_okc at hc
  simp only [Bool.and_eq_true, decide_eq_true_eq] at hc
  obtain ⟨⟨⟨hn, hcat⟩, hen⟩, hrec⟩ := hc
  have hsplit : S.map (px_cv b base) = ((((S.take (px_nm r 2)).reverse).map (px_cv b base))).reverse ++ (S.drop (px_nm r 2)).map (px_cv b base) := by
    rw [← List.map_reverse, List.reverse_reverse, ← List.map_append, List.take_append_drop]
  have hl : (((S.take (px_nm r 2)).reverse).map (px_cv b base)).length = px_nm r 2 := by simp [Nat.min_eq_left hn]
  have htk : ∀ (q : Nat) (v : Value), px_nm r 2 = q + 1 → S[q]? = some v → (((S.take (px_nm r 2)).reverse).map (px_cv b base)) = px_cv b base v :: ((S.take q).reverse).map (px_cv b base) := by
    intro q v hq hv
    rw [hq, List.take_add_one, hv]
    simp
  have hpl : e.platform.magicAccessors = ({} : Platform).magicAccessors := by rw [X.admits.platform]
  split at hmode
  · rename_i idx hmd hi
    rw [hmd] at hpar
    simp only [Bool.and_eq_true] at hmode
    obtain ⟨hw1, hw2⟩ := hmode
    have hst : methY.isStatic = true := Cond.static_spec h1 h2 (hts _ (px_in_mem hw2))
    rw [hi] at hdg'
    obtain ⟨vm₁, X₁, hstep₁⟩ := X.invokestatic hx hown (hts _ (px_in_mem hw1)) h1 h2 hst h10 h11 ⟨hm1, hm2⟩ (g := F0 m r.1 ls (S.map (px_cv b base))) rfl (argsL := ((S.take (px_nm r 2)).reverse).map (px_cv b base)) (rest := (S.drop (px_nm r 2)).map (px_cv b base)) (by rw [hl]; simpa using hpar) hsplit hdg'
    exact ⟨mk, vm₁, h1, X₁.warmed, X₁, hstep₁⟩
  · rename_i idx hmd hi
    rw [hmd] at hpar hrec
    have hpar' : px_nm r 2 = methY.sig.parameters.length + 1 := by simpa using hpar
    rw [hpar', Nat.add_sub_cancel] at hrec
    simp only [Bool.and_eq_true, decide_eq_true_eq] at hmode
    obtain ⟨⟨⟨hw0, hw1⟩, hw2⟩, hw3⟩ := hmode
    rw [hi] at hdg'
    obtain ⟨a, hs⟩ : ∃ a, S[methY.sig.parameters.length]? = some (.ref (a + 1)) := by
      cases hv : S[methY.sig.parameters.length]? with
      | none => rw [hv] at hrec; cases hrec
      | some v =>
        rw [hv] at hrec
        cases v with
        | ref q => cases q with
          | zero => cases hrec
          | succ q => exact ⟨q, rfl⟩
        | _ => cases hrec
    have ha := htk _ _ hpar' hs
    obtain ⟨mk', methM, cM, kP, vm₁, hnamed, hmethM, hcodeM, -, hlocalsM, -, hkP, -, hW₁, hstep₁⟩ := Steps.initColdArgs (e := e) X.here hx X.warmed hpl hown hw0 ⟨hm1, hm2⟩ (hts _ (px_in_mem hw1)) (hts _ (px_in_mem hw2)) (hts _ (px_in_mem hw3)) (f := F0 m r.1 ls (S.map (px_cv b base))) rfl (a := px_adr b base (a + 1)) (argsL := ((S.take methY.sig.parameters.length).reverse).map (px_cv b base)) (rest := (S.drop (px_nm r 2)).map (px_cv b base)) (fun sig hsig => by
      cases h9.symm.trans hsig
      simp; omega) (by
      show S.map (px_cv b base) = _
      rw [hsplit, ha]
      simp [px_cv]) hdg'
    cases hnamed.symm.trans h1
    refine ⟨mk, vm₁, h1, hW₁, X.noted hW₁, fun target ht => hstep₁ target (fun acts => ?_)⟩
    have := ht acts
    rw [ha] at this
    exact this
  · rename_i idx hmd hi
    rw [hmd] at hpar hrec
    have hpar' : px_nm r 2 = methY.sig.parameters.length + 1 := by simpa using hpar
    rw [hpar', Nat.add_sub_cancel] at hrec
    simp only [Bool.and_eq_true] at hmode
    obtain ⟨⟨hw1, hw2⟩, hw3⟩ := hmode
    rw [hi] at hdg'
    obtain ⟨a, fs, hs, hwa⟩ : ∃ a fs, S[methY.sig.parameters.length]? = some (.ref (a + 1)) ∧ w[a + 1]? = some (.inr (px_nm r 4, fs)) := by
      cases hv : S[methY.sig.parameters.length]? with
      | none => rw [hv] at hrec; cases hrec
      | some v =>
        rw [hv] at hrec
        cases v with
        | ref q => cases q with
          | zero => cases hrec
          | succ q =>
            have hrec : (match w[q + 1]? with
              | some (.inr (c, _)) => decide (c = px_nm r 4)
              | _ => false) = true := hrec
            split at hrec
            · rename_i c' fs hwa
              exact ⟨q, fs, rfl, by rw [hwa, of_decide_eq_true hrec]⟩
            · cases hrec
        | _ => cases hrec
    have ha := htk _ _ hpar' hs
    split at hw3
    · rename_i C Tt Nn hC
      have hsel := hts _ (px_in_mem hw3)
      obtain ⟨cellB, hcB, hoB, hclB⟩ := va_recv hK hP hC (px_cw_at (cA := cA) (b := b) (base := base) hwa)
      obtain ⟨mk', methM, hnamed, hmethM, hstM, habM⟩ := Cond.instanceMethod_spec (hts _ (px_in_mem hw2))
      cases hnamed.symm.trans h1
      cases hmethM.symm.trans h2
      obtain ⟨c2, r2, m2, q1, q2, q3, q4, kP, hkP, hkPi⟩ := Cond.selects_spec hsel
      cases hclB.symm.trans q1
      cases (State.methodFound?_of_named h1 ⟨hm1, hm2⟩).symm.trans q2
      cases h1.symm.trans q3
      have hselP : selectMethod e.platform s.vm cellB.cls mk = .method mk := by rw [Launch.admits_selectMethod X.admits]; exact q4
      obtain ⟨vm₁, X₁, hstep₁⟩ := X.invokevirtual hx hown (hts _ (px_in_mem hw1)) h1 h2 hstM hkP hkPi ⟨hm1, hm2⟩ (a := base + a) (cell := cellB) (by rw [hT]; exact hcB)
        (fun z h => by rw [h] at hoB; cases hoB) hselP h2 habM hkP hkPi (g := F0 m r.1 ls (S.map (px_cv b base))) rfl (argsL := ((S.take methY.sig.parameters.length).reverse).map (px_cv b base)) (rest := (S.drop (px_nm r 2)).map (px_cv b base)) (by simp; omega) (by
        show S.map (px_cv b base) = _
        rw [hsplit, ha]
        simp [px_cv, px_adr]) hdg'
      refine ⟨mk, vm₁, h1, X₁.warmed, X₁, fun target ht => hstep₁ target (fun acts => ?_)⟩
      have := ht acts
      rw [ha] at this
      exact this
    · cases hw3
  · rename_i idx hmd hi
    rw [hmd] at hpar hrec
    have hpar' : px_nm r 2 = methY.sig.parameters.length + 1 := by simpa using hpar
    rw [hpar', Nat.add_sub_cancel] at hrec
    simp only [Bool.and_eq_true, decide_eq_true_eq] at hmode
    obtain ⟨⟨⟨hw0, hw1⟩, hw2⟩, hw3⟩ := hmode
    rw [hi] at hdg'
    obtain ⟨a, hs⟩ : ∃ a, S[methY.sig.parameters.length]? = some (.ref (a + 1)) := by
      cases hv : S[methY.sig.parameters.length]? with
      | none => rw [hv] at hrec; cases hrec
      | some v =>
        rw [hv] at hrec
        cases v with
        | ref q => cases q with
          | zero => cases hrec
          | succ q => exact ⟨q, rfl⟩
        | _ => cases hrec
    have ha := htk _ _ hpar' hs
    obtain ⟨mk', methM, cM, kP, vm₁, hnamed, hmethM, hcodeM, -, hlocalsM, -, hkP, -, hW₁, hstep₁⟩ := Steps.initColdArgsNest (e := e) X.here hx X.warmed hpl hown hw0 ⟨hm1, hm2⟩ (hts _ (px_in_mem hw1)) (hts _ (px_in_mem hw2)) (hts _ (px_in_mem hw3)) (f := F0 m r.1 ls (S.map (px_cv b base))) rfl (a := px_adr b base (a + 1)) (argsL := ((S.take methY.sig.parameters.length).reverse).map (px_cv b base)) (rest := (S.drop (px_nm r 2)).map (px_cv b base)) (fun sig hsig => by
      cases h9.symm.trans hsig
      simp; omega) (by
      show S.map (px_cv b base) = _
      rw [hsplit, ha]
      simp [px_cv]) hdg'
    cases hnamed.symm.trans h1
    refine ⟨mk, vm₁, h1, hW₁, X.noted hW₁, fun target ht => hstep₁ target (fun acts => ?_)⟩
    have := ht acts
    rw [ha] at this
    exact this
  · cases hmode
/-- A CALL: what comes back, and what goes on from there -/
theorem px_go_call {i : Nat} {r : px_R} {S : List Value} {ls : Array Slot} {Q : State → Prop} (hM : ∀ N ∈ P, px_okM tb ss cl P N) (hkp : ∀ w ∈ tb, px_kp w = true) (hB : px_B tb p s m args meth c M) (hdg : decode M.by r.1 = .ok (r.2.1, r.2.2.1)) (hK3 : px_okK tb cl P M i r = true) (hN : P[px_nm r 1]? = some N) (hc : px_okc r N S w = true)
    (hI : px_I D cl cA b base w s H) (hO : px_Out ss base s s.heap) (hS : va_S (fun q => base ≤ q) s.heap H locs) (hsz : base + (w.length - 1) ≤ H.size) (hcw : base + (w.length - 1) = s.heap.size + cells) (hls : ls.size = M.ml)
    (hfr : d + 1 ≤ R.frames) (hlo : 64 * (d + 1) ≤ R.locals) (hml : N.ml ≤ 40) (hrc : cells + k ≤ R.cells) (hrs : slots + n ≤ R.slots) (h0 : w'[0]? = w[0]?)
    (hMet : MetFree l N.nm (headSpec tb (px_rm d k n)) (px_Pre ss cl D cA b base w ((S.take (px_nm r 2)).reverse)) (fun _ _ _ _ _ => True) (px_Post cl D cA b base o w' k n))
    (kr : ∀ (v : Option Value) (H' : Heap) (locs' : List Loc), o = .inl v → va_S (fun q => base ≤ q) s.heap H' locs' → px_I D cl cA b base w' s H' → base + (w'.length - 1) ≤ H'.size → W p l e R s m args below meth c H' locs' (cells + k) (slots + n) Q (F0 m (r.1 + 3) ls ((v.toList ++ S.drop (px_nm r 2)).map (px_cv b base))))
    (kx : ∀ (a : Nat) (H' : Heap) (locs' : List Loc), o = .inr a → va_S (fun q => base ≤ q) s.heap H' locs' → px_I D cl cA b base w' s H' → base + (w'.length - 1) ≤ H'.size → ∀ T' : State, T'.heap = H' → Stand p l e R s m args below meth c T' locs' (cells + k) (slots + n) → ∃ t, Steps p.tables e below ((T'.setTop (F0 m r.1 ls ((S.drop (px_nm r 2)).map (px_cv b base)))).pushFrame (.throwing (px_adr b base a))) t ∧ Q t) :
    W p l e R s m args below meth c H locs cells slots Q (F0 m r.1 ls (S.map (px_cv b base))) := by
  intro T hT X
  obtain ⟨hK, hP, n0, xs, hw0, hX, hbb⟩ := id hI
  obtain ⟨mk, vm₁, h1, hW₁, X₁, hstep₁⟩ := px_link (ls := ls) hM hB hdg hK3 hN hc hK hP hT X
  obtain ⟨hx, hb, hmx, hown, hts, hrt, hlk, hnm⟩ := hB
  have hNok := hM N (List.mem_of_getElem? hN)
  have hts1 : ∀ w ∈ tb, w.before (((S.take (px_nm r 2)).reverse).map (px_cv b base)).toArray (T.setVm vm₁) = true := fun w hw => px_kp_at (U := T.setVm vm₁) hW₁ (hkp w hw) (hts w hw)
  obtain ⟨mk', methY, cY, kY, g1, g2, g3, g4, g5, g6, g7, g8, g9, g10, g11⟩ := px_named hNok hts1
  cases (X₁.named h1).symm.trans g1
  have hlen3 : r.2.2.1 = 3 := by
    unfold px_okK at hK3
    simp only [Bool.and_eq_true, decide_eq_true_eq] at hK3
    exact hK3.1.1
  have hok := hc
  unfold px_okc at hok
  simp only [Bool.and_eq_true, decide_eq_true_eq] at hok
  have hHs := X.heapSize
  rw [hT] at hHs
  have hbA : ¬ base ≤ b := by omega
  have hXs1 : ∀ U : State, s.WarmedH U.vm → U.heap = H → px_I D cl cA b base w U U.heap ∧ px_Out ss base U U.heap := by
    intro U hWU hUH
    rw [hUH]
    exact ⟨⟨va_K.moved hWU.alike hK, hP, n0, xs, hw0, va_X.moved hWU.alike hX, hbb⟩, hO.next hWU hS.2.1⟩
  have hcall : ((T.setVm vm₁).calling (F0 m r.1 ls ((S.drop (px_nm r 2)).map (px_cv b base))) mk (((S.take (px_nm r 2)).reverse).map (px_cv b base)).toArray).heap = H := hT
  have hpre : px_Pre ss cl D cA b base w ((S.take (px_nm r 2)).reverse) (((S.take (px_nm r 2)).reverse).map (px_cv b base)).toArray ((T.setVm vm₁).calling (F0 m r.1 ls ((S.drop (px_nm r 2)).map (px_cv b base))) mk (((S.take (px_nm r 2)).reverse).map (px_cv b base)).toArray) := by
    obtain ⟨q1, q2⟩ := hXs1 _ (show s.WarmedH ((T.setVm vm₁).calling (F0 m r.1 ls ((S.drop (px_nm r 2)).map (px_cv b base))) mk (((S.take (px_nm r 2)).reverse).map (px_cv b base)).toArray).vm from hW₁) hcall
    exact ⟨rfl, by rw [hcall]; omega, q1, q2⟩
  obtain ⟨oc, t, L, k', n', T', hQ, hF, hTh, hTv, X2, hret, hthr⟩ := px_invoke (S := headSpec tb (px_rm d k n)) (F := fun oc t L k' n' => k' = k ∧ n' = n ∧ (∀ q ∈ L, base ≤ q.base)) hMet X₁ (g := F0 m r.1 ls ((S.drop (px_nm r 2)).map (px_cv b base))) rfl (hls.trans hmx.symm) (by rw [hb]; exact hdg) g1 g2 g3 g10 g11
    (show d + 1 ≤ R.frames from hfr) (by
      show 2 * 0 + (((S.drop (px_nm r 2)).map (px_cv b base)).map fun v => v.category).sum + (cY.maxLocals + 11) + 64 * d ≤ R.locals
      rw [px_cat_map, g5]
      have := hok.1.1.2
      omega) hrc hrs (atoms_intro hts1) hpre (fun oc t hq => by
      obtain ⟨-, L, q1, q2, q3, q4⟩ := hq
      exact ⟨L, k, n, q1, q2, rfl, rfl, q3⟩)
  obtain ⟨rfl, rfl, hL⟩ := hF
  obtain ⟨hoc, L', -, -, -, hS', hP', hsz'⟩ := hQ
  rw [hcall] at hS'
  have hSn : va_S (fun q => base ≤ q) s.heap T'.heap (locs ++ L) := by
    rw [hTh]
    refine ⟨Nat.le_trans hS.1 hS'.1, fun q hq hn => (hS'.2.1 q (Nat.lt_of_lt_of_le hq hS.1) hn).trans (hS.2.1 q hq hn), fun z hz => ?_⟩
    rcases List.mem_append.mp hz with h | h
    · exact hS.2.2 z h
    · exact hL z h
  have hIn : px_I D cl cA b base w' s T'.heap := by
    refine ⟨hK, by rw [hTh]; exact hP', n0, xs, by rw [h0]; exact hw0, ?_, hbb⟩
    obtain ⟨scr, q1, q2⟩ := hX
    exact ⟨scr, by rw [hTh, hS'.2.1 b (Array.getElem?_eq_some_iff.mp q1).1 hbA]; exact q1, q2⟩
  have hszn : base + (w'.length - 1) ≤ T'.heap.size := by rw [hTh]; exact hsz'
  cases o with
  | inl v =>
    obtain ⟨t2, s2, q2⟩ := kr v T'.heap (locs ++ L) rfl hSn hIn hszn T' rfl X2
    refine ⟨t2, hstep₁ _ (fun acts => ?_), q2⟩
    rw [doInvoke_state]
    refine (hret _ hoc).trans ?_
    have e1 : (v.map (px_cv b base)).toList ++ (S.drop (px_nm r 2)).map (px_cv b base) = (v.toList ++ S.drop (px_nm r 2)).map (px_cv b base) := by cases v <;> simp
    show Steps p.tables e below (T'.setTop (F0 m (r.1 + r.2.2.1) ls ((v.map (px_cv b base)).toList ++ (S.drop (px_nm r 2)).map (px_cv b base)))) t2
    rw [e1, hlen3]
    exact s2
  | inr a =>
    obtain ⟨t2, s2, q2⟩ := kx a T'.heap (locs ++ L) rfl hSn hIn hszn T' rfl X2
    refine ⟨t2, hstep₁ _ (fun acts => ?_), q2⟩
    rw [doInvoke_state]
    exact (hthr _ hoc).trans s2
end PXL
