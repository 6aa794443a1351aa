/-! THE SIMULATION. -/
section PXS
variable {tb : List Cond} {ss : List (String × Nat × String)} {cl : List vw_C} {E : px_T} {P : List px_M} {D : va_G} {cA : Nat → ClassId} {b base : Nat} {l : Launch}
theorem px_ret_sim {p : Program} {e : Env} {R : Room} {s : State} {m : MethodId} {args : Array Value} {below : List Frame} {meth : Method} {c : Code} {H : Heap} {locs : List Loc} {cells slots : Nat} {M : px_M} {r : px_R} {S : List Value} {w w' : px_W} {q : List Prop} {o : Option Value ⊕ Nat} {ls : Array Slot}
    (hB : px_B tb p s m args meth c M) (hdg : decode M.by r.1 = .ok (r.2.1, r.2.2.1)) (hlen : r.2.2.1 = 1) (h : px_rt M.rt r S w = some (o, w', q)) (hq : px_all q) (hP : va_P D cl (px_cw cA b base w) H) (hS : va_S (fun q => base ≤ q) s.heap H locs) (hsz : base + (w.length - 1) ≤ H.size) :
    W p l e R s m args below meth c H locs cells slots (px_End D cl cA b base below s o w' cells slots) (F0 m r.1 ls (S.map (px_cv b base))) := by
  obtain ⟨hx, hb, hmx, hown, hts, hrt, hlk, hnm⟩ := hB
  rw [hlen] at hdg
  have key : ∀ (oc : Outcome), oc = px_oc b base o → w' = w → ∀ t, MQ below (fun _ _ oc' t => oc' = oc ∧ t.heap = H) args s cells slots (fun q => base ≤ q) t → px_End D cl cA b base below s o w' cells slots t := by
    intro oc hoc hw t ⟨o', h1, h2, ⟨h3, h4⟩, L, ⟨h5, h6, h7⟩, h8⟩
    subst hw
    rw [h3, hoc] at h2
    exact ⟨L, h1, h2, h6, h7, h8, by rw [h4]; exact ⟨hS.1, hS.2.1, fun _ q => nomatch q⟩, by rw [h4]; exact hP, by rw [h4]; exact hsz⟩
  unfold px_rt at h
  split at h
  · rename_i v hi hr
    cases h
    rw [hi] at hdg
    rw [hr] at hrt
    exact px_W_mono (key _ rfl rfl) (W.iret (Qc := fun _ _ oc' t => oc' = _ ∧ t.heap = H) hx hb hrt (fun t ht _ => ⟨rfl, ht⟩) hS.2.2 hdg hlk)
  · rename_i v hi hr
    cases h
    rw [hi] at hdg
    rw [hr] at hrt
    exact px_W_mono (key _ rfl rfl) (W.zret (Qc := fun _ _ oc' t => oc' = _ ∧ t.heap = H) hx hb hrt (by rcases hq with h | h <;> subst h <;> decide) (fun t ht _ => ⟨rfl, ht⟩) hS.2.2 hdg hlk)
  · rename_i v hi hr
    cases h
    rw [hi] at hdg
    rw [hr] at hrt
    exact px_W_mono (key _ rfl rfl) (W.lret (Qc := fun _ _ oc' t => oc' = _ ∧ t.heap = H) hx hb hrt (fun t ht _ => ⟨rfl, ht⟩) hS.2.2 hdg hlk)
  · rename_i hi hr
    cases h
    rw [hi] at hdg
    rw [hr] at hrt
    exact px_W_mono (key _ rfl rfl) (W.vret (Qc := fun _ _ oc' t => oc' = _ ∧ t.heap = H) hx hb hrt (fun t ht _ => ⟨rfl, ht⟩) hS.2.2 hdg hlk)
  · cases h
/-- the rows of the table and the handlers of the pure machine say the same -/
theorem px_find_srch {s : State} {args : Array Value} {pl : Platform} {M : px_M} {pc ci hr : Nat} {C : String} {T : u_T} {mcls cX : ClassId} (hpl : pl.magicAccessors = ({} : Platform).magicAccessors) (hts : ∀ w ∈ tb, w.before args s = true) (hown : s.vm.findClass M.nm.cls = some mcls) (hC : cl[ci]? = some (C, T, 0)) (hcX : s.vm.findClass C = some cX) :
    ∀ (hs hf : List (Nat × Nat × Nat × Nat)) (xs : List ExceptionTableEntry), hs.length = hf.length → xs.map (fun h => (h.startPc, h.endPc, h.handlerPc, h.catchType)) = hf →
      (∀ (j : Nat) (h f : Nat × Nat × Nat × Nat), hs[j]? = some h → hf[j]? = some f → h.1 = f.1 ∧ h.2.1 = f.2.1 ∧ (∃ r : px_R, M.cd[h.2.2.1]? = some r ∧ r.1 = f.2.2.1) ∧ f.2.2.2 ≠ 0 ∧ ∃ (C : String) (T : u_T), cl[h.2.2.2]? = some (C, T, 0) ∧ Cond.classLink M.nm.cls f.2.2.2 C ∈ tb ∧ Cond.castable C C ∈ tb ∧ (j + 1 < hs.length → ∀ (c' : Nat) (C' : String) (T' : u_T), ¬ c' = h.2.2.2 → cl[c']? = some (C', T', 0) → Cond.not (.castable C' C) ∈ tb)) →
      px_find pc ci hs = some hr → ∃ (ys : List Bool) (r : px_R), M.cd[hr]? = some r ∧ px_rows pl s mcls cX pc xs ys ∧ px_srch pc xs ys = some r.1 := by
  intro hs
  induction hs with
  | nil => intro hf xs _ _ _ h; cases h
  | cons h hs ih =>
    intro hf xs hl hm hok hfd
    cases hf with
    | nil => simp at hl
    | cons f hf =>
      cases xs with
      | nil => simp at hm
      | cons x xs =>
        simp only [List.map_cons, List.cons.injEq] at hm
        obtain ⟨hx, hm⟩ := hm
        obtain ⟨e1, e2, ⟨r, hr1, hr2⟩, e3, C1, T1, g1, g2, g3, g4⟩ := hok 0 h f rfl rfl
        have hcov : px_cov pc h = covers x pc := by
          unfold px_cov covers
          rw [e1, e2, ← hx]
        have hct : x.catchType = f.2.2.2 := by rw [← hx]
        have hhp : x.handlerPc = f.2.2.1 := by rw [← hx]
        obtain ⟨c5, hc5, hcl5⟩ := Cond.classLink_spec hown (hts _ g2) pl hpl
        rw [← hct] at hcl5
        have hok' : ∀ (j : Nat) (h f : Nat × Nat × Nat × Nat), hs[j]? = some h → hf[j]? = some f → h.1 = f.1 ∧ h.2.1 = f.2.1 ∧ (∃ r : px_R, M.cd[h.2.2.1]? = some r ∧ r.1 = f.2.2.1) ∧ f.2.2.2 ≠ 0 ∧ ∃ (C : String) (T : u_T), cl[h.2.2.2]? = some (C, T, 0) ∧ Cond.classLink M.nm.cls f.2.2.2 C ∈ tb ∧ Cond.castable C C ∈ tb ∧ (j + 1 < hs.length → ∀ (c' : Nat) (C' : String) (T' : u_T), ¬ c' = h.2.2.2 → cl[c']? = some (C', T', 0) → Cond.not (.castable C' C) ∈ tb) := by
          intro j h' f' a1 a2
          obtain ⟨b1, b2, b3, b4, C2, T2, b5, b6, b7, b8⟩ := hok (j + 1) h' f' (by simpa using a1) (by simpa using a2)
          exact ⟨b1, b2, b3, b4, C2, T2, b5, b6, b7, fun q => b8 (by simp; omega)⟩
        unfold px_find at hfd
        by_cases hyes : px_cov pc h = true ∧ h.2.2.2 = ci
        · rw [if_pos hyes] at hfd
          cases hfd
          have hcc : C1 = C := by
            rw [hyes.2, hC] at g1
            cases g1
            rfl
          subst hcc
          obtain ⟨c3, c4, a3, a4, hasg⟩ := Cond.castable_spec (hts _ g3)
          cases a3.symm.trans a4
          cases a3.symm.trans hcX
          cases a3.symm.trans hc5
          refine ⟨true :: List.replicate xs.length false, r, hr1, ⟨fun _ => ⟨by rw [hct]; exact e3, _, hcl5, hasg⟩, Or.inl ⟨hcov ▸ hyes.1, rfl⟩⟩, ?_⟩
          unfold px_srch
          rw [if_pos ⟨hcov ▸ hyes.1, rfl⟩, hhp, hr2]
        · rw [if_neg hyes] at hfd
          obtain ⟨ys, r', k1, k2, k3⟩ := ih hf xs (by simpa using hl) hm hok' hfd
          by_cases hcv : px_cov pc h = true
          · have hne : ¬ ci = h.2.2.2 := fun q => hyes ⟨hcv, q.symm⟩
            have hlt : 0 + 1 < (h :: hs).length := by
              cases hs with
              | nil => cases hfd
              | cons _ _ => simp
            obtain ⟨c3, c4, a3, a4, hasg⟩ := va_Nc.of (hts _ (g4 hlt ci C T hne hC))
            cases a3.symm.trans hcX
            cases a4.symm.trans hc5
            refine ⟨false :: ys, r', k1, ⟨fun _ => ⟨by rw [hct]; exact e3, _, hcl5, hasg⟩, Or.inr k2⟩, ?_⟩
            unfold px_srch
            rw [if_neg (by simp)]
            exact k3
          · refine ⟨false :: ys, r', k1, ⟨fun q => absurd (hcov ▸ q) hcv, Or.inr k2⟩, ?_⟩
            unfold px_srch
            rw [if_neg (by simp)]
            exact k3
theorem px_find_mem {pc c hr : Nat} : ∀ {hs : List (Nat × Nat × Nat × Nat)}, px_find pc c hs = some hr → ∃ h, h ∈ hs ∧ h.2.2.2 = c := by
  intro hs
  induction hs with
  | nil => intro h; cases h
  | cons x hs ih =>
    intro h
    unfold px_find at h
    split at h
    · rename_i hc
      exact ⟨x, List.mem_cons_self, hc.2⟩
    · obtain ⟨y, h1, h2⟩ := ih h
      exact ⟨y, List.mem_cons_of_mem _ h1, h2⟩
theorem px_nocov {M : px_M} {xs : List ExceptionTableEntry} {pc : Nat} (hok : px_okH tb cl M) (hext : xs.map (fun h => (h.startPc, h.endPc, h.handlerPc, h.catchType)) = M.hf) (hall : (M.hs.all fun h => !px_cov pc h) = true) : ∀ x ∈ xs, covers x pc = false := by
  intro x hx
  obtain ⟨j, hj⟩ := List.getElem?_of_mem hx
  have hf : M.hf[j]? = some (x.startPc, x.endPc, x.handlerPc, x.catchType) := by
    rw [← hext, List.getElem?_map, hj]; rfl
  obtain ⟨h, hh⟩ : ∃ h, M.hs[j]? = some h := ⟨_, List.getElem?_eq_getElem (by rw [hok.1]; exact (List.getElem?_eq_some_iff.mp hf).1)⟩
  obtain ⟨e1, e2, -⟩ := hok.2 j h _ hh hf
  have := List.all_eq_true.mp hall h (List.mem_of_getElem? hh)
  simp only [px_cov, e1, e2] at this
  cases hcv : covers x pc with
  | false => rfl
  | true =>
    rw [show (decide (x.startPc ≤ pc) && decide (pc < x.endPc)) = true from hcv] at this
    cases this
set_option maxHeartbeats 4000000 in
theorem px_sim (hl : l.stackTraces = false) (hC : px_okC tb cl E) (hkp : ∀ w ∈ tb, px_kp w = true) (hM : ∀ N ∈ P, px_okM tb ss cl P N) : ∀ (n d mi i : Nat) (L : px_L) (S : List Value) (w w' : px_W) (o : Option Value ⊕ Nat) (qs : List Prop), px_run E P n d mi i L S w = some (o, w', qs) → px_all qs → 0 < w.length →
    ∀ (M : px_M) (r : px_R), P[mi]? = some M → M.cd[i]? = some r →
    ∀ (p : Program) (e : Env) (R : Room) (s : State) (m : MethodId) (args : Array Value) (below : List Frame) (meth : Method) (c : Code) (H : Heap) (locs : List Loc) (cells slots k n' : Nat) (ls : Array Slot),
    px_B tb p s m args meth c M → c.exceptionTable.toList.map (fun h => (h.startPc, h.endPc, h.handlerPc, h.catchType)) = M.hf →
    px_I D cl cA b base w s H → px_Out ss base s s.heap → va_S (fun q => base ≤ q) s.heap H locs → base + (w.length - 1) ≤ H.size → base + (w.length - 1) = s.heap.size + cells → base ≤ s.heap.size → px_hl b base ls L → L.length = M.ml →
    d ≤ R.frames → 64 * d ≤ R.locals → k + w.length = cells + w'.length → n' + px_tot w = slots + px_tot w' → k ≤ R.cells → n' ≤ R.slots →
    W p l e R s m args below meth c H locs cells slots (px_End D cl cA b base below s o w' k n') (F0 m r.1 ls (S.map (px_cv b base))) := by
  intro n
  induction n with
  | zero => intro d mi i L S w w' o qs h; cases h
  | succ n ih =>
    intro d mi i L S w w' o qs h hqs hw M r hPM hr p e R s m args below meth c H locs cells slots k n' ls hB hext hI hO hS hsz hcw hbs hl' hml hfr hlo hk hn' hkR hnR
    cases d with
    | zero => cases h
    | succ d =>
      rw [px_run_eq, hPM] at h
      dsimp only at h
      rw [hr] at h
      dsimp only at h
      have hMok := hM M (List.mem_of_getElem? hPM)
      obtain ⟨hplain, hcode, hini, hml40, hnx0, hokH, hrows⟩ := id hMok
      obtain ⟨hdg, ok0, ok1, ok2, ok3⟩ := hrows i r hr
      obtain ⟨hx, hb, hmx, hown, hts, hrt, hlk, hnm⟩ := id hB
      obtain ⟨hK, hP, n0, xs, hw0, hX, hbb⟩ := id hI
      rcases hkd : px_kd r with _ | _ | _ | _ | kd
      · simp only [hkd] at h
        cases hs : px_step E r i L S w with
        | none => rw [hs] at h; cases h
        | some z =>
          obtain ⟨i1, L1, S1, w1, q1⟩ := z
          rw [hs] at h
          dsimp only at h
          obtain ⟨ps, h1, h2⟩ := px_ad_eq.mp h
          dsimp only at h1 h2
          subst h2
          obtain ⟨hq1, hps⟩ := px_all_app.mp hqs
          have hg1 := px_step_gr hs
          have hg2 := px_run_gr _ _ _ _ _ _ _ _ h1
          dsimp only at hg2
          obtain ⟨r1, hr1⟩ : ∃ r1, M.cd[i1]? = some r1 := by
            cases n with
            | zero => cases h1
            | succ n =>
              rw [px_run_eq, hPM] at h1
              dsimp only at h1
              cases hr1 : M.cd[i1]? with
              | none => rw [hr1] at h1; cases h1
              | some r1 => exact ⟨r1, rfl⟩
          refine px_step_sim hC hB hdg (ok0 hkd) hs hq1 hr1 hI hS hsz hcw hbs hl' hml (by omega) (by omega) (by have := hg2.1; omega) (by have := hg2.2.1; omega) (fun H' locs' cells' slots' ls' a1 a2 a3 a4 a5 a6 a7 => ?_)
          have hw1 : 0 < w1.length := Nat.lt_of_lt_of_le hw hg1.1
          exact ih _ _ _ _ _ _ _ _ _ h1 hps hw1 M r1 hPM hr1 p e R s m args below meth c H' locs' cells' slots' k n' ls' hB hext a3 hO a4 a5 (by omega) hbs a6 (a7.trans hml) hfr hlo (by omega) (by omega) hkR hnR
      · simp only [hkd] at h
        · skip
          have hww : w' = w := by
            unfold px_rt at h
            split at h <;> first | (cases h; rfl) | cases h
          subst hww
          have e1 : k = cells := by omega
          have e2 : n' = slots := by omega
          subst e1 e2
          exact px_ret_sim hB hdg (ok1 hkd) h hqs hP hS hsz
      · simp only [hkd] at h
        · skip
          · skip
            split at h
            · rename_i hc
              cases h
              obtain ⟨C, Y0, tx, Tt, names, bytes, idx, ik, is, ic, t1, t2, t3, t4, y4, t5, t6, b0, b1, b2, b5, t7, t8, t9, t10, t11, t12, t13, t14, t15⟩ := ok2 hkd
              rw [t1, t2] at hdg
              rw [List.length_append] at hk
              rw [px_tot_app] at hn'
              have e1 : k = cells + 1 := by simp at hk; omega
              have e2 : n' = slots + 6 := by
                have : px_sz (px_exc (px_nm r 0)) = 6 := rfl
                omega
              subst e1 e2
              refine px_throw (names := names) (ik := ik) (is := is) (ic := ic) (tx := tx) (Tt := Tt) (C := C) hx hb hl hown t3 t4 y4 t5 b0 b1 b2 b5 hts hkp t7 t8 t9 t10 hO hK hP hS hw hsz hcw (hl'.1.trans (hml.trans hmx.symm)) hdg t11 t12 t13 t14 (fun x hx' => ?_) (by omega) (by
                rw [px_cat_map]
                have := hc.2
                omega) hkR hnR hlk
              have hmem : ((x.startPc, x.endPc, x.handlerPc, x.catchType) : Nat × Nat × Nat × Nat) ∈ M.hf := by
                rw [← hext]
                exact List.mem_map.mpr ⟨x, hx', rfl⟩
              exact t15 _ hmem
            · cases h
      · simp only [hkd] at h
        · skip
          · skip
            · skip
              cases hN : P[px_nm r 1]? with
              | none => rw [hN] at h; cases h
              | some N =>
                rw [hN] at h
                dsimp only at h
                split at h
                · rename_i hc
                  have hNok := hM N (List.mem_of_getElem? hN)
                  cases hcal : px_run E P n d (px_nm r 1) 0 (px_ent N.ml (S.take (px_nm r 2)).reverse) [] w with
                  | none => rw [hcal] at h; cases h
                  | some z =>
                    obtain ⟨o1, w1, q1⟩ := z
                    rw [hcal] at h
                    have hg1 := px_run_gr _ _ _ _ _ _ _ _ hcal
                    dsimp only at hg1
                    obtain ⟨r0, hr0⟩ : ∃ r0, N.cd[0]? = some r0 := by
                      cases n with
                      | zero => cases hcal
                      | succ n =>
                        cases d with
                        | zero => cases hcal
                        | succ d =>
                          rw [px_run_eq, hN] at hcal
                          dsimp only at hcal
                          cases hr1 : N.cd[0]? with
                          | none => rw [hr1] at hcal; cases hcal
                          | some r1 => exact ⟨r1, rfl⟩
                    have hpc0 : r0.1 = 0 := px_nx_at hNok.2.2.2.2.1 hr0
                    have hen : (px_en (S.take (px_nm r 2)).reverse).length ≤ N.ml := by
                      have := hc
                      unfold px_okc at this
                      simp only [Bool.and_eq_true, decide_eq_true_eq] at this
                      exact this.1.2
                    have hw1 : 0 < w1.length := Nat.lt_of_lt_of_le hw hg1.1
                    have hMet : px_all q1 → MetFree l N.nm (headSpec tb (px_rm d (w1.length - w.length) (px_tot w1 - px_tot w))) (px_Pre ss cl D cA b base w ((S.take (px_nm r 2)).reverse)) (fun _ _ _ _ _ => True) (px_Post cl D cA b base o1 w1 (w1.length - w.length) (px_tot w1 - px_tot w)) := by
                      intro hq1
                      refine px_met hNok hen (fun p e s m args below meth c ls hB' hext' hPre hl2 => ?_)
                      obtain ⟨-, z1, z2, z3⟩ := hPre
                      have := ih _ _ _ _ _ _ _ _ _ hcal hq1 hw N r0 hN hr0 p e (px_rm d (w1.length - w.length) (px_tot w1 - px_tot w)) s m args below meth c s.heap [] 0 0 (w1.length - w.length) (px_tot w1 - px_tot w) ls hB' hext' z2 z3 va_S.rf (by omega) (by omega) (by omega) hl2 (px_ent_len hen) (Nat.le_refl _) (Nat.le_refl _) (by have := hg1.1; omega) (by have := hg1.2.1; omega) (Nat.le_refl _) (Nat.le_refl _)
                      rw [hpc0] at this
                      exact this
                    have hcells : cells + (w1.length - w.length) ≤ R.cells ∧ slots + (px_tot w1 - px_tot w) ≤ R.slots ∧ px_all q1 := by
                      cases o1 with
                      | inl v =>
                        dsimp only at h
                        obtain ⟨ps, h1, h2⟩ := px_ad_eq.mp h
                        dsimp only at h1 h2
                        subst h2
                        have hg2 := px_run_gr _ _ _ _ _ _ _ _ h1
                        have g1 := hg1.1
                        have g2 := hg1.2.1
                        have g3 := hg2.1
                        have g4 := hg2.2.1
                        dsimp only at g3 g4
                        exact ⟨by omega, by omega, (px_all_app.mp hqs).1⟩
                      | inr a =>
                        dsimp only at h
                        cases hf : px_hnd r.1 M.hs w1 a with
                        | none => rw [hf] at h; cases h
                        | some hh =>
                          rw [hf] at h
                          cases hh with
                          | none =>
                            cases h
                            have g1 := hg1.1
                            have g2 := hg1.2.1
                            exact ⟨by omega, by omega, hqs⟩
                          | some hh =>
                            dsimp only at h
                            obtain ⟨ps, h1, h2⟩ := px_ad_eq.mp h
                            dsimp only at h1 h2
                            subst h2
                            have hg2 := px_run_gr _ _ _ _ _ _ _ _ h1
                            have g1 := hg1.1
                            have g2 := hg1.2.1
                            have g3 := hg2.1
                            have g4 := hg2.2.1
                            dsimp only at g3 g4
                            exact ⟨by omega, by omega, (px_all_app.mp hqs).1⟩
                    have hnx : px_nx M.cd (i + 1) (r.1 + 3) = true := by
                      have := ok3 hkd
                      unfold px_okK at this
                      simp only [Bool.and_eq_true, decide_eq_true_eq] at this
                      exact this.1.2
                    refine px_go_call hM hkp hB hdg (ok3 hkd) hN hc hI hO hS hsz hcw (hl'.1.trans hml) hfr hlo hNok.2.2.2.1 hcells.1 hcells.2.1 (hg1.2.2 hw) (hMet hcells.2.2) (fun v H' locs' ho aS aI asz => ?_) (fun a H' locs' ho aS aI asz T' hT' X' => ?_)
                    · subst ho
                      dsimp only at h
                      obtain ⟨ps, h1, h2⟩ := px_ad_eq.mp h
                      dsimp only at h1 h2
                      subst h2
                      obtain ⟨hq1, hps⟩ := px_all_app.mp hqs
                      obtain ⟨r1, hr1⟩ : ∃ r1, M.cd[i + 1]? = some r1 := by
                        cases n with
                        | zero => cases h1
                        | succ n =>
                          rw [px_run_eq, hPM] at h1
                          dsimp only at h1
                          cases hr1 : M.cd[i + 1]? with
                          | none => rw [hr1] at h1; cases h1
                          | some r1 => exact ⟨r1, rfl⟩
                      have hpc1 := px_nx_at hnx hr1
                      have g1 := hg1.1
                      have g2 := hg1.2.1
                      have := ih _ _ _ _ _ _ _ _ _ h1 hps hw1 M r1 hPM hr1 p e R s m args below meth c H' locs' (cells + (w1.length - w.length)) (slots + (px_tot w1 - px_tot w)) k n' ls hB hext aI hO aS asz (by omega) hbs hl' hml hfr hlo (by omega) (by omega) hkR hnR
                      rw [hpc1] at this
                      exact this
                    · subst ho
                      dsimp only at h
                      have g1 := hg1.1
                      have g2 := hg1.2.1
                      cases hf : px_hnd r.1 M.hs w1 a with
                      | none => rw [hf] at h; cases h
                      | some hh =>
                        rw [hf] at h
                        unfold px_hnd at hf
                        cases hh with
                        | none =>
                          cases h
                          have e1 : k = cells + (w'.length - w.length) := by omega
                          have e2 : n' = slots + (px_tot w' - px_tot w) := by omega
                          subst e1 e2
                          split at hf
                          · rename_i hall
                            obtain ⟨z1, z2, z3, z4, z5⟩ := X'.leaveThrown (px_adr b base a) (g := F0 m r.1 ls ((S.drop (px_nm r 2)).map (px_cv b base))) rfl rfl rfl (px_nocov hokH hext hall) hlk
                            refine ⟨_, z1, locs', z2, z3, z4, z5, aS.2.2, ?_, ?_, ?_⟩
                            · show va_S _ s.heap T'.heap []
                              rw [hT']
                              exact ⟨aS.1, aS.2.1, fun _ q => nomatch q⟩
                            · show va_P D cl _ T'.heap
                              rw [hT']
                              exact aI.2.1
                            · show _ ≤ T'.heap.size
                              rw [hT']
                              exact asz
                          · split at hf
                            · split at hf <;> cases hf
                            · cases hf
                        | some hh =>
                          dsimp only at h
                          obtain ⟨ps, h1, h2⟩ := px_ad_eq.mp h
                          dsimp only at h1 h2
                          subst h2
                          obtain ⟨hq1, hps⟩ := px_all_app.mp hqs
                          split at hf
                          · cases hf
                          · split at hf
                            · rename_i a' ci fs hwa
                              split at hf
                              · rename_i h' hfd
                                cases hf
                                obtain ⟨h0, hmem, hcls⟩ := px_find_mem hfd
                                obtain ⟨j, hj⟩ := List.getElem?_of_mem hmem
                                obtain ⟨f0, hf0⟩ : ∃ f, M.hf[j]? = some f := ⟨_, List.getElem?_eq_getElem (by rw [← hokH.1]; exact (List.getElem?_eq_some_iff.mp hj).1)⟩
                                obtain ⟨-, -, -, -, C, Tt, hCl, -⟩ := hokH.2 j h0 f0 hj hf0
                                rw [hcls] at hCl
                                obtain ⟨rr, hrr, cell, q1, q2, q3, -⟩ := aI.2.1 _ _ (px_cw_at hwa)
                                obtain ⟨-, hcA1, kC, hkC, -⟩ := hK.1 ci _ hCl
                                have hpl : e.platform.magicAccessors = ({} : Platform).magicAccessors := by rw [X'.admits.platform]
                                obtain ⟨ys, r1, k1, k2, k3⟩ := px_find_srch (pl := e.platform) hpl hts hown hCl hcA1 M.hs M.hf c.exceptionTable.toList hokH.1 hext hokH.2 hfd
                                have q2' : cell.cls = D.1 ci := q2
                                obtain ⟨vm', X2, st⟩ := px_catch X' (g := F0 m r.1 ls ((S.drop (px_nm r 2)).map (px_cv b base))) (a := base + a') (cell := cell) (pc := r1.1) rfl (by rw [hT']; exact q1) (by rw [q3]; rfl) ⟨kC, by rw [q2']; exact hkC⟩ ys (by rw [q2']; exact k2) k3
                                have := ih _ _ _ _ _ _ _ _ _ h1 hps hw1 M r1 hPM k1 p e R s m args below meth c H' locs' (cells + (w1.length - w.length)) (slots + (px_tot w1 - px_tot w)) k n' ls hB hext aI hO aS asz (by omega) hbs hl' hml hfr hlo (by omega) (by omega) hkR hnR
                                obtain ⟨t, s1, s2⟩ := this (T'.setVm vm') hT' X2
                                exact ⟨t, st t s1, s2⟩
                              · cases hf
                            · cases hf
                · cases h
      · simp only [hkd] at h
        cases h
end PXS
