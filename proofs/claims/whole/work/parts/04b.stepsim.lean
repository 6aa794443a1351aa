/-! A PLAIN STEP OF THE PURE MACHINE IS A STEP OF THE MACHINE. -/
set_option maxHeartbeats 8000000 in
set_option maxRecDepth 100000 in
theorem px_step_sim {tb : List Cond} {cl : List vw_C} {E : px_T} {D : va_G} {cA : Nat → ClassId} {b base : Nat} {p : Program} {l : Launch} {e : Env} {R : Room} {s : State} {m : MethodId} {args : Array Value} {below : List Frame} {meth : Method} {c : Code} {H : Heap} {locs : List Loc} {cells slots : Nat} {Q : State → Prop} {M : px_M} {r r' : px_R} {i i' : Nat} {L L' : px_L} {S S' : List Value} {w w' : px_W} {q : List Prop} {ls : Array Slot}
    (hC : px_okC tb cl E) (hB : px_B tb p s m args meth c M) (hdg : decode M.by r.1 = .ok (r.2.1, r.2.2.1)) (hok : px_okS tb cl M i r = true)
    (h : px_step E r i L S w = some (i', L', S', w', q)) (hq : px_all q) (hr' : M.cd[i']? = some r')
    (hI : px_I D cl cA b base w s H) (hS : va_S (fun q => base ≤ q) s.heap H locs) (hsz : base + (w.length - 1) ≤ H.size) (hcw : base + (w.length - 1) = s.heap.size + cells) (hbs : base ≤ s.heap.size)
    (hl : px_hl b base ls L) (hml : L.length = M.ml) (hfr : 1 ≤ R.frames) (hlo : 64 ≤ R.locals)
    (hrc : cells + w'.length ≤ R.cells + w.length) (hrs : slots + px_tot w' ≤ R.slots + px_tot w)
    (K : ∀ (H' : Heap) (locs' : List Loc) (cells' slots' : Nat) (ls' : Array Slot), cells' + w.length = cells + w'.length → slots' + px_tot w = slots + px_tot w' → px_I D cl cA b base w' s H' → va_S (fun q => base ≤ q) s.heap H' locs' → base + (w'.length - 1) ≤ H'.size → px_hl b base ls' L' → L'.length = L.length → W p l e R s m args below meth c H' locs' cells' slots' Q (F0 m r'.1 ls' (S'.map (px_cv b base)))) :
    W p l e R s m args below meth c H locs cells slots Q (F0 m r.1 ls (S.map (px_cv b base))) := by
  obtain ⟨pc, ins, len, nums, v⟩ := r
  obtain ⟨hx, hb, hmx, hown, hts, hrt, hlk, hnm⟩ := hB
  obtain ⟨hK, hP, n0, xs, hw0, hX, hbb⟩ := id hI
  have hD : va_D (fun q => base ≤ q) (px_cw cA b base w) := px_cw_D
  have hbA : ¬ base ≤ b := by omega
  dsimp only at hdg hok h ⊢
  unfold px_step at h
  split at h
  · -- iconst
    rename_i n heq
    dsimp only at heq; subst heq
    simp only [px_okS, px_okN, Bool.and_eq_true, decide_eq_true_eq] at hok
    obtain ⟨⟨rfl, hn⟩, rfl⟩ := hok
    unfold px_go at h; cases h
    have hpc := px_nx_at hn hr'
    refine lv_iconst hx hb hdg rfl ?_
    rw [← hpc]
    exact K H locs cells slots ls rfl rfl hI hS hsz hl rfl
  · -- bipush
    rename_i n heq
    dsimp only at heq; subst heq
    simp only [px_okS, px_okN, Bool.and_eq_true, decide_eq_true_eq] at hok
    obtain ⟨⟨rfl, hn⟩, rfl⟩ := hok
    unfold px_go at h; cases h
    have hpc := px_nx_at hn hr'
    refine lv_bipush hx hb hdg rfl ?_
    rw [← hpc]
    exact K H locs cells slots ls rfl rfl hI hS hsz hl rfl
  · -- sipush
    rename_i n heq
    dsimp only at heq; subst heq
    simp only [px_okS, px_okN, Bool.and_eq_true, decide_eq_true_eq] at hok
    obtain ⟨⟨rfl, hn⟩, rfl⟩ := hok
    unfold px_go at h; cases h
    have hpc := px_nx_at hn hr'
    refine lv_sipush hx hb hdg rfl ?_
    rw [← hpc]
    exact K H locs cells slots ls rfl rfl hI hS hsz hl rfl
  · -- lconst
    rename_i n heq
    dsimp only at heq; subst heq
    simp only [px_okS, px_okN, Bool.and_eq_true, decide_eq_true_eq] at hok
    obtain ⟨⟨rfl, hn⟩, rfl⟩ := hok
    unfold px_go at h; cases h
    have hpc := px_nx_at hn hr'
    refine lv_lconst hx hb hdg rfl ?_
    rw [← hpc]
    exact K H locs cells slots ls rfl rfl hI hS hsz hl rfl
  · -- ldc
    rename_i n heq
    dsimp only at heq; subst heq
    simp only [px_okS, px_okN, Bool.and_eq_true, decide_eq_true_eq] at hok
    obtain ⟨⟨rfl, hn⟩, hv⟩ := hok
    unfold px_go at h; cases h
    have hpc := px_nx_at hn hr'
    cases v with
    | int x =>
      refine lv_ldc hx hb hown (hts _ (px_in_mem hv)) hdg ?_
      rw [← hpc]
      exact K H locs cells slots ls rfl rfl hI hS hsz hl rfl
    | _ => cases hv
  · -- ldc_w
    rename_i n heq
    dsimp only at heq; subst heq
    simp only [px_okS, px_okN, Bool.and_eq_true, decide_eq_true_eq] at hok
    obtain ⟨⟨rfl, hn⟩, hv⟩ := hok
    unfold px_go at h; cases h
    have hpc := px_nx_at hn hr'
    cases v with
    | int x =>
      refine lv_ldcw hx hb hown (hts _ (px_in_mem hv)) hdg ?_
      rw [← hpc]
      exact K H locs cells slots ls rfl rfl hI hS hsz hl rfl
    | _ => cases hv
  · -- ldc2_w
    rename_i n heq
    dsimp only at heq; subst heq
    simp only [px_okS, px_okN, Bool.and_eq_true, decide_eq_true_eq] at hok
    obtain ⟨⟨rfl, hn⟩, hv⟩ := hok
    unfold px_go at h; cases h
    have hpc := px_nx_at hn hr'
    cases v with
    | long x =>
      refine lv_ldc2 hx hb hown (hts _ (px_in_mem hv)) hdg ?_
      rw [← hpc]
      exact K H locs cells slots ls rfl rfl hI hS hsz hl rfl
    | _ => cases hv
  · -- iload_n
    rename_i j heq
    dsimp only at heq; subst heq
    simp only [px_okS, px_okN, Bool.and_eq_true, decide_eq_true_eq] at hok
    obtain ⟨rfl, hn⟩ := hok
    unfold px_ldi at h
    split at h
    · rename_i x hx0
      unfold px_go at h; cases h
      have hpc := px_nx_at hn hr'
      refine lv_iload_n hx hb hdg rfl (hl.2.2 _ _ hx0) ?_
      rw [← hpc]
      exact K H locs cells slots ls rfl rfl hI hS hsz hl rfl
    · cases h
  · -- iload
    rename_i j heq
    dsimp only at heq; subst heq
    simp only [px_okS, px_okN, Bool.and_eq_true, decide_eq_true_eq] at hok
    obtain ⟨rfl, hn⟩ := hok
    unfold px_ldi at h
    split at h
    · rename_i x hx0
      unfold px_go at h; cases h
      have hpc := px_nx_at hn hr'
      refine lv_iload hx hb hdg (hl.2.2 _ _ hx0) ?_
      rw [← hpc]
      exact K H locs cells slots ls rfl rfl hI hS hsz hl rfl
    · cases h
  · -- lload_n
    rename_i j heq
    dsimp only at heq; subst heq
    simp only [px_okS, px_okN, Bool.and_eq_true, decide_eq_true_eq] at hok
    obtain ⟨rfl, hn⟩ := hok
    unfold px_ldl at h
    split at h
    · rename_i x hx0
      unfold px_go at h; cases h
      have hpc := px_nx_at hn hr'
      refine lv_lload_n hx hb hdg rfl (hl.2.2 _ _ hx0) ?_
      rw [← hpc]
      exact K H locs cells slots ls rfl rfl hI hS hsz hl rfl
    · cases h
  · -- lload
    rename_i j heq
    dsimp only at heq; subst heq
    simp only [px_okS, px_okN, Bool.and_eq_true, decide_eq_true_eq] at hok
    obtain ⟨rfl, hn⟩ := hok
    unfold px_ldl at h
    split at h
    · rename_i x hx0
      unfold px_go at h; cases h
      have hpc := px_nx_at hn hr'
      refine lv_lload hx hb hdg (hl.2.2 _ _ hx0) ?_
      rw [← hpc]
      exact K H locs cells slots ls rfl rfl hI hS hsz hl rfl
    · cases h
  · -- aload_n
    rename_i j heq
    dsimp only at heq; subst heq
    simp only [px_okS, px_okN, Bool.and_eq_true, decide_eq_true_eq] at hok
    obtain ⟨rfl, hn⟩ := hok
    unfold px_lda at h
    split at h
    · rename_i x hx0
      unfold px_go at h; cases h
      have hpc := px_nx_at hn hr'
      refine lv_aload_n hx hb hdg rfl (hl.2.2 _ _ hx0) ?_
      rw [← hpc]
      exact K H locs cells slots ls rfl rfl hI hS hsz hl rfl
    · cases h
  · -- aload
    rename_i j heq
    dsimp only at heq; subst heq
    simp only [px_okS, px_okN, Bool.and_eq_true, decide_eq_true_eq] at hok
    obtain ⟨rfl, hn⟩ := hok
    unfold px_lda at h
    split at h
    · rename_i x hx0
      unfold px_go at h; cases h
      have hpc := px_nx_at hn hr'
      refine lv_aload hx hb hdg (hl.2.2 _ _ hx0) ?_
      rw [← hpc]
      exact K H locs cells slots ls rfl rfl hI hS hsz hl rfl
    · cases h
  · -- istore_n
    rename_i j heq
    dsimp only at heq; subst heq
    simp only [px_okS, px_okN, Bool.and_eq_true, decide_eq_true_eq] at hok
    obtain ⟨rfl, hn⟩ := hok
    unfold px_sti at h
    split at h
    · rename_i x S0
      split at h
      · rename_i hj
        unfold px_go at h; cases h
        have hpc := px_nx_at hn hr'
        refine lv_istore_n hx hb hdg rfl (px_hl_has hl) hj.2 rfl (fun ls' h' => ?_)
        rw [← hpc]
        exact K H locs cells slots ls' rfl rfl hI hS hsz (px_hl_set (v := .int x) hj.2 hj.1 h') (by simp)
      · cases h
    · cases h
  · -- istore
    rename_i j heq
    dsimp only at heq; subst heq
    simp only [px_okS, px_okN, Bool.and_eq_true, decide_eq_true_eq] at hok
    obtain ⟨rfl, hn⟩ := hok
    unfold px_sti at h
    split at h
    · rename_i x S0
      split at h
      · rename_i hj
        unfold px_go at h; cases h
        have hpc := px_nx_at hn hr'
        refine lv_istore hx hb hdg (px_hl_has hl) hj.2 rfl (fun ls' h' => ?_)
        rw [← hpc]
        exact K H locs cells slots ls' rfl rfl hI hS hsz (px_hl_set (v := .int x) hj.2 hj.1 h') (by simp)
      · cases h
    · cases h
  · -- astore_n
    rename_i j heq
    dsimp only at heq; subst heq
    simp only [px_okS, px_okN, Bool.and_eq_true, decide_eq_true_eq] at hok
    obtain ⟨rfl, hn⟩ := hok
    unfold px_sta at h
    split at h
    · rename_i x S0
      split at h
      · rename_i hj
        unfold px_go at h; cases h
        have hpc := px_nx_at hn hr'
        refine lv_astore_n hx hb hdg rfl (px_hl_has hl) hj.2 rfl (fun ls' h' => ?_)
        rw [← hpc]
        exact K H locs cells slots ls' rfl rfl hI hS hsz (px_hl_set (v := .ref x) hj.2 hj.1 h') (by simp)
      · cases h
    · cases h
  · -- astore
    rename_i j heq
    dsimp only at heq; subst heq
    simp only [px_okS, px_okN, Bool.and_eq_true, decide_eq_true_eq] at hok
    obtain ⟨rfl, hn⟩ := hok
    unfold px_sta at h
    split at h
    · rename_i x S0
      split at h
      · rename_i hj
        unfold px_go at h; cases h
        have hpc := px_nx_at hn hr'
        refine lv_astore hx hb hdg (px_hl_has hl) hj.2 rfl (fun ls' h' => ?_)
        rw [← hpc]
        exact K H locs cells slots ls' rfl rfl hI hS hsz (px_hl_set (v := .ref x) hj.2 hj.1 h') (by simp)
      · cases h
    · cases h
  · -- iinc
    rename_i j n heq
    dsimp only at heq; subst heq
    simp only [px_okS, px_okN, Bool.and_eq_true, decide_eq_true_eq] at hok
    obtain ⟨⟨rfl, hn⟩, rfl⟩ := hok
    unfold px_inc at h
    split at h
    · rename_i n' x hvn hx0
      cases hvn
      split at h
      · rename_i hj
        unfold px_go at h; cases h
        have hpc := px_nx_at hn hr'
        obtain ⟨kk, hkk⟩ := px_ps_at (b := b) (base := base) hx0
        refine lv_iinc (k := kk) hx hb hdg (px_hl_has hl) hkk rfl hj.2 rfl (fun ls' h' => ?_)
        rw [← hpc]
        exact K H locs cells slots ls' rfl rfl hI hS hsz (px_hl_set (v := .int _) hj.2 hj.1 h') (by simp)
      · cases h
    · cases h
  · -- iadd
    rename_i heq
    dsimp only at heq; subst heq
    simp only [px_okS, px_okN, Bool.and_eq_true, decide_eq_true_eq] at hok
    obtain ⟨rfl, hn⟩ := hok
    unfold px_i2 at h
    split at h
    · unfold px_go at h; cases h
      have hpc := px_nx_at hn hr'
      refine lv_iadd hx hb hdg ?_
      rw [← hpc]
      exact K H locs cells slots ls rfl rfl hI hS hsz hl rfl
    · cases h
  · -- isub
    rename_i heq
    dsimp only at heq; subst heq
    simp only [px_okS, px_okN, Bool.and_eq_true, decide_eq_true_eq] at hok
    obtain ⟨rfl, hn⟩ := hok
    unfold px_i2 at h
    split at h
    · unfold px_go at h; cases h
      have hpc := px_nx_at hn hr'
      refine lv_isub hx hb hdg ?_
      rw [← hpc]
      exact K H locs cells slots ls rfl rfl hI hS hsz hl rfl
    · cases h
  · -- imul
    rename_i heq
    dsimp only at heq; subst heq
    simp only [px_okS, px_okN, Bool.and_eq_true, decide_eq_true_eq] at hok
    obtain ⟨rfl, hn⟩ := hok
    unfold px_i2 at h
    split at h
    · unfold px_go at h; cases h
      have hpc := px_nx_at hn hr'
      refine lv_imul hx hb hdg ?_
      rw [← hpc]
      exact K H locs cells slots ls rfl rfl hI hS hsz hl rfl
    · cases h
  · -- iand
    rename_i heq
    dsimp only at heq; subst heq
    simp only [px_okS, px_okN, Bool.and_eq_true, decide_eq_true_eq] at hok
    obtain ⟨rfl, hn⟩ := hok
    unfold px_i2 at h
    split at h
    · unfold px_go at h; cases h
      have hpc := px_nx_at hn hr'
      refine lv_iand hx hb hdg ?_
      rw [← hpc]
      exact K H locs cells slots ls rfl rfl hI hS hsz hl rfl
    · cases h
  · -- ior
    rename_i heq
    dsimp only at heq; subst heq
    simp only [px_okS, px_okN, Bool.and_eq_true, decide_eq_true_eq] at hok
    obtain ⟨rfl, hn⟩ := hok
    unfold px_i2 at h
    split at h
    · unfold px_go at h; cases h
      have hpc := px_nx_at hn hr'
      refine lv_ior hx hb hdg ?_
      rw [← hpc]
      exact K H locs cells slots ls rfl rfl hI hS hsz hl rfl
    · cases h
  · -- ixor
    rename_i heq
    dsimp only at heq; subst heq
    simp only [px_okS, px_okN, Bool.and_eq_true, decide_eq_true_eq] at hok
    obtain ⟨rfl, hn⟩ := hok
    unfold px_i2 at h
    split at h
    · unfold px_go at h; cases h
      have hpc := px_nx_at hn hr'
      refine lv_ixor hx hb hdg ?_
      rw [← hpc]
      exact K H locs cells slots ls rfl rfl hI hS hsz hl rfl
    · cases h
  · -- ishl
    rename_i heq
    dsimp only at heq; subst heq
    simp only [px_okS, px_okN, Bool.and_eq_true, decide_eq_true_eq] at hok
    obtain ⟨rfl, hn⟩ := hok
    unfold px_i2 at h
    split at h
    · unfold px_go at h; cases h
      have hpc := px_nx_at hn hr'
      refine lv_ishl hx hb hdg ?_
      rw [← hpc]
      exact K H locs cells slots ls rfl rfl hI hS hsz hl rfl
    · cases h
  · -- ishr
    rename_i heq
    dsimp only at heq; subst heq
    simp only [px_okS, px_okN, Bool.and_eq_true, decide_eq_true_eq] at hok
    obtain ⟨rfl, hn⟩ := hok
    unfold px_i2 at h
    split at h
    · unfold px_go at h; cases h
      have hpc := px_nx_at hn hr'
      refine lv_ishr hx hb hdg ?_
      rw [← hpc]
      exact K H locs cells slots ls rfl rfl hI hS hsz hl rfl
    · cases h
  · -- iushr
    rename_i heq
    dsimp only at heq; subst heq
    simp only [px_okS, px_okN, Bool.and_eq_true, decide_eq_true_eq] at hok
    obtain ⟨rfl, hn⟩ := hok
    unfold px_i2 at h
    split at h
    · unfold px_go at h; cases h
      have hpc := px_nx_at hn hr'
      refine lv_iushr hx hb hdg rfl ?_
      rw [← hpc]
      exact K H locs cells slots ls rfl rfl hI hS hsz hl rfl
    · cases h
  · -- idiv
    rename_i heq
    dsimp only at heq; subst heq
    simp only [px_okS, px_okN, Bool.and_eq_true, decide_eq_true_eq] at hok
    obtain ⟨rfl, hn⟩ := hok
    unfold px_dv at h
    split at h
    · cases h
      have hpc := px_nx_at hn hr'
      refine lv_idiv hx hb hdg hq ?_
      rw [← hpc]
      exact K H locs cells slots ls rfl rfl hI hS hsz hl rfl
    · cases h
  · -- irem
    rename_i heq
    dsimp only at heq; subst heq
    simp only [px_okS, px_okN, Bool.and_eq_true, decide_eq_true_eq] at hok
    obtain ⟨rfl, hn⟩ := hok
    unfold px_dv at h
    split at h
    · cases h
      have hpc := px_nx_at hn hr'
      refine lv_irem hx hb hdg hq ?_
      rw [← hpc]
      exact K H locs cells slots ls rfl rfl hI hS hsz hl rfl
    · cases h
  · -- ladd
    rename_i heq
    dsimp only at heq; subst heq
    simp only [px_okS, px_okN, Bool.and_eq_true, decide_eq_true_eq] at hok
    obtain ⟨rfl, hn⟩ := hok
    unfold px_l2 at h
    split at h
    · unfold px_go at h; cases h
      have hpc := px_nx_at hn hr'
      refine lv_ladd hx hb hdg ?_
      rw [← hpc]
      exact K H locs cells slots ls rfl rfl hI hS hsz hl rfl
    · cases h
  · -- land
    rename_i heq
    dsimp only at heq; subst heq
    simp only [px_okS, px_okN, Bool.and_eq_true, decide_eq_true_eq] at hok
    obtain ⟨rfl, hn⟩ := hok
    unfold px_l2 at h
    split at h
    · unfold px_go at h; cases h
      have hpc := px_nx_at hn hr'
      refine lv_land hx hb hdg ?_
      rw [← hpc]
      exact K H locs cells slots ls rfl rfl hI hS hsz hl rfl
    · cases h
  · -- lor
    rename_i heq
    dsimp only at heq; subst heq
    simp only [px_okS, px_okN, Bool.and_eq_true, decide_eq_true_eq] at hok
    obtain ⟨rfl, hn⟩ := hok
    unfold px_l2 at h
    split at h
    · unfold px_go at h; cases h
      have hpc := px_nx_at hn hr'
      refine lv_lor hx hb hdg ?_
      rw [← hpc]
      exact K H locs cells slots ls rfl rfl hI hS hsz hl rfl
    · cases h
  · -- lshl
    rename_i heq
    dsimp only at heq; subst heq
    simp only [px_okS, px_okN, Bool.and_eq_true, decide_eq_true_eq] at hok
    obtain ⟨rfl, hn⟩ := hok
    unfold px_lh at h
    split at h
    · unfold px_go at h; cases h
      have hpc := px_nx_at hn hr'
      refine lv_lshl hx hb hdg rfl ?_
      rw [← hpc]
      exact K H locs cells slots ls rfl rfl hI hS hsz hl rfl
    · cases h
  · -- lshr
    rename_i heq
    dsimp only at heq; subst heq
    simp only [px_okS, px_okN, Bool.and_eq_true, decide_eq_true_eq] at hok
    obtain ⟨rfl, hn⟩ := hok
    unfold px_lh at h
    split at h
    · unfold px_go at h; cases h
      have hpc := px_nx_at hn hr'
      refine lv_lshr hx hb hdg rfl ?_
      rw [← hpc]
      exact K H locs cells slots ls rfl rfl hI hS hsz hl rfl
    · cases h
  · -- lushr
    rename_i heq
    dsimp only at heq; subst heq
    simp only [px_okS, px_okN, Bool.and_eq_true, decide_eq_true_eq] at hok
    obtain ⟨rfl, hn⟩ := hok
    unfold px_lh at h
    split at h
    · unfold px_go at h; cases h
      have hpc := px_nx_at hn hr'
      refine lv_lushr hx hb hdg rfl ?_
      rw [← hpc]
      exact K H locs cells slots ls rfl rfl hI hS hsz hl rfl
    · cases h
  · -- i2l
    rename_i heq
    dsimp only at heq; subst heq
    simp only [px_okS, px_okN, Bool.and_eq_true, decide_eq_true_eq] at hok
    obtain ⟨rfl, hn⟩ := hok
    unfold px_il at h
    split at h
    · unfold px_go at h; cases h
      have hpc := px_nx_at hn hr'
      refine lv_i2l hx hb hdg rfl ?_
      rw [← hpc]
      exact K H locs cells slots ls rfl rfl hI hS hsz hl rfl
    · cases h
  · -- lcmp
    rename_i heq
    dsimp only at heq; subst heq
    simp only [px_okS, px_okN, Bool.and_eq_true, decide_eq_true_eq] at hok
    obtain ⟨rfl, hn⟩ := hok
    unfold px_lc at h
    split at h
    · unfold px_go at h; cases h
      have hpc := px_nx_at hn hr'
      refine W.lcmp hx hb hdg ?_
      rw [← hpc]
      exact K H locs cells slots ls rfl rfl hI hS hsz hl rfl
    · cases h
  · -- dup
    rename_i heq
    dsimp only at heq; subst heq
    simp only [px_okS, px_okN, Bool.and_eq_true, decide_eq_true_eq] at hok
    obtain ⟨rfl, hn⟩ := hok
    unfold px_du at h
    split at h
    · split at h
      · rename_i hv1
        unfold px_go at h; cases h
        have hpc := px_nx_at hn hr'
        refine lv_dup hx hb hdg (by rw [px_cat]; exact hv1) ?_
        rw [← hpc]
        exact K H locs cells slots ls rfl rfl hI hS hsz hl rfl
      · cases h
    · cases h
  · -- dup2
    rename_i heq
    dsimp only at heq; subst heq
    simp only [px_okS, px_okN, Bool.and_eq_true, decide_eq_true_eq] at hok
    obtain ⟨rfl, hn⟩ := hok
    unfold px_d2 at h
    split at h
    · split at h
      · rename_i hv1
        unfold px_go at h; cases h
        have hpc := px_nx_at hn hr'
        refine lv_dup2_11 hx hb hdg (by rw [px_cat]; exact hv1.1) (by rw [px_cat]; exact hv1.2) ?_
        rw [← hpc]
        exact K H locs cells slots ls rfl rfl hI hS hsz hl rfl
      · cases h
    · cases h
  · -- pop
    rename_i heq
    dsimp only at heq; subst heq
    simp only [px_okS, px_okN, Bool.and_eq_true, decide_eq_true_eq] at hok
    obtain ⟨rfl, hn⟩ := hok
    unfold px_po at h
    split at h
    · split at h
      · rename_i hv1
        unfold px_go at h; cases h
        have hpc := px_nx_at hn hr'
        refine lv_pop hx hb hdg (by rw [px_cat]; exact hv1) ?_
        rw [← hpc]
        exact K H locs cells slots ls rfl rfl hI hS hsz hl rfl
      · cases h
    · cases h
  · -- goto
    rename_i off heq
    dsimp only at heq; subst heq
    simp only [px_okS, Bool.and_eq_true, decide_eq_true_eq] at hok
    obtain ⟨rfl, hn⟩ := hok
    unfold px_go at h; cases h
    refine lv_goto hx hb hdg (px_jp_at hn hr') ?_
    exact K H locs cells slots ls rfl rfl hI hS hsz hl rfl
  · -- lv_if_eq
    rename_i off heq
    dsimp only at heq; subst heq
    simp only [px_okS, px_okN, Bool.and_eq_true, decide_eq_true_eq] at hok
    obtain ⟨⟨rfl, hn⟩, hj⟩ := hok
    unfold px_b1 at h
    split at h
    · unfold px_go at h; cases h
      obtain ⟨rg, hrg, htg⟩ := px_jp_ex hj
      refine lv_if_eq (tgt := rg.1) hx hb hdg htg (fun hc => ?_) (fun hc => ?_)
      · rw [if_pos hc] at hr'
        have h9 : rg = r' := Option.some.inj (hrg.symm.trans hr')
        rw [h9]
        exact K H locs cells slots ls rfl rfl hI hS hsz hl rfl
      · rw [if_neg hc] at hr'
        have hpc := px_nx_at hn hr'
        rw [← hpc]
        exact K H locs cells slots ls rfl rfl hI hS hsz hl rfl
    · cases h
  · -- lv_if_ne
    rename_i off heq
    dsimp only at heq; subst heq
    simp only [px_okS, px_okN, Bool.and_eq_true, decide_eq_true_eq] at hok
    obtain ⟨⟨rfl, hn⟩, hj⟩ := hok
    unfold px_b1 at h
    split at h
    · unfold px_go at h; cases h
      obtain ⟨rg, hrg, htg⟩ := px_jp_ex hj
      refine lv_if_ne (tgt := rg.1) hx hb hdg htg (fun hc => ?_) (fun hc => ?_)
      · rw [if_pos hc] at hr'
        have h9 : rg = r' := Option.some.inj (hrg.symm.trans hr')
        rw [h9]
        exact K H locs cells slots ls rfl rfl hI hS hsz hl rfl
      · rw [if_neg (fun h9 => h9 hc)] at hr'
        have hpc := px_nx_at hn hr'
        rw [← hpc]
        exact K H locs cells slots ls rfl rfl hI hS hsz hl rfl
    · cases h
  · -- lv_if_lt
    rename_i off heq
    dsimp only at heq; subst heq
    simp only [px_okS, px_okN, Bool.and_eq_true, decide_eq_true_eq] at hok
    obtain ⟨⟨rfl, hn⟩, hj⟩ := hok
    unfold px_b1 at h
    split at h
    · unfold px_go at h; cases h
      obtain ⟨rg, hrg, htg⟩ := px_jp_ex hj
      refine lv_if_lt (tgt := rg.1) hx hb hdg htg (fun hc => ?_) (fun hc => ?_)
      · rw [if_pos hc] at hr'
        have h9 : rg = r' := Option.some.inj (hrg.symm.trans hr')
        rw [h9]
        exact K H locs cells slots ls rfl rfl hI hS hsz hl rfl
      · rw [if_neg hc] at hr'
        have hpc := px_nx_at hn hr'
        rw [← hpc]
        exact K H locs cells slots ls rfl rfl hI hS hsz hl rfl
    · cases h
  · -- lv_if_ge
    rename_i off heq
    dsimp only at heq; subst heq
    simp only [px_okS, px_okN, Bool.and_eq_true, decide_eq_true_eq] at hok
    obtain ⟨⟨rfl, hn⟩, hj⟩ := hok
    unfold px_b1 at h
    split at h
    · unfold px_go at h; cases h
      obtain ⟨rg, hrg, htg⟩ := px_jp_ex hj
      refine lv_if_ge (tgt := rg.1) hx hb hdg htg (fun hc => ?_) (fun hc => ?_)
      · rw [if_pos hc] at hr'
        have h9 : rg = r' := Option.some.inj (hrg.symm.trans hr')
        rw [h9]
        exact K H locs cells slots ls rfl rfl hI hS hsz hl rfl
      · rw [if_neg hc] at hr'
        have hpc := px_nx_at hn hr'
        rw [← hpc]
        exact K H locs cells slots ls rfl rfl hI hS hsz hl rfl
    · cases h
  · -- lv_if_gt
    rename_i off heq
    dsimp only at heq; subst heq
    simp only [px_okS, px_okN, Bool.and_eq_true, decide_eq_true_eq] at hok
    obtain ⟨⟨rfl, hn⟩, hj⟩ := hok
    unfold px_b1 at h
    split at h
    · unfold px_go at h; cases h
      obtain ⟨rg, hrg, htg⟩ := px_jp_ex hj
      refine lv_if_gt (tgt := rg.1) hx hb hdg htg (fun hc => ?_) (fun hc => ?_)
      · rw [if_pos hc] at hr'
        have h9 : rg = r' := Option.some.inj (hrg.symm.trans hr')
        rw [h9]
        exact K H locs cells slots ls rfl rfl hI hS hsz hl rfl
      · rw [if_neg hc] at hr'
        have hpc := px_nx_at hn hr'
        rw [← hpc]
        exact K H locs cells slots ls rfl rfl hI hS hsz hl rfl
    · cases h
  · -- lv_if_le
    rename_i off heq
    dsimp only at heq; subst heq
    simp only [px_okS, px_okN, Bool.and_eq_true, decide_eq_true_eq] at hok
    obtain ⟨⟨rfl, hn⟩, hj⟩ := hok
    unfold px_b1 at h
    split at h
    · unfold px_go at h; cases h
      obtain ⟨rg, hrg, htg⟩ := px_jp_ex hj
      refine lv_if_le (tgt := rg.1) hx hb hdg htg (fun hc => ?_) (fun hc => ?_)
      · rw [if_pos hc] at hr'
        have h9 : rg = r' := Option.some.inj (hrg.symm.trans hr')
        rw [h9]
        exact K H locs cells slots ls rfl rfl hI hS hsz hl rfl
      · rw [if_neg hc] at hr'
        have hpc := px_nx_at hn hr'
        rw [← hpc]
        exact K H locs cells slots ls rfl rfl hI hS hsz hl rfl
    · cases h
  · -- lv_icmp_eq
    rename_i off heq
    dsimp only at heq; subst heq
    simp only [px_okS, px_okN, Bool.and_eq_true, decide_eq_true_eq] at hok
    obtain ⟨⟨rfl, hn⟩, hj⟩ := hok
    unfold px_b2 at h
    split at h
    · unfold px_go at h; cases h
      obtain ⟨rg, hrg, htg⟩ := px_jp_ex hj
      refine lv_icmp_eq (tgt := rg.1) hx hb hdg htg (fun hc => ?_) (fun hc => ?_)
      · rw [if_pos hc] at hr'
        have h9 : rg = r' := Option.some.inj (hrg.symm.trans hr')
        rw [h9]
        exact K H locs cells slots ls rfl rfl hI hS hsz hl rfl
      · rw [if_neg hc] at hr'
        have hpc := px_nx_at hn hr'
        rw [← hpc]
        exact K H locs cells slots ls rfl rfl hI hS hsz hl rfl
    · cases h
  · -- lv_icmp_ne
    rename_i off heq
    dsimp only at heq; subst heq
    simp only [px_okS, px_okN, Bool.and_eq_true, decide_eq_true_eq] at hok
    obtain ⟨⟨rfl, hn⟩, hj⟩ := hok
    unfold px_b2 at h
    split at h
    · unfold px_go at h; cases h
      obtain ⟨rg, hrg, htg⟩ := px_jp_ex hj
      refine lv_icmp_ne (tgt := rg.1) hx hb hdg htg (fun hc => ?_) (fun hc => ?_)
      · rw [if_pos hc] at hr'
        have h9 : rg = r' := Option.some.inj (hrg.symm.trans hr')
        rw [h9]
        exact K H locs cells slots ls rfl rfl hI hS hsz hl rfl
      · rw [if_neg (fun h9 => h9 hc)] at hr'
        have hpc := px_nx_at hn hr'
        rw [← hpc]
        exact K H locs cells slots ls rfl rfl hI hS hsz hl rfl
    · cases h
  · -- lv_icmp_lt
    rename_i off heq
    dsimp only at heq; subst heq
    simp only [px_okS, px_okN, Bool.and_eq_true, decide_eq_true_eq] at hok
    obtain ⟨⟨rfl, hn⟩, hj⟩ := hok
    unfold px_b2 at h
    split at h
    · unfold px_go at h; cases h
      obtain ⟨rg, hrg, htg⟩ := px_jp_ex hj
      refine lv_icmp_lt (tgt := rg.1) hx hb hdg htg (fun hc => ?_) (fun hc => ?_)
      · rw [if_pos hc] at hr'
        have h9 : rg = r' := Option.some.inj (hrg.symm.trans hr')
        rw [h9]
        exact K H locs cells slots ls rfl rfl hI hS hsz hl rfl
      · rw [if_neg hc] at hr'
        have hpc := px_nx_at hn hr'
        rw [← hpc]
        exact K H locs cells slots ls rfl rfl hI hS hsz hl rfl
    · cases h
  · -- lv_icmp_ge
    rename_i off heq
    dsimp only at heq; subst heq
    simp only [px_okS, px_okN, Bool.and_eq_true, decide_eq_true_eq] at hok
    obtain ⟨⟨rfl, hn⟩, hj⟩ := hok
    unfold px_b2 at h
    split at h
    · unfold px_go at h; cases h
      obtain ⟨rg, hrg, htg⟩ := px_jp_ex hj
      refine lv_icmp_ge (tgt := rg.1) hx hb hdg htg (fun hc => ?_) (fun hc => ?_)
      · rw [if_pos hc] at hr'
        have h9 : rg = r' := Option.some.inj (hrg.symm.trans hr')
        rw [h9]
        exact K H locs cells slots ls rfl rfl hI hS hsz hl rfl
      · rw [if_neg hc] at hr'
        have hpc := px_nx_at hn hr'
        rw [← hpc]
        exact K H locs cells slots ls rfl rfl hI hS hsz hl rfl
    · cases h
  · -- lv_icmp_gt
    rename_i off heq
    dsimp only at heq; subst heq
    simp only [px_okS, px_okN, Bool.and_eq_true, decide_eq_true_eq] at hok
    obtain ⟨⟨rfl, hn⟩, hj⟩ := hok
    unfold px_b2 at h
    split at h
    · unfold px_go at h; cases h
      obtain ⟨rg, hrg, htg⟩ := px_jp_ex hj
      refine lv_icmp_gt (tgt := rg.1) hx hb hdg htg (fun hc => ?_) (fun hc => ?_)
      · rw [if_pos hc] at hr'
        have h9 : rg = r' := Option.some.inj (hrg.symm.trans hr')
        rw [h9]
        exact K H locs cells slots ls rfl rfl hI hS hsz hl rfl
      · rw [if_neg hc] at hr'
        have hpc := px_nx_at hn hr'
        rw [← hpc]
        exact K H locs cells slots ls rfl rfl hI hS hsz hl rfl
    · cases h
  · -- lv_icmp_le
    rename_i off heq
    dsimp only at heq; subst heq
    simp only [px_okS, px_okN, Bool.and_eq_true, decide_eq_true_eq] at hok
    obtain ⟨⟨rfl, hn⟩, hj⟩ := hok
    unfold px_b2 at h
    split at h
    · unfold px_go at h; cases h
      obtain ⟨rg, hrg, htg⟩ := px_jp_ex hj
      refine lv_icmp_le (tgt := rg.1) hx hb hdg htg (fun hc => ?_) (fun hc => ?_)
      · rw [if_pos hc] at hr'
        have h9 : rg = r' := Option.some.inj (hrg.symm.trans hr')
        rw [h9]
        exact K H locs cells slots ls rfl rfl hI hS hsz hl rfl
      · rw [if_neg hc] at hr'
        have hpc := px_nx_at hn hr'
        rw [← hpc]
        exact K H locs cells slots ls rfl rfl hI hS hsz hl rfl
    · cases h
  · -- tableswitch
    rename_i dflt lo hi offs heq
    dsimp only at heq; subst heq
    simp only [px_okS, Bool.and_eq_true, decide_eq_true_eq, List.all_eq_true] at hok
    obtain ⟨⟨hlen, hhi⟩, hall⟩ := hok
    unfold px_tb at h
    split at h
    · rename_i x S0
      unfold px_go at h; cases h
      have hget : ∀ (k : Nat) (o : Int), (dflt :: offs.toList)[k]? = some o → ∃ rg : px_R, M.cd[nums.getD k 0]? = some rg ∧ (pc : Int) + o = (rg.1 : Int) := by
        intro k o ho
        have hk : k < nums.length := by
          have := (List.getElem?_eq_some_iff.mp ho).1
          simp at this
          omega
        refine px_jp_ex (hall (nums.getD k 0, o) ?_)
        refine List.mem_of_getElem? (i := k) ?_
        rw [List.getElem?_zip_eq_some]
        refine ⟨?_, ho⟩
        rw [List.getD_eq_getElem?_getD, List.getElem?_eq_getElem hk]
        rfl
      by_cases hc : x.toInt < lo ∨ hi < x.toInt
      · rw [if_pos hc] at hr'
        obtain ⟨rg, h1, h2⟩ := hget 0 dflt rfl
        have h9 : rg = r' := Option.some.inj (h1.symm.trans hr')
        refine lv_tableOut (tgt := rg.1) hx hb hdg hc h2 ?_
        rw [h9]
        exact K H locs cells slots ls rfl rfl hI hS hsz hl rfl
      · rw [if_neg hc] at hr'
        have hc1 : ¬ x.toInt < lo := fun z => hc (Or.inl z)
        have hc2 : ¬ hi < x.toInt := fun z => hc (Or.inr z)
        have hlt : (x.toInt - lo).toNat < offs.size := by omega
        have ho : offs[(x.toInt - lo).toNat]? = some offs[(x.toInt - lo).toNat] := Array.getElem?_eq_getElem hlt
        obtain ⟨rg, h1, h2⟩ := hget ((x.toInt - lo).toNat + 1) offs[(x.toInt - lo).toNat] (by rw [List.getElem?_cons_succ, Array.getElem?_toList]; exact ho)
        have h9 : rg = r' := Option.some.inj (h1.symm.trans hr')
        refine lv_tableIn (tgt := rg.1) hx hb hdg hc1 hc2 ho h2 ?_
        rw [h9]
        exact K H locs cells slots ls rfl rfl hI hS hsz hl rfl
    · cases h
  · -- lookupswitch
    rename_i dflt ps heq
    dsimp only at heq; subst heq
    simp only [px_okS, Bool.and_eq_true, decide_eq_true_eq] at hok
    obtain ⟨⟨hlen, hsrt⟩, hall⟩ := hok
    unfold px_lk at h
    split at h
    · rename_i x S0
      unfold px_go at h; cases h
      obtain ⟨rg, h1, h2⟩ := px_lk_at (M := M) (pc := pc) (x := x.toInt) hlen hall
      have h9 : rg = r' := Option.some.inj (h1.symm.trans hr')
      refine lv_lookup (tgt := rg.1) hx hb hdg hsrt rfl h2 ?_
      rw [h9]
      exact K H locs cells slots ls rfl rfl hI hS hsz hl rfl
    · cases h
  · -- getfield
    rename_i idx heq
    dsimp only at heq; subst heq
    simp only [px_okS, px_okN, Bool.and_eq_true, decide_eq_true_eq] at hok
    obtain ⟨⟨rfl, hn⟩, hf⟩ := hok
    unfold px_gf at h
    split at h
    · rename_i a S0
      split at h
      · rename_i cc fs hwa
        split at h
        · rename_i hcc
          split at h
          · rename_i u hu
            unfold px_go at h; cases h
            have hpc := px_nx_at hn hr'
            unfold px_okF at hf
            split at hf
            · rename_i C T N hcl
              simp only [Bool.and_eq_true, decide_eq_true_eq] at hf
              obtain ⟨hkN, hin⟩ := hf
              obtain ⟨hC1, hC2, hC3, hC4⟩ := hC _ C T N hcl
              cases a with
              | zero => rw [hw0] at hwa; cases hwa
              | succ a =>
                have he : (px_cw cA b base w)[a]? = some (base + a, .inr (cc, fs.map (px_cv b base))) := px_cw_at hwa
                rw [hcc] at he
                refine va_get (D := D) (C := C) (T := T) (N := N) hx hb hts hC1 hown hK hP a he hcl _ hkN (hts _ (px_in_mem hin)) (fun _ h9 => h9) (v := px_cv b base u) (by rw [List.getElem?_map, hu]; rfl) hdg ?_
                rw [← hpc]
                exact K H locs cells slots ls rfl rfl hI hS hsz hl rfl
            · cases hf
          · cases h
        · cases h
      · cases h
    · cases h
  · -- putfield
    rename_i idx heq
    dsimp only at heq; subst heq
    simp only [px_okS, px_okN, Bool.and_eq_true, decide_eq_true_eq] at hok
    obtain ⟨⟨⟨rfl, hn⟩, hf⟩, hw⟩ := hok
    unfold px_pf at h
    split at h
    · rename_i u a S0
      split at h
      · rename_i a cc fs hwa
        split at h
        · rename_i hcc
          obtain ⟨hcc, hkl⟩ := hcc
          cases h
          have hpc := px_nx_at hn hr'
          unfold px_okF at hf
          split at hf
          · rename_i C T N hcl
            simp only [Bool.and_eq_true, decide_eq_true_eq] at hf
            obtain ⟨hkN, hin⟩ := hf
            obtain ⟨hC1, hC2, hC3, hC4⟩ := hC _ C T N hcl
            unfold px_okW at hw
            rw [hcl] at hw
            simp only [Bool.or_eq_true, Bool.and_eq_true, decide_eq_true_eq] at hw
            have he : (px_cw cA b base w)[a]? = some (base + a, .inr (cc, fs.map (px_cv b base))) := px_cw_at hwa
            rw [hcc] at he
            have hfit := px_fit_ok (b := b) (base := base) hq
            have fin : ∀ (H1 : Heap) (locs1 : List Loc), va_P D cl ((px_cw cA b base w).set a (base + a, .inr (px_nm (pc, Instr.putfield idx, 3, nums, v) 0, (fs.map (px_cv b base)).set (px_nm (pc, Instr.putfield idx, 3, nums, v) 1) (px_cv b base u)))) H1 → va_S (fun q => base ≤ q) H H1 locs1 → W p l e R s m args below meth c H1 locs1 cells slots Q (F0 m (pc + 3) ls (S'.map (px_cv b base))) := by
              intro H1 locs1 hP1 hS1
              rw [← hpc]
              refine K H1 locs1 cells slots ls (by simp) (by rw [px_tot_set hwa (by simp [px_sz])]) ⟨hK, ?_, n0, xs, ?_, px_X_kept hX hbA hS1, hbb⟩ (px_S_tr hS hS1) (by simp; exact Nat.le_trans hsz hS1.1) hl rfl
              · rw [px_cw_set hwa]
                have e1 : px_ce cA b base (.inr (cc, fs.set (px_nm (pc, Instr.putfield idx, 3, nums, v) 1) u)) = .inr (px_nm (pc, Instr.putfield idx, 3, nums, v) 0, (fs.map (px_cv b base)).set (px_nm (pc, Instr.putfield idx, 3, nums, v) 1) (px_cv b base u)) := by
                  rw [← hcc]; simp [px_ce, List.map_set]
                rw [e1]
                exact hP1
              · rw [List.getElem?_set_ne (by omega)]; exact hw0
            rcases hw with hw | ⟨⟨hw1, hw2⟩, hw3⟩
            · exact va_put (D := D) (C := C) (T := T) (N := N) hx hb hts hC1 (E.2 _) hC2 hC3 hown hK hP hD (px_S_here hS) a he hcl _ hkN (hts _ (px_in_mem hin)) (fun _ h9 => h9) hw (hC2 _ hkN) hfit.1 hfit.2 (by simpa using hkl) hdg (fun H1 locs1 hP1 _ hS1 => fin H1 locs1 hP1 hS1)
            · exact va_putF (D := D) (C := C) (T := T) (N := N) hx hb hts hC1 (E.2 _) hC2 hC3 hown hK hP hD (px_S_here hS) a he hcl _ hkN (hts _ (px_in_mem hin)) (fun _ h9 => h9) hw1 (hnm.trans hw2) hw3 (hC2 _ hkN) hfit.1 hfit.2 (by simpa using hkl) hdg (fun H1 locs1 hP1 _ hS1 => fin H1 locs1 hP1 hS1)
          · cases hf
        · cases h
      · cases h
    · cases h
  · -- iaload
    rename_i heq
    dsimp only at heq; subst heq
    simp only [px_okS, px_okN, Bool.and_eq_true, decide_eq_true_eq] at hok
    obtain ⟨rfl, hn⟩ := hok
    unfold px_al at h
    split at h
    · rename_i j a S0
      split at h
      · rename_i t n f hwa
        split at h
        · rename_i ht
          subst ht
          cases h
          have hpc := px_nx_at hn hr'
          cases a with
          | zero =>
            rw [hw0] at hwa
            cases hwa
            refine va_sld hx hb hX (show b < H.size from (Array.getElem?_eq_some_iff.mp hX.choose_spec.1).1) hbA (px_S_here hS) hq hdg ?_
            rw [← hpc]
            exact K H locs cells slots ls rfl rfl hI hS hsz hl rfl
          | succ a =>
            refine va_iald hx hb hK hP a 0 (px_cw_at hwa) rfl hq hdg ?_
            rw [← hpc]
            exact K H locs cells slots ls rfl rfl hI hS hsz hl rfl
        · cases h
      · cases h
    · cases h
  · -- baload
    rename_i heq
    dsimp only at heq; subst heq
    simp only [px_okS, px_okN, Bool.and_eq_true, decide_eq_true_eq] at hok
    obtain ⟨rfl, hn⟩ := hok
    unfold px_al at h
    split at h
    · rename_i j a S0
      split at h
      · rename_i t n f hwa
        split at h
        · rename_i ht
          subst ht
          cases h
          have hpc := px_nx_at hn hr'
          cases a with
          | zero =>
            rw [hw0] at hwa
            cases hwa
          | succ a =>
            refine va_zald hx hb hK hP a 1 (px_cw_at hwa) rfl hq hdg ?_
            rw [← hpc]
            exact K H locs cells slots ls rfl rfl hI hS hsz hl rfl
        · cases h
      · cases h
    · cases h
  · -- iastore
    rename_i heq
    dsimp only at heq; subst heq
    simp only [px_okS, px_okN, Bool.and_eq_true, decide_eq_true_eq] at hok
    obtain ⟨rfl, hn⟩ := hok
    unfold px_as at h
    split at h
    · rename_i x j a S0
      split at h
      · rename_i a t n f hwa
        split at h
        · rename_i ht
          subst ht
          cases h
          have hpc := px_nx_at hn hr'
          refine va_iast hx hb hK hP hD (px_S_here hS) a 0 (px_cw_at hwa) rfl hq hdg (fun H1 locs1 hP1 _ hS1 => ?_)
          rw [← hpc]
          refine K H1 locs1 cells slots ls (by simp) (by rw [px_tot_set hwa (by simp [px_sz])]) ⟨hK, ?_, n0, xs, ?_, px_X_kept hX hbA hS1, hbb⟩ (px_S_tr hS hS1) (by simp; exact Nat.le_trans hsz hS1.1) hl rfl
          · rw [px_cw_set hwa]; exact hP1
          · rw [List.getElem?_set_ne (by omega)]; exact hw0
        · cases h
      · cases h
    · cases h
  · -- bastore
    rename_i heq
    dsimp only at heq; subst heq
    simp only [px_okS, px_okN, Bool.and_eq_true, decide_eq_true_eq] at hok
    obtain ⟨rfl, hn⟩ := hok
    unfold px_as at h
    split at h
    · rename_i x j a S0
      split at h
      · rename_i a t n f hwa
        split at h
        · rename_i ht
          subst ht
          cases h
          have hpc := px_nx_at hn hr'
          refine va_zast hx hb hK hP hD (px_S_here hS) a 1 (px_cw_at hwa) rfl hq.1 hdg (fun H1 locs1 hP1 _ hS1 => ?_)
          have hz : vp_nar .boolean x = x := by
            rcases hq.2 with h9 | h9 <;> subst h9 <;> decide
          rw [hz] at hP1
          rw [← hpc]
          refine K H1 locs1 cells slots ls (by simp) (by rw [px_tot_set hwa (by simp [px_sz])]) ⟨hK, ?_, n0, xs, ?_, px_X_kept hX hbA hS1, hbb⟩ (px_S_tr hS hS1) (by simp; exact Nat.le_trans hsz hS1.1) hl rfl
          · rw [px_cw_set hwa]; exact hP1
          · rw [List.getElem?_set_ne (by omega)]; exact hw0
        · cases h
      · cases h
    · cases h
  · -- laload
    rename_i heq
    dsimp only at heq; subst heq
    simp only [px_okS, px_okN, Bool.and_eq_true, decide_eq_true_eq] at hok
    obtain ⟨rfl, hn⟩ := hok
    unfold px_ll at h
    split at h
    · rename_i j a S0
      split at h
      · rename_i t n f hwa
        split at h
        · rename_i ht
          subst ht
          cases h
          have hpc := px_nx_at hn hr'
          cases a with
          | zero => rw [hw0] at hwa; cases hwa
          | succ a =>
            refine va_lald hx hb hK hP a 2 (px_cw_at hwa) rfl hq hdg ?_
            rw [← hpc]
            exact K H locs cells slots ls rfl rfl hI hS hsz hl rfl
        · cases h
      · cases h
    · cases h
  · -- lastore
    rename_i heq
    dsimp only at heq; subst heq
    simp only [px_okS, px_okN, Bool.and_eq_true, decide_eq_true_eq] at hok
    obtain ⟨rfl, hn⟩ := hok
    unfold px_ls at h
    split at h
    · rename_i x j a S0
      split at h
      · rename_i a t n f hwa
        split at h
        · rename_i ht
          subst ht
          cases h
          have hpc := px_nx_at hn hr'
          refine va_last hx hb hK hP hD (px_S_here hS) a 2 (px_cw_at hwa) rfl hq hdg (fun H1 locs1 hP1 _ hS1 => ?_)
          rw [← hpc]
          refine K H1 locs1 cells slots ls (by simp) (by rw [px_tot_set hwa (by simp [px_sz])]) ⟨hK, ?_, n0, xs, ?_, px_X_kept hX hbA hS1, hbb⟩ (px_S_tr hS hS1) (by simp; exact Nat.le_trans hsz hS1.1) hl rfl
          · rw [px_cw_set hwa]; exact hP1
          · rw [List.getElem?_set_ne (by omega)]; exact hw0
        · cases h
      · cases h
    · cases h
  · -- arraylength
    rename_i heq
    dsimp only at heq; subst heq
    simp only [px_okS, px_okN, Bool.and_eq_true, decide_eq_true_eq] at hok
    obtain ⟨rfl, hn⟩ := hok
    unfold px_le at h
    split at h
    · rename_i a S0
      split at h
      · rename_i t n f hwa
        split at h
        · rename_i ht
          unfold px_go at h; cases h
          have hpc := px_nx_at hn hr'
          cases a with
          | zero =>
            rw [hw0] at hwa
            cases hwa
            refine va_slen hx hb hX (show b < H.size from (Array.getElem?_eq_some_iff.mp hX.choose_spec.1).1) hbA (px_S_here hS) hdg ?_
            rw [← hpc]
            exact K H locs cells slots ls rfl rfl hI hS hsz hl rfl
          | succ a =>
            obtain ⟨ty, hty⟩ : ∃ ty : FieldType, (px_tys cA)[t]? = some (cA t, ty) := by
              match t, ht with
              | 0, _ => exact ⟨_, rfl⟩
              | 1, _ => exact ⟨_, rfl⟩
              | 2, _ => exact ⟨_, rfl⟩
              | n9 + 3, h9 => exact absurd h9 (Nat.not_lt_of_le (Nat.le_add_left 3 n9))
            refine va_alen hx hb hK hP a t (px_cw_at hwa) hty rfl hdg ?_
            rw [← hpc]
            exact K H locs cells slots ls rfl rfl hI hS hsz hl rfl
        · cases h
      · cases h
    · cases h
  · -- newarray int
    rename_i heq
    dsimp only at heq; subst heq
    simp only [px_okS, px_okN, Bool.and_eq_true, decide_eq_true_eq] at hok
    obtain ⟨⟨rfl, hn⟩, hin⟩ := hok
    unfold px_na at h
    split at h
    · rename_i z S0
      cases h
      have hpc := px_nx_at hn hr'
      have hw1 : 0 < w.length := (List.getElem?_eq_some_iff.mp hw0).1
      rw [px_tot_app] at hrs
      simp only [List.length_append, List.length_cons, List.length_nil] at hrc
      have hsz1 : px_sz (.inl (0, z.toNatClampNeg, px_z 0) : va_E) = z.toNatClampNeg := rfl
      refine va_newa (ty := .int) (N' := z.toNatClampNeg) (a0 := (z.toNatClampNeg, px_z 0)) hx hb (hts _ (px_in_mem hin)) rfl hK hP hD (px_S_here hS) (fun q h9 => show base ≤ q by omega) (fun _ => rfl) hq.1 rfl (by have := hq.2; simp only [componentBytes]; omega) (by omega) (by have h9 : slots + (px_tot w + z.toNatClampNeg) ≤ R.slots + px_tot w := hrs; omega) hdg (fun a cX H1 hK1 hP1 hD1 hS1 => ?_)
      have hcX : cX = cA 0 := by
        have h1 := (hK1.2 3 (cX, .int) rfl).2
        have h2 := (hK1.2 0 (cA 0, .int) rfl).2
        exact Option.some.inj (h1.symm.trans h2)
      subst hcX
      refine px_born (cA := cA) (b := b) (x := .inl (0, z.toNatClampNeg, px_z 0)) hw1 hcw (Nat.le_trans hsz hS1.1) hP1 hD1 ?_
      intro ha hP2 hz2
      subst ha
      rw [← hpc]
      have kk := K H1 locs (cells + 1) (slots + z.toNatClampNeg) ls (by simp; omega) (by rw [px_tot_app, hsz1]; omega) ⟨hK, hP2, n0, xs, by rw [List.getElem?_append_left hw1]; exact hw0, px_X_kept hX hbA hS1, hbb⟩ (px_S_tr hS hS1) (by simp; omega) hl rfl
      simp only [List.map_cons, px_cv, px_adr_len hw1] at kk
      exact kk
    · cases h
  · -- newarray boolean
    rename_i heq
    dsimp only at heq; subst heq
    simp only [px_okS, px_okN, Bool.and_eq_true, decide_eq_true_eq] at hok
    obtain ⟨⟨rfl, hn⟩, hin⟩ := hok
    unfold px_na at h
    split at h
    · rename_i z S0
      cases h
      have hpc := px_nx_at hn hr'
      have hw1 : 0 < w.length := (List.getElem?_eq_some_iff.mp hw0).1
      rw [px_tot_app] at hrs
      simp only [List.length_append, List.length_cons, List.length_nil] at hrc
      have hsz1 : px_sz (.inl (1, z.toNatClampNeg, px_z 1) : va_E) = z.toNatClampNeg := rfl
      refine va_newa (ty := .boolean) (N' := z.toNatClampNeg) (a0 := (z.toNatClampNeg, px_z 1)) hx hb (hts _ (px_in_mem hin)) rfl hK hP hD (px_S_here hS) (fun q h9 => show base ≤ q by omega) (fun _ => rfl) hq.1 rfl (by have := hq.2; simp only [componentBytes]; omega) (by omega) (by have h9 : slots + (px_tot w + z.toNatClampNeg) ≤ R.slots + px_tot w := hrs; omega) hdg (fun a cX H1 hK1 hP1 hD1 hS1 => ?_)
      have hcX : cX = cA 1 := by
        have h1 := (hK1.2 3 (cX, .boolean) rfl).2
        have h2 := (hK1.2 1 (cA 1, .boolean) rfl).2
        exact Option.some.inj (h1.symm.trans h2)
      subst hcX
      refine px_born (cA := cA) (b := b) (x := .inl (1, z.toNatClampNeg, px_z 1)) hw1 hcw (Nat.le_trans hsz hS1.1) hP1 hD1 ?_
      intro ha hP2 hz2
      subst ha
      rw [← hpc]
      have kk := K H1 locs (cells + 1) (slots + z.toNatClampNeg) ls (by simp; omega) (by rw [px_tot_app, hsz1]; omega) ⟨hK, hP2, n0, xs, by rw [List.getElem?_append_left hw1]; exact hw0, px_X_kept hX hbA hS1, hbb⟩ (px_S_tr hS hS1) (by simp; omega) hl rfl
      simp only [List.map_cons, px_cv, px_adr_len hw1] at kk
      exact kk
    · cases h
  · -- newarray long
    rename_i heq
    dsimp only at heq; subst heq
    simp only [px_okS, px_okN, Bool.and_eq_true, decide_eq_true_eq] at hok
    obtain ⟨⟨rfl, hn⟩, hin⟩ := hok
    unfold px_na at h
    split at h
    · rename_i z S0
      cases h
      have hpc := px_nx_at hn hr'
      have hw1 : 0 < w.length := (List.getElem?_eq_some_iff.mp hw0).1
      rw [px_tot_app] at hrs
      simp only [List.length_append, List.length_cons, List.length_nil] at hrc
      have hsz1 : px_sz (.inl (2, z.toNatClampNeg, px_z 2) : va_E) = z.toNatClampNeg := rfl
      refine va_newa (ty := .long) (N' := z.toNatClampNeg) (a0 := (z.toNatClampNeg, px_z 2)) hx hb (hts _ (px_in_mem hin)) rfl hK hP hD (px_S_here hS) (fun q h9 => show base ≤ q by omega) (fun _ => rfl) hq.1 rfl (by have := hq.2; simp only [componentBytes]; omega) (by omega) (by have h9 : slots + (px_tot w + z.toNatClampNeg) ≤ R.slots + px_tot w := hrs; omega) hdg (fun a cX H1 hK1 hP1 hD1 hS1 => ?_)
      have hcX : cX = cA 2 := by
        have h1 := (hK1.2 3 (cX, .long) rfl).2
        have h2 := (hK1.2 2 (cA 2, .long) rfl).2
        exact Option.some.inj (h1.symm.trans h2)
      subst hcX
      refine px_born (cA := cA) (b := b) (x := .inl (2, z.toNatClampNeg, px_z 2)) hw1 hcw (Nat.le_trans hsz hS1.1) hP1 hD1 ?_
      intro ha hP2 hz2
      subst ha
      rw [← hpc]
      have kk := K H1 locs (cells + 1) (slots + z.toNatClampNeg) ls (by simp; omega) (by rw [px_tot_app, hsz1]; omega) ⟨hK, hP2, n0, xs, by rw [List.getElem?_append_left hw1]; exact hw0, px_X_kept hX hbA hS1, hbb⟩ (px_S_tr hS hS1) (by simp; omega) hl rfl
      simp only [List.map_cons, px_cv, px_adr_len hw1] at kk
      exact kk
    · cases h
  · -- invokestatic: System.arraycopy
    rename_i idx heq
    dsimp only at heq; subst heq
    simp only [px_okS, px_okN, Bool.and_eq_true, decide_eq_true_eq] at hok
    obtain ⟨⟨⟨⟨⟨rfl, hn⟩, hi1⟩, hi2⟩, hi3⟩, hi4⟩ := hok
    unfold px_cp at h
    split at h
    · rename_i z dp a sp a2 S0
      split at h
      · rename_i a a2 t0 n1 f t1 n2 g hwa hwb
        split at h
        · rename_i hc9
          obtain ⟨rfl, rfl, hsum⟩ := hc9
          cases h
          have hpc := px_nx_at hn hr'
          obtain ⟨q1, q2, q3, q4, q5⟩ := hq
          have h9 : nativeFrameWords "java/lang/System" "arraycopy" 5 ≤ 40 := by decide +kernel
          refine va_copyi (rest := S'.map (px_cv b base)) hx hb (by rw [hmx, hl.1, hml]) hown (hts _ (px_in_mem hi1)) (hts _ (px_in_mem hi2)) (hts _ (px_in_mem hi3)) (hts _ (px_in_mem hi4)) hK hP hD (px_S_here hS) a2 a 0 0 (px_cw_at hwb) (px_cw_at hwa) rfl rfl rfl q1 q2 q3 q4 q5 (fun _ _ => rfl) hfr (by rw [px_cat_map]; omega) hdg (fun H1 locs1 hP1 _ hS1 => ?_)
          rw [← hpc]
          refine K H1 locs1 cells slots ls (by simp) (by rw [px_tot_set hwa (by simp [px_sz])]) ⟨hK, ?_, n0, xs, ?_, px_X_kept hX hbA hS1, hbb⟩ (px_S_tr hS hS1) (by simp; exact Nat.le_trans hsz hS1.1) hl rfl
          · rw [px_cw_set hwa]; exact hP1
          · rw [List.getElem?_set_ne (by omega)]; exact hw0
        · cases h
      · cases h
    · cases h
  · -- invokespecial: Object's constructor
    rename_i idx heq
    dsimp only at heq; subst heq
    simp only [px_okS, px_okN, Bool.and_eq_true, decide_eq_true_eq] at hok
    obtain ⟨⟨⟨⟨rfl, hn⟩, hi1⟩, hi2⟩, hi3⟩ := hok
    unfold px_oi at h
    split at h
    · rename_i a S0
      split at h
      · rename_i hsum
        unfold px_go at h; cases h
        have hpc := px_nx_at hn hr'
        refine W.objInit hx hb hown (hts _ (px_in_mem hi1)) (hts _ (px_in_mem hi2)) (hts _ (px_in_mem hi3)) rfl (by rw [hmx, ← hml]; exact hl.1) rfl hdg hfr (by show 2 * 0 + ((S'.map (px_cv b base)).map fun v => v.category).sum + 12 ≤ R.locals; rw [px_cat_map]; omega) ?_
        refine W.eq (g2 := F0 m r'.1 ls (S'.map (px_cv b base))) (by rw [hpc]) ?_
        exact K H locs cells slots ls rfl rfl hI hS hsz hl rfl
      · cases h
    · cases h
  · -- new
    rename_i idx heq
    dsimp only at heq; subst heq
    simp only [px_okS, px_okN, Bool.and_eq_true, decide_eq_true_eq] at hok
    obtain ⟨⟨rfl, hn⟩, hin⟩ := hok
    unfold px_nw px_go at h
    cases h
    have hpc := px_nx_at hn hr'
    have hw1 : 0 < w.length := (List.getElem?_eq_some_iff.mp hw0).1
    split at hin
    · rename_i C T N hcl
      simp only [Bool.and_eq_true, decide_eq_true_eq] at hin
      obtain ⟨⟨⟨hN, hi1⟩, hi2⟩, hi3⟩ := hin
      obtain ⟨hC1, hC2, hC3, hC4⟩ := hC _ C T N hcl
      obtain ⟨hc5, hc6, hc7⟩ := hC4 hN
      rw [px_tot_app] at hrs
      simp only [List.length_append, List.length_cons, List.length_nil] at hrc
      have hsz1 : px_sz (.inr (px_nm (pc, Instr.new idx, 3, nums, v) 0, E.1 (px_nm (pc, Instr.new idx, 3, nums, v) 0)) : va_E) = N := hc5
      have hcv : (E.1 (px_nm (pc, Instr.new idx, 3, nums, v) 0)).map (px_cv b base) = E.1 (px_nm (pc, Instr.new idx, 3, nums, v) 0) := by
        conv => rhs; rw [← List.map_id (E.1 (px_nm (pc, Instr.new idx, 3, nums, v) 0))]
        refine List.map_congr_left (fun u hu => ?_)
        have h9 := hc7 u hu
        cases u <;> first | rfl | exact absurd rfl (h9 _)
      refine va_new (ci := px_nm (pc, Instr.new idx, 3, nums, v) 0) (fs := E.1 (px_nm (pc, Instr.new idx, 3, nums, v) 0)) (C := C) (T := T) (N := N) hx hb hts hC1 (E.2 _) hC2 hown (hts _ (px_in_mem hi1)) (hts _ (px_in_mem hi2)) (hts _ (px_in_mem hi3)) hK hP hD (px_S_here hS) (fun q h9 => show base ≤ q by omega) hcl hc6 (by omega) (by rw [hsz1] at hrs; omega) hdg (fun a H1 hP1 hD1 hS1 => ?_)
      have e9 : (Sum.inr (px_nm (pc, Instr.new idx, 3, nums, v) 0, E.1 (px_nm (pc, Instr.new idx, 3, nums, v) 0)) : va_E) = px_ce cA b base (.inr (px_nm (pc, Instr.new idx, 3, nums, v) 0, E.1 (px_nm (pc, Instr.new idx, 3, nums, v) 0))) := by
        simp only [px_ce, hcv]
      rw [e9] at hP1 hD1
      refine px_born hw1 hcw (Nat.le_trans hsz hS1.1) hP1 hD1 ?_
      intro ha hP2 hz2
      subst ha
      rw [← hpc]
      have kk := K H1 locs (cells + 1) (slots + N) ls (by simp; omega) (by rw [px_tot_app, hsz1]; omega) ⟨hK, hP2, n0, xs, by rw [List.getElem?_append_left hw1]; exact hw0, px_X_kept hX hbA hS1, hbb⟩ (px_S_tr hS hS1) (by simp; omega) hl rfl
      simp only [List.map_cons, px_cv, px_adr_len hw1] at kk
      exact kk
    · cases hin
  · -- no other
    cases h
