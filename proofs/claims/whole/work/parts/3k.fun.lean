/-! THE METHODS AS FUNCTIONS (by program). -/
noncomputable def l_M_write_28_40_94 (K : px_K) (N : Nat) (n : Nat) (u1 : Int32) (u4 : Int32) (u5 : Int32) (m6 : Int32) (s : px_S) (t : px_W) : Option px_LO := match n with
  | 0 => none
  | n + 1 => (if (16 : Int32) ≤ m6 then (some (.inl (112, [], s, t))) else (px_gd (vp_in (u4 + m6) (K.2.2 40)) (px_gd (vp_in (((16 : Int32) * u5) + m6) (K.2.2 32)) (px_let (sA s 32 (((16 : Int32) * u5) + m6).toNatClampNeg ((s.2.2.1 40) (u4 + m6).toNatClampNeg)) (fun s4 => (l_M_write_28_40_94 K N n u1 u4 u5 (m6 + (1 : Int32)) s4 t))))))
def a_l_M_write_28_40_94 (K : px_K) (u1 : Int32) (u4 : Int32) (u5 : Int32) (z : px_LO) (o : Option Value ⊕ Nat) (w2 : px_W) : Prop := match z with
  | .inr (o', s', t') => o = o' ∧ w2 = px_w K s' t'
  | .inl (112, [], s', t') => px_E px_ET px_P 5 29 112 [some (.ref 28), some (.int u1), none, none, none, none, none] [] (px_w K s' t') o w2
  | _ => False
noncomputable def l_M_write_28_40_28 (K : px_K) (N : Nat) (n : Nat) (u1 : Int32) (u2 : Int32) (u4 : Int32) (u5 : Int32) (m6 : Int32) (s : px_S) (t : px_W) : Option px_LO := match n with
  | 0 => none
  | n + 1 => (if ((u5 + (64 : Int32)) - (1 : Int32)) ≤ m6 then (some (.inl (47, [], s, t))) else (px_gd ((vp_in (m6 + (1 : Int32)) (K.2.2 31)) ∧ (vp_in m6 (K.2.2 31))) (px_let (sA s 31 m6.toNatClampNeg ((s.2.2.1 31) (m6 + (1 : Int32)).toNatClampNeg)) (fun s4 => (l_M_write_28_40_28 K N n u1 u2 u4 u5 (m6 + (1 : Int32)) s4 t)))))
def a_l_M_write_28_40_28 (K : px_K) (u1 : Int32) (u2 : Int32) (u4 : Int32) (u5 : Int32) (z : px_LO) (o : Option Value ⊕ Nat) (w2 : px_W) : Prop := match z with
  | .inr (o', s', t') => o = o' ∧ w2 = px_w K s' t'
  | .inl (47, [], s', t') => px_E px_ET px_P 5 29 47 [some (.ref 28), some (.int u1), some (.int u2), some (.ref 40), some (.int u4), some (.int u5), none] [] (px_w K s' t') o w2
  | _ => False
noncomputable def l_M_write_28_40_51 (K : px_K) (N : Nat) (n : Nat) (u1 : Int32) (u2 : Int32) (u4 : Int32) (u5 : Int32) (m6 : Int32) (s : px_S) (t : px_W) : Option px_LO := match n with
  | 0 => none
  | n + 1 => (if ((16 : Int32) * ((u5 + (64 : Int32)) - (1 : Int32))) ≤ m6 then (some (.inl (72, [], s, t))) else (px_gd ((vp_in (m6 + (16 : Int32)) (K.2.2 32)) ∧ (vp_in m6 (K.2.2 32))) (px_let (sA s 32 m6.toNatClampNeg ((s.2.2.1 32) (m6 + (16 : Int32)).toNatClampNeg)) (fun s4 => (l_M_write_28_40_51 K N n u1 u2 u4 u5 (m6 + (1 : Int32)) s4 t)))))
def a_l_M_write_28_40_51 (K : px_K) (u1 : Int32) (u2 : Int32) (u4 : Int32) (u5 : Int32) (z : px_LO) (o : Option Value ⊕ Nat) (w2 : px_W) : Prop := match z with
  | .inr (o', s', t') => o = o' ∧ w2 = px_w K s' t'
  | .inl (72, [], s', t') => px_E px_ET px_P 5 29 72 [some (.ref 28), some (.int u1), some (.int u2), some (.ref 40), some (.int u4), some (.int u5), none] [] (px_w K s' t') o w2
  | _ => False
set_option maxRecDepth 100000 in
theorem e_l_M_write_28_40_94 (K : px_K) (N : Nat) (u1 : Int32) (u4 : Int32) (u5 : Int32) : ∀ (n : Nat) (m6 : Int32) (s : px_S) (t : px_W) (z : px_LO), l_M_write_28_40_94 K N n u1 u4 u5 m6 s t = some z → ∀ (o : Option Value ⊕ Nat) (w2 : px_W), a_l_M_write_28_40_94 K u1 u4 u5 z o w2 → px_E px_ET px_P 5 29 94 [some (.ref 28), some (.int u1), none, some (.ref 40), some (.int u4), some (.int u5), some (.int m6)] [] (px_w K s t) o w2 := by
  have hM : px_P[29]? = some pm_M_write := rfl
  intro n
  induction n with
  | zero => intro m6 s t z h; cases h
  | succ n ih =>
    intro m6 s t z h o w2 ha
    unfold l_M_write_28_40_94 at h
    refine px_blkif (c := (16 : Int32) ≤ m6) (t := 112) (e := 97) (L' := [some (.ref 28), some (.int u1), none, some (.ref 40), some (.int u4), some (.int u5), some (.int m6)]) (S' := []) (w' := px_w K s t) (q := []) 3 hM rfl trivial (fun hc1 => ?_) (fun hc1 => ?_)
    · rw [if_pos hc1] at h
      cases h
      exact px_E_le (px_leC_L _ _ (by simp [px_leC, px_le1, Value.category])) ha
    · rw [if_neg hc1] at h
      obtain ⟨hq2, h⟩ := px_gd_some h
      refine px_blk (i' := 109) (L' := [some (.ref 28), some (.int u1), none, some (.ref 40), some (.int u4), some (.int u5), some (.int m6)]) (S' := [.int ((s.2.2.1 40) (u4 + m6).toNatClampNeg), .int (((16 : Int32) * u5) + m6), .ref 32]) (w' := px_w K s t) (q := [vp_in (u4 + m6) (K.2.2 40)]) 12 hM rfl (show vp_in (u4 + m6) (K.2.2 40) from hq2) ?_
      obtain ⟨hq3, h⟩ := px_gd_some h
      refine px_blk (i' := 110) (L' := [some (.ref 28), some (.int u1), none, some (.ref 40), some (.int u4), some (.int u5), some (.int m6)]) (S' := []) (w' := px_w K (sA s 32 (((16 : Int32) * u5) + m6).toNatClampNeg ((s.2.2.1 40) (u4 + m6).toNatClampNeg)) t) (q := [vp_in (((16 : Int32) * u5) + m6) (K.2.2 32)]) 1 hM rfl (show vp_in (((16 : Int32) * u5) + m6) (K.2.2 32) from hq3) ?_
      obtain ⟨s4, hs5, h⟩ := px_let_some h
      rw [← hs5]
      refine px_blk (i' := 94) (L' := [some (.ref 28), some (.int u1), none, some (.ref 40), some (.int u4), some (.int u5), some (.int (m6 + (1 : Int32)))]) (S' := []) (w' := px_w K s4 t) (q := []) 2 hM rfl trivial ?_
      exact ih (m6 + (1 : Int32)) s4 t z h o w2 ha
set_option maxRecDepth 100000 in
theorem e_l_M_write_28_40_28 (K : px_K) (N : Nat) (u1 : Int32) (u2 : Int32) (u4 : Int32) (u5 : Int32) : ∀ (n : Nat) (m6 : Int32) (s : px_S) (t : px_W) (z : px_LO), l_M_write_28_40_28 K N n u1 u2 u4 u5 m6 s t = some z → ∀ (o : Option Value ⊕ Nat) (w2 : px_W), a_l_M_write_28_40_28 K u1 u2 u4 u5 z o w2 → px_E px_ET px_P 5 29 28 [some (.ref 28), some (.int u1), some (.int u2), some (.ref 40), some (.int u4), some (.int u5), some (.int m6)] [] (px_w K s t) o w2 := by
  have hM : px_P[29]? = some pm_M_write := rfl
  intro n
  induction n with
  | zero => intro m6 s t z h; cases h
  | succ n ih =>
    intro m6 s t z h o w2 ha
    unfold l_M_write_28_40_28 at h
    refine px_blkif (c := ((u5 + (64 : Int32)) - (1 : Int32)) ≤ m6) (t := 47) (e := 35) (L' := [some (.ref 28), some (.int u1), some (.int u2), some (.ref 40), some (.int u4), some (.int u5), some (.int m6)]) (S' := []) (w' := px_w K s t) (q := []) 7 hM rfl trivial (fun hc1 => ?_) (fun hc1 => ?_)
    · rw [if_pos hc1] at h
      cases h
      exact px_E_le (px_leC_L _ _ (by simp [px_leC, px_le1, Value.category])) ha
    · rw [if_neg hc1] at h
      obtain ⟨⟨hq2, hq3⟩, h⟩ := px_gd_some h
      refine px_blk (i' := 45) (L' := [some (.ref 28), some (.int u1), some (.int u2), some (.ref 40), some (.int u4), some (.int u5), some (.int m6)]) (S' := []) (w' := px_w K (sA s 31 m6.toNatClampNeg ((s.2.2.1 31) (m6 + (1 : Int32)).toNatClampNeg)) t) (q := [vp_in (m6 + (1 : Int32)) (K.2.2 31), vp_in m6 (K.2.2 31)]) 10 hM rfl (show (vp_in (m6 + (1 : Int32)) (K.2.2 31)) ∧ (vp_in m6 (K.2.2 31)) from ⟨hq2, hq3⟩) ?_
      obtain ⟨s4, hs5, h⟩ := px_let_some h
      rw [← hs5]
      refine px_blk (i' := 28) (L' := [some (.ref 28), some (.int u1), some (.int u2), some (.ref 40), some (.int u4), some (.int u5), some (.int (m6 + (1 : Int32)))]) (S' := []) (w' := px_w K s4 t) (q := []) 2 hM rfl trivial ?_
      exact ih (m6 + (1 : Int32)) s4 t z h o w2 ha
set_option maxRecDepth 100000 in
theorem e_l_M_write_28_40_51 (K : px_K) (N : Nat) (u1 : Int32) (u2 : Int32) (u4 : Int32) (u5 : Int32) : ∀ (n : Nat) (m6 : Int32) (s : px_S) (t : px_W) (z : px_LO), l_M_write_28_40_51 K N n u1 u2 u4 u5 m6 s t = some z → ∀ (o : Option Value ⊕ Nat) (w2 : px_W), a_l_M_write_28_40_51 K u1 u2 u4 u5 z o w2 → px_E px_ET px_P 5 29 51 [some (.ref 28), some (.int u1), some (.int u2), some (.ref 40), some (.int u4), some (.int u5), some (.int m6)] [] (px_w K s t) o w2 := by
  have hM : px_P[29]? = some pm_M_write := rfl
  intro n
  induction n with
  | zero => intro m6 s t z h; cases h
  | succ n ih =>
    intro m6 s t z h o w2 ha
    unfold l_M_write_28_40_51 at h
    refine px_blkif (c := ((16 : Int32) * ((u5 + (64 : Int32)) - (1 : Int32))) ≤ m6) (t := 72) (e := 60) (L' := [some (.ref 28), some (.int u1), some (.int u2), some (.ref 40), some (.int u4), some (.int u5), some (.int m6)]) (S' := []) (w' := px_w K s t) (q := []) 9 hM rfl trivial (fun hc1 => ?_) (fun hc1 => ?_)
    · rw [if_pos hc1] at h
      cases h
      exact px_E_le (px_leC_L _ _ (by simp [px_leC, px_le1, Value.category])) ha
    · rw [if_neg hc1] at h
      obtain ⟨⟨hq2, hq3⟩, h⟩ := px_gd_some h
      refine px_blk (i' := 70) (L' := [some (.ref 28), some (.int u1), some (.int u2), some (.ref 40), some (.int u4), some (.int u5), some (.int m6)]) (S' := []) (w' := px_w K (sA s 32 m6.toNatClampNeg ((s.2.2.1 32) (m6 + (16 : Int32)).toNatClampNeg)) t) (q := [vp_in (m6 + (16 : Int32)) (K.2.2 32), vp_in m6 (K.2.2 32)]) 10 hM rfl (show (vp_in (m6 + (16 : Int32)) (K.2.2 32)) ∧ (vp_in m6 (K.2.2 32)) from ⟨hq2, hq3⟩) ?_
      obtain ⟨s4, hs5, h⟩ := px_let_some h
      rw [← hs5]
      refine px_blk (i' := 51) (L' := [some (.ref 28), some (.int u1), some (.int u2), some (.ref 40), some (.int u4), some (.int u5), some (.int (m6 + (1 : Int32)))]) (S' := []) (w' := px_w K s4 t) (q := []) 2 hM rfl trivial ?_
      exact ih (m6 + (1 : Int32)) s4 t z h o w2 ha
noncomputable def f_M_write_28_40 (K : px_K) (N : Nat) (a0 : Int32) (a1 : Int32) (a2 : Int32) (s : px_S) (t : px_W) : Option px_Res :=
  (px_bi (f_M_acts_28 K N s t) (fun v4 s1 t2 => (if ¬ v4 = 0 then (px_gd ((vp_in a0 (K.2.2 33)) ∧ (vp_in a0 (K.2.2 33))) (px_let (sA s1 33 a0.toNatClampNeg (((s1.2.2.1 33) a0.toNatClampNeg) + (1 : Int32))) (fun s9 => (px_let ((64 : Int32) * a0) (fun v11 => (px_gd (vp_in a0 (K.2.2 30)) (if ¬ ((s9.2.2.1 30) a0.toNatClampNeg) = (64 : Int32) then (px_gd (vp_in a0 (K.2.2 30)) (px_let (v11 + ((s9.2.2.1 30) a0.toNatClampNeg)) (fun v16 => (px_gd (vp_in v16 (K.2.2 31)) (px_let (sA s9 31 v16.toNatClampNeg a1) (fun s19 => (px_lp (l_M_write_28_40_94 K N N a0 a2 v16 (0 : Int32) s19 t2) (fun i21 vs22 s23 t24 => (if i21 = 112 then (px_v0 vs22 (px_gd ((vp_in a0 (K.2.2 30)) ∧ (vp_in a0 (K.2.2 30))) (px_let (sA s23 30 a0.toNatClampNeg (((s23.2.2.1 30) a0.toNatClampNeg) + (1 : Int32))) (fun s30 => (some (.inl none, s30, t24)))))) else none)) (fun z26 => some z26)))))))) else (px_bv (f_M_becomesStable_28 K N a0 (0 : Int32) s9 t2) (fun s32 t33 => (px_lp (l_M_write_28_40_28 K N N a0 a1 a2 v11 v11 s32 t33) (fun i37 vs38 s39 t40 => (if i37 = 47 then (px_v0 vs38 (px_let ((16 : Int32) * v11) (fun v44 => (px_lp (l_M_write_28_40_51 K N N a0 a1 a2 v11 v44 s39 t40) (fun i46 vs47 s48 t49 => (if i46 = 72 then (px_v0 vs47 (px_gd ((vp_in a0 (K.2.2 30)) ∧ (vp_in a0 (K.2.2 30))) (px_let (sA s48 30 a0.toNatClampNeg (((s48.2.2.1 30) a0.toNatClampNeg) - (1 : Int32))) (fun s55 => (px_gd (vp_in a0 (K.2.2 30)) (px_let (v11 + ((s55.2.2.1 30) a0.toNatClampNeg)) (fun v58 => (px_gd (vp_in v58 (K.2.2 31)) (px_let (sA s55 31 v58.toNatClampNeg a1) (fun s61 => (px_lp (l_M_write_28_40_94 K N N a0 a2 v58 (0 : Int32) s61 t49) (fun i63 vs64 s65 t66 => (if i63 = 112 then (px_v0 vs64 (px_gd ((vp_in a0 (K.2.2 30)) ∧ (vp_in a0 (K.2.2 30))) (px_let (sA s65 30 a0.toNatClampNeg (((s65.2.2.1 30) a0.toNatClampNeg) + (1 : Int32))) (fun s72 => (some (.inl none, s72, t66)))))) else none)) (fun z68 => some z68)))))))))))) else none)) (fun z51 => some z51))))) else none)) (fun z42 => some z42))) (fun x36 s32 t33 => none))))))))) else (some (.inl none, s1, t2)))) (fun x5 s1 t2 => none))
set_option maxRecDepth 100000 in
theorem e_M_write_28_40 (K : px_K) (N : Nat) (a0 : Int32) (a1 : Int32) (a2 : Int32) (s : px_S) (t : px_W) (r : px_Res) (h : f_M_write_28_40 K N a0 a1 a2 s t = some r) : px_E px_ET px_P 5 29 0 (px_ent 7 [.ref 28, .int a0, .int a1, .ref 40, .int a2]) [] (px_w K s t) r.1 (px_w K r.2.1 r.2.2) := by
  have hM : px_P[29]? = some pm_M_write := rfl
  unfold f_M_write_28_40 at h
  refine px_blk (i' := 1) (L' := [some (.ref 28), some (.int a0), some (.int a1), some (.ref 40), some (.int a2), none, none]) (S' := [.ref 28]) (w' := px_w K s t) (q := []) 1 hM rfl trivial ?_
  rcases px_bi_some h with ⟨v4, s1, t2, hk3, h⟩ | ⟨x5, s1, t2, hk3, h⟩
  · refine px_E_call hM rfl rfl rfl rfl (px_E_mono (by decide) (e_M_acts_28 K N s t _ hk3)) ?_
    refine px_blkif (c := ¬ v4 = 0) (t := 4) (e := 3) (L' := [some (.ref 28), some (.int a0), some (.int a1), some (.ref 40), some (.int a2), none, none]) (S' := []) (w' := px_w K s1 t2) (q := []) 1 hM rfl trivial (fun hc6 => ?_) (fun hc6 => ?_)
    · rw [if_pos hc6] at h
      obtain ⟨⟨hq7, hq8⟩, h⟩ := px_gd_some h
      refine px_blk (i' := 12) (L' := [some (.ref 28), some (.int a0), some (.int a1), some (.ref 40), some (.int a2), none, none]) (S' := []) (w' := px_w K (sA s1 33 a0.toNatClampNeg (((s1.2.2.1 33) a0.toNatClampNeg) + (1 : Int32))) t2) (q := [vp_in a0 (K.2.2 33), vp_in a0 (K.2.2 33)]) 8 hM rfl (show (vp_in a0 (K.2.2 33)) ∧ (vp_in a0 (K.2.2 33)) from ⟨hq7, hq8⟩) ?_
      obtain ⟨s9, hs10, h⟩ := px_let_some h
      rw [← hs10]
      refine px_blk (i' := 16) (L' := [some (.ref 28), some (.int a0), some (.int a1), some (.ref 40), some (.int a2), some (.int ((64 : Int32) * a0)), none]) (S' := []) (w' := px_w K s9 t2) (q := []) 4 hM rfl trivial ?_
      obtain ⟨v11, hv12, h⟩ := px_let_some h
      rw [← hv12]
      obtain ⟨hq13, h⟩ := px_gd_some h
      refine px_blkif (c := ¬ ((s9.2.2.1 30) a0.toNatClampNeg) = (64 : Int32)) (t := 80) (e := 22) (L' := [some (.ref 28), some (.int a0), some (.int a1), some (.ref 40), some (.int a2), some (.int v11), none]) (S' := []) (w' := px_w K s9 t2) (q := [vp_in a0 (K.2.2 30)]) 6 hM rfl (show vp_in a0 (K.2.2 30) from hq13) (fun hc14 => ?_) (fun hc14 => ?_)
      · rw [if_pos hc14] at h
        obtain ⟨hq15, h⟩ := px_gd_some h
        refine px_blk (i' := 87) (L' := [some (.ref 28), some (.int a0), some (.int a1), some (.ref 40), some (.int a2), some (.int (v11 + ((s9.2.2.1 30) a0.toNatClampNeg))), none]) (S' := []) (w' := px_w K s9 t2) (q := [vp_in a0 (K.2.2 30)]) 7 hM rfl (show vp_in a0 (K.2.2 30) from hq15) ?_
        obtain ⟨v16, hv17, h⟩ := px_let_some h
        rw [← hv17]
        obtain ⟨hq18, h⟩ := px_gd_some h
        refine px_blk (i' := 92) (L' := [some (.ref 28), some (.int a0), some (.int a1), some (.ref 40), some (.int a2), some (.int v16), none]) (S' := []) (w' := px_w K (sA s9 31 v16.toNatClampNeg a1) t2) (q := [vp_in v16 (K.2.2 31)]) 5 hM rfl (show vp_in v16 (K.2.2 31) from hq18) ?_
        obtain ⟨s19, hs20, h⟩ := px_let_some h
        rw [← hs20]
        refine px_blk (i' := 94) (L' := [some (.ref 28), some (.int a0), some (.int a1), some (.ref 40), some (.int a2), some (.int v16), some (.int (0 : Int32))]) (S' := []) (w' := px_w K s19 t2) (q := []) 2 hM rfl trivial ?_
        rcases px_lp_some h with ⟨i21, vs22, s23, t24, hl25, h⟩ | ⟨z26, hl25, h⟩
        · by_cases hi27 : i21 = 112
          · subst hi27
            rw [if_pos rfl] at h
            have h9 := px_v0_some h
            clear h
            obtain ⟨rfl, h⟩ := h9
            refine px_E_le (px_leC_L _ _ (by simp [px_leC, px_le1, Value.category])) (e_l_M_write_28_40_94 K N a0 a2 v16 N (0 : Int32) s19 t2 _ hl25 _ _ ?_)
            show px_E px_ET px_P 5 29 112 [some (.ref 28), some (.int a0), none, none, none, none, none] [] (px_w K s23 t24) _ _
            obtain ⟨⟨hq28, hq29⟩, h⟩ := px_gd_some h
            refine px_blk (i' := 120) (L' := [some (.ref 28), some (.int a0), none, none, none, none, none]) (S' := []) (w' := px_w K (sA s23 30 a0.toNatClampNeg (((s23.2.2.1 30) a0.toNatClampNeg) + (1 : Int32))) t24) (q := [vp_in a0 (K.2.2 30), vp_in a0 (K.2.2 30)]) 8 hM rfl (show (vp_in a0 (K.2.2 30)) ∧ (vp_in a0 (K.2.2 30)) from ⟨hq28, hq29⟩) ?_
            obtain ⟨s30, hs31, h⟩ := px_let_some h
            rw [← hs31]
            cases h
            exact px_E_ret hM rfl rfl rfl trivial
          · rw [if_neg hi27] at h
            cases h
        · cases h
          exact px_E_le (px_leC_L _ _ (by simp [px_leC, px_le1, Value.category])) (e_l_M_write_28_40_94 K N a0 a2 v16 N (0 : Int32) s19 t2 _ hl25 _ _ ⟨rfl, rfl⟩)
      · rw [if_neg hc14] at h
        refine px_blk (i' := 25) (L' := [some (.ref 28), some (.int a0), some (.int a1), some (.ref 40), some (.int a2), some (.int v11), none]) (S' := [.int (0 : Int32), .int a0, .ref 28]) (w' := px_w K s9 t2) (q := []) 3 hM rfl trivial ?_
        rcases px_bv_some h with ⟨s32, t33, hk34, h⟩ | ⟨x36, s32, t33, hk34, h⟩
        · refine px_E_call hM rfl rfl rfl rfl (px_E_mono (by decide) (e_M_becomesStable_28 K N a0 (0 : Int32) s9 t2 _ hk34)) ?_
          refine px_blk (i' := 28) (L' := [some (.ref 28), some (.int a0), some (.int a1), some (.ref 40), some (.int a2), some (.int v11), some (.int v11)]) (S' := []) (w' := px_w K s32 t33) (q := []) 2 hM rfl trivial ?_
          rcases px_lp_some h with ⟨i37, vs38, s39, t40, hl41, h⟩ | ⟨z42, hl41, h⟩
          · by_cases hi43 : i37 = 47
            · subst hi43
              rw [if_pos rfl] at h
              have h9 := px_v0_some h
              clear h
              obtain ⟨rfl, h⟩ := h9
              refine e_l_M_write_28_40_28 K N a0 a1 a2 v11 N v11 s32 t33 _ hl41 _ _ ?_
              show px_E px_ET px_P 5 29 47 [some (.ref 28), some (.int a0), some (.int a1), some (.ref 40), some (.int a2), some (.int v11), none] [] (px_w K s39 t40) _ _
              refine px_blk (i' := 51) (L' := [some (.ref 28), some (.int a0), some (.int a1), some (.ref 40), some (.int a2), some (.int v11), some (.int ((16 : Int32) * v11))]) (S' := []) (w' := px_w K s39 t40) (q := []) 4 hM rfl trivial ?_
              obtain ⟨v44, hv45, h⟩ := px_let_some h
              rw [← hv45]
              rcases px_lp_some h with ⟨i46, vs47, s48, t49, hl50, h⟩ | ⟨z51, hl50, h⟩
              · by_cases hi52 : i46 = 72
                · subst hi52
                  rw [if_pos rfl] at h
                  have h9 := px_v0_some h
                  clear h
                  obtain ⟨rfl, h⟩ := h9
                  refine e_l_M_write_28_40_51 K N a0 a1 a2 v11 N v44 s39 t40 _ hl50 _ _ ?_
                  show px_E px_ET px_P 5 29 72 [some (.ref 28), some (.int a0), some (.int a1), some (.ref 40), some (.int a2), some (.int v11), none] [] (px_w K s48 t49) _ _
                  obtain ⟨⟨hq53, hq54⟩, h⟩ := px_gd_some h
                  refine px_blk (i' := 80) (L' := [some (.ref 28), some (.int a0), some (.int a1), some (.ref 40), some (.int a2), some (.int v11), none]) (S' := []) (w' := px_w K (sA s48 30 a0.toNatClampNeg (((s48.2.2.1 30) a0.toNatClampNeg) - (1 : Int32))) t49) (q := [vp_in a0 (K.2.2 30), vp_in a0 (K.2.2 30)]) 8 hM rfl (show (vp_in a0 (K.2.2 30)) ∧ (vp_in a0 (K.2.2 30)) from ⟨hq53, hq54⟩) ?_
                  obtain ⟨s55, hs56, h⟩ := px_let_some h
                  rw [← hs56]
                  obtain ⟨hq57, h⟩ := px_gd_some h
                  refine px_blk (i' := 87) (L' := [some (.ref 28), some (.int a0), some (.int a1), some (.ref 40), some (.int a2), some (.int (v11 + ((s55.2.2.1 30) a0.toNatClampNeg))), none]) (S' := []) (w' := px_w K s55 t49) (q := [vp_in a0 (K.2.2 30)]) 7 hM rfl (show vp_in a0 (K.2.2 30) from hq57) ?_
                  obtain ⟨v58, hv59, h⟩ := px_let_some h
                  rw [← hv59]
                  obtain ⟨hq60, h⟩ := px_gd_some h
                  refine px_blk (i' := 92) (L' := [some (.ref 28), some (.int a0), some (.int a1), some (.ref 40), some (.int a2), some (.int v58), none]) (S' := []) (w' := px_w K (sA s55 31 v58.toNatClampNeg a1) t49) (q := [vp_in v58 (K.2.2 31)]) 5 hM rfl (show vp_in v58 (K.2.2 31) from hq60) ?_
                  obtain ⟨s61, hs62, h⟩ := px_let_some h
                  rw [← hs62]
                  refine px_blk (i' := 94) (L' := [some (.ref 28), some (.int a0), some (.int a1), some (.ref 40), some (.int a2), some (.int v58), some (.int (0 : Int32))]) (S' := []) (w' := px_w K s61 t49) (q := []) 2 hM rfl trivial ?_
                  rcases px_lp_some h with ⟨i63, vs64, s65, t66, hl67, h⟩ | ⟨z68, hl67, h⟩
                  · by_cases hi69 : i63 = 112
                    · subst hi69
                      rw [if_pos rfl] at h
                      have h9 := px_v0_some h
                      clear h
                      obtain ⟨rfl, h⟩ := h9
                      refine px_E_le (px_leC_L _ _ (by simp [px_leC, px_le1, Value.category])) (e_l_M_write_28_40_94 K N a0 a2 v58 N (0 : Int32) s61 t49 _ hl67 _ _ ?_)
                      show px_E px_ET px_P 5 29 112 [some (.ref 28), some (.int a0), none, none, none, none, none] [] (px_w K s65 t66) _ _
                      obtain ⟨⟨hq70, hq71⟩, h⟩ := px_gd_some h
                      refine px_blk (i' := 120) (L' := [some (.ref 28), some (.int a0), none, none, none, none, none]) (S' := []) (w' := px_w K (sA s65 30 a0.toNatClampNeg (((s65.2.2.1 30) a0.toNatClampNeg) + (1 : Int32))) t66) (q := [vp_in a0 (K.2.2 30), vp_in a0 (K.2.2 30)]) 8 hM rfl (show (vp_in a0 (K.2.2 30)) ∧ (vp_in a0 (K.2.2 30)) from ⟨hq70, hq71⟩) ?_
                      obtain ⟨s72, hs73, h⟩ := px_let_some h
                      rw [← hs73]
                      cases h
                      exact px_E_ret hM rfl rfl rfl trivial
                    · rw [if_neg hi69] at h
                      cases h
                  · cases h
                    exact px_E_le (px_leC_L _ _ (by simp [px_leC, px_le1, Value.category])) (e_l_M_write_28_40_94 K N a0 a2 v58 N (0 : Int32) s61 t49 _ hl67 _ _ ⟨rfl, rfl⟩)
                · rw [if_neg hi52] at h
                  cases h
              · cases h
                exact e_l_M_write_28_40_51 K N a0 a1 a2 v11 N v44 s39 t40 _ hl50 _ _ ⟨rfl, rfl⟩
            · rw [if_neg hi43] at h
              cases h
          · cases h
            exact e_l_M_write_28_40_28 K N a0 a1 a2 v11 N v11 s32 t33 _ hl41 _ _ ⟨rfl, rfl⟩
        · cases h
    · rw [if_neg hc6] at h
      cases h
      exact px_E_ret hM rfl rfl rfl trivial
  · cases h
noncomputable def l_M_writeVolume_28_40_48 (K : px_K) (N : Nat) (n : Nat) (u1 : Int32) (u3 : Int32) (m4 : Int32) (s : px_S) (t : px_W) : Option px_LO := match n with
  | 0 => none
  | n + 1 => (if 0 ≤ m4 then (some (.inl (81, [m4], s, t))) else (if (s.1 29) = 0 then (some (.inl (81, [m4], s, t))) else (px_gd (¬ (s.1 26) = 0) (px_bi (f_M_hasClosed_28 K N (u1 - u1 / (s.1 26) * (s.1 26)) s t) (fun v7 s4 t5 => (if ¬ v7 = 0 then (px_bi (f_M_land1_28 K N s4 t5) (fun v13 s10 t11 => (px_bi (f_M_cleanOf_28 K N u1 s10 t11) (fun v18 s15 t16 => (if 0 ≤ v18 then (l_M_writeVolume_28_40_48 K N n u1 u3 v18 s15 t16) else (px_gd (¬ (s15.1 26) = 0) (px_bi (f_M_find_28 K N (u1 - u1 / (s15.1 26) * (s15.1 26)) s15 t16) (fun v25 s22 t23 => (l_M_writeVolume_28_40_48 K N n u1 u3 v25 s22 t23)) (fun x26 s22 t23 => none))))) (fun x19 s15 t16 => none))) (fun x14 s10 t11 => none)) else (px_bv (f_M_close_28 K N s4 t5) (fun s27 t28 => (px_bi (f_M_land1_28 K N s27 t28) (fun v35 s32 t33 => (px_bi (f_M_cleanOf_28 K N u1 s32 t33) (fun v40 s37 t38 => (if 0 ≤ v40 then (l_M_writeVolume_28_40_48 K N n u1 u3 v40 s37 t38) else (px_gd (¬ (s37.1 26) = 0) (px_bi (f_M_find_28 K N (u1 - u1 / (s37.1 26) * (s37.1 26)) s37 t38) (fun v47 s44 t45 => (l_M_writeVolume_28_40_48 K N n u1 u3 v47 s44 t45)) (fun x48 s44 t45 => none))))) (fun x41 s37 t38 => none))) (fun x36 s32 t33 => none))) (fun x31 s27 t28 => none)))) (fun x8 s4 t5 => none)))))
def a_l_M_writeVolume_28_40_48 (K : px_K) (u1 : Int32) (u3 : Int32) (z : px_LO) (o : Option Value ⊕ Nat) (w2 : px_W) : Prop := match z with
  | .inr (o', s', t') => o = o' ∧ w2 = px_w K s' t'
  | .inl (81, [y4], s', t') => px_E px_ET px_P 9 41 81 [some (.ref 28), some (.int u1), some (.ref 40), some (.int u3), some (.int y4), none] [] (px_w K s' t') o w2
  | _ => False
set_option maxRecDepth 100000 in
theorem e_l_M_writeVolume_28_40_48 (K : px_K) (N : Nat) (u1 : Int32) (u3 : Int32) : ∀ (n : Nat) (m4 : Int32) (s : px_S) (t : px_W) (z : px_LO), l_M_writeVolume_28_40_48 K N n u1 u3 m4 s t = some z → ∀ (o : Option Value ⊕ Nat) (w2 : px_W), a_l_M_writeVolume_28_40_48 K u1 u3 z o w2 → px_E px_ET px_P 9 41 48 [some (.ref 28), some (.int u1), some (.ref 40), some (.int u3), some (.int m4), none] [] (px_w K s t) o w2 := by
  have hM : px_P[41]? = some pm_M_writeVolume := rfl
  intro n
  induction n with
  | zero => intro m4 s t z h; cases h
  | succ n ih =>
    intro m4 s t z h o w2 ha
    unfold l_M_writeVolume_28_40_48 at h
    refine px_blkif (c := 0 ≤ m4) (t := 81) (e := 50) (L' := [some (.ref 28), some (.int u1), some (.ref 40), some (.int u3), some (.int m4), none]) (S' := []) (w' := px_w K s t) (q := []) 2 hM rfl trivial (fun hc1 => ?_) (fun hc1 => ?_)
    · rw [if_pos hc1] at h
      cases h
      exact px_E_le (px_leC_L _ _ (by simp [px_leC, px_le1, Value.category])) ha
    · rw [if_neg hc1] at h
      refine px_blkif (c := (s.1 29) = 0) (t := 81) (e := 53) (L' := [some (.ref 28), some (.int u1), some (.ref 40), some (.int u3), some (.int m4), none]) (S' := []) (w' := px_w K s t) (q := []) 3 hM rfl trivial (fun hc2 => ?_) (fun hc2 => ?_)
      · rw [if_pos hc2] at h
        cases h
        exact px_E_le (px_leC_L _ _ (by simp [px_leC, px_le1, Value.category])) ha
      · rw [if_neg hc2] at h
        obtain ⟨hq3, h⟩ := px_gd_some h
        refine px_blk (i' := 58) (L' := [some (.ref 28), some (.int u1), some (.ref 40), some (.int u3), some (.int m4), none]) (S' := [.int (u1 - u1 / (s.1 26) * (s.1 26)), .ref 28]) (w' := px_w K s t) (q := [¬ (s.1 26) = 0]) 5 hM rfl (show ¬ (s.1 26) = 0 from hq3) ?_
        rcases px_bi_some h with ⟨v7, s4, t5, hk6, h⟩ | ⟨x8, s4, t5, hk6, h⟩
        · refine px_E_call hM rfl rfl rfl rfl (px_E_mono (by decide) (e_M_hasClosed_28 K N (u1 - u1 / (s.1 26) * (s.1 26)) s t _ hk6)) ?_
          refine px_blkif (c := ¬ v7 = 0) (t := 62) (e := 60) (L' := [some (.ref 28), some (.int u1), some (.ref 40), some (.int u3), some (.int m4), none]) (S' := []) (w' := px_w K s4 t5) (q := []) 1 hM rfl trivial (fun hc9 => ?_) (fun hc9 => ?_)
          · rw [if_pos hc9] at h
            refine px_blk (i' := 63) (L' := [some (.ref 28), some (.int u1), some (.ref 40), some (.int u3), some (.int m4), none]) (S' := [.ref 28]) (w' := px_w K s4 t5) (q := []) 1 hM rfl trivial ?_
            rcases px_bi_some h with ⟨v13, s10, t11, hk12, h⟩ | ⟨x14, s10, t11, hk12, h⟩
            · refine px_E_call hM rfl rfl rfl rfl (px_E_mono (by decide) (e_M_land1_28 K N s4 t5 _ hk12)) ?_
              refine px_blk (i' := 67) (L' := [some (.ref 28), some (.int u1), some (.ref 40), some (.int u3), some (.int m4), some (.int v13)]) (S' := [.int u1, .ref 28]) (w' := px_w K s10 t11) (q := []) 3 hM rfl trivial ?_
              rcases px_bi_some h with ⟨v18, s15, t16, hk17, h⟩ | ⟨x19, s15, t16, hk17, h⟩
              · refine px_E_call hM rfl rfl rfl rfl (px_E_mono (by decide) (e_M_cleanOf_28 K N u1 s10 t11 _ hk17)) ?_
                refine px_blkif (c := 0 ≤ v18) (t := 78) (e := 71) (L' := [some (.ref 28), some (.int u1), some (.ref 40), some (.int u3), some (.int v18), some (.int v13)]) (S' := []) (w' := px_w K s15 t16) (q := []) 3 hM rfl trivial (fun hc20 => ?_) (fun hc20 => ?_)
                · rw [if_pos hc20] at h
                  refine px_blk (i' := 48) (L' := [some (.ref 28), some (.int u1), some (.ref 40), some (.int u3), some (.int v18), some (.int v13)]) (S' := []) (w' := px_w K s15 t16) (q := []) 3 hM rfl trivial ?_
                  exact px_E_le (px_leC_L _ _ (by simp [px_leC, px_le1, Value.category])) (ih v18 s15 t16 z h o w2 ha)
                · rw [if_neg hc20] at h
                  obtain ⟨hq21, h⟩ := px_gd_some h
                  refine px_blk (i' := 76) (L' := [some (.ref 28), some (.int u1), some (.ref 40), some (.int u3), some (.int v18), some (.int v13)]) (S' := [.int (u1 - u1 / (s15.1 26) * (s15.1 26)), .ref 28]) (w' := px_w K s15 t16) (q := [¬ (s15.1 26) = 0]) 5 hM rfl (show ¬ (s15.1 26) = 0 from hq21) ?_
                  rcases px_bi_some h with ⟨v25, s22, t23, hk24, h⟩ | ⟨x26, s22, t23, hk24, h⟩
                  · refine px_E_call hM rfl rfl rfl rfl (px_E_mono (by decide) (e_M_find_28 K N (u1 - u1 / (s15.1 26) * (s15.1 26)) s15 t16 _ hk24)) ?_
                    refine px_blk (i' := 48) (L' := [some (.ref 28), some (.int u1), some (.ref 40), some (.int u3), some (.int v25), some (.int v13)]) (S' := []) (w' := px_w K s22 t23) (q := []) 3 hM rfl trivial ?_
                    exact px_E_le (px_leC_L _ _ (by simp [px_leC, px_le1, Value.category])) (ih v25 s22 t23 z h o w2 ha)
                  · cases h
              · cases h
            · cases h
          · rw [if_neg hc9] at h
            refine px_blk (i' := 61) (L' := [some (.ref 28), some (.int u1), some (.ref 40), some (.int u3), some (.int m4), none]) (S' := [.ref 28]) (w' := px_w K s4 t5) (q := []) 1 hM rfl trivial ?_
            rcases px_bv_some h with ⟨s27, t28, hk29, h⟩ | ⟨x31, s27, t28, hk29, h⟩
            · refine px_E_call hM rfl rfl rfl rfl (px_E_mono (by decide) (e_M_close_28 K N s4 t5 _ hk29)) ?_
              refine px_blk (i' := 63) (L' := [some (.ref 28), some (.int u1), some (.ref 40), some (.int u3), some (.int m4), none]) (S' := [.ref 28]) (w' := px_w K s27 t28) (q := []) 1 hM rfl trivial ?_
              rcases px_bi_some h with ⟨v35, s32, t33, hk34, h⟩ | ⟨x36, s32, t33, hk34, h⟩
              · refine px_E_call hM rfl rfl rfl rfl (px_E_mono (by decide) (e_M_land1_28 K N s27 t28 _ hk34)) ?_
                refine px_blk (i' := 67) (L' := [some (.ref 28), some (.int u1), some (.ref 40), some (.int u3), some (.int m4), some (.int v35)]) (S' := [.int u1, .ref 28]) (w' := px_w K s32 t33) (q := []) 3 hM rfl trivial ?_
                rcases px_bi_some h with ⟨v40, s37, t38, hk39, h⟩ | ⟨x41, s37, t38, hk39, h⟩
                · refine px_E_call hM rfl rfl rfl rfl (px_E_mono (by decide) (e_M_cleanOf_28 K N u1 s32 t33 _ hk39)) ?_
                  refine px_blkif (c := 0 ≤ v40) (t := 78) (e := 71) (L' := [some (.ref 28), some (.int u1), some (.ref 40), some (.int u3), some (.int v40), some (.int v35)]) (S' := []) (w' := px_w K s37 t38) (q := []) 3 hM rfl trivial (fun hc42 => ?_) (fun hc42 => ?_)
                  · rw [if_pos hc42] at h
                    refine px_blk (i' := 48) (L' := [some (.ref 28), some (.int u1), some (.ref 40), some (.int u3), some (.int v40), some (.int v35)]) (S' := []) (w' := px_w K s37 t38) (q := []) 3 hM rfl trivial ?_
                    exact px_E_le (px_leC_L _ _ (by simp [px_leC, px_le1, Value.category])) (ih v40 s37 t38 z h o w2 ha)
                  · rw [if_neg hc42] at h
                    obtain ⟨hq43, h⟩ := px_gd_some h
                    refine px_blk (i' := 76) (L' := [some (.ref 28), some (.int u1), some (.ref 40), some (.int u3), some (.int v40), some (.int v35)]) (S' := [.int (u1 - u1 / (s37.1 26) * (s37.1 26)), .ref 28]) (w' := px_w K s37 t38) (q := [¬ (s37.1 26) = 0]) 5 hM rfl (show ¬ (s37.1 26) = 0 from hq43) ?_
                    rcases px_bi_some h with ⟨v47, s44, t45, hk46, h⟩ | ⟨x48, s44, t45, hk46, h⟩
                    · refine px_E_call hM rfl rfl rfl rfl (px_E_mono (by decide) (e_M_find_28 K N (u1 - u1 / (s37.1 26) * (s37.1 26)) s37 t38 _ hk46)) ?_
                      refine px_blk (i' := 48) (L' := [some (.ref 28), some (.int u1), some (.ref 40), some (.int u3), some (.int v47), some (.int v35)]) (S' := []) (w' := px_w K s44 t45) (q := []) 3 hM rfl trivial ?_
                      exact px_E_le (px_leC_L _ _ (by simp [px_leC, px_le1, Value.category])) (ih v47 s44 t45 z h o w2 ha)
                    · cases h
                · cases h
              · cases h
            · cases h
        · cases h
noncomputable def f_M_writeVolume_28_40 (K : px_K) (N : Nat) (a0 : Int32) (a1 : Int32) (s : px_S) (t : px_W) : Option px_Res :=
  (if ¬ (s.1 31) = 0 then (px_bi (f_M_newest_28 K N a0 s t) (fun v5 s2 t3 => (if v5 < 0 then (px_bi (f_M_dirtyOf_28 K N (s2.1 32) s2 t3) (fun v11 s8 t9 => (if ¬ v11 = (16 : Int32) then (px_bi (f_M_cleanOf_28 K N a0 s8 t9) (fun v17 s14 t15 => (if 0 ≤ v17 then (px_lp (l_M_writeVolume_28_40_48 K N N a0 a1 v17 s14 t15) (fun i20 vs21 s22 t23 => (if i20 = 81 then (px_v1 vs21 (fun y26 => (if 0 ≤ y26 then (px_gd (vp_in y26 (K.2.2 35)) (px_let (sA s22 35 y26.toNatClampNeg a0) (fun s30 => (px_gd (vp_in y26 (K.2.2 36)) (px_let (sA s30 36 y26.toNatClampNeg (s30.1 32)) (fun s33 => (px_gd (vp_in y26 (K.2.2 37)) (px_let (sA s33 37 y26.toNatClampNeg (1 : Int32)) (fun s36 => (px_bv (f_M_write_28_40 K N (1 : Int32) ((50 : Int32) + y26) a1 s36 t23) (fun s38 t39 => (some (.inl none, s38, t39))) (fun x42 s38 t39 => none))))))))))) else (some (.inl none, s22, t23))))) else none)) (fun z25 => some z25)) else (px_gd (¬ (s14.1 26) = 0) (px_bi (f_M_find_28 K N (a0 - a0 / (s14.1 26) * (s14.1 26)) s14 t15) (fun v47 s44 t45 => (px_lp (l_M_writeVolume_28_40_48 K N N a0 a1 v47 s44 t45) (fun i49 vs50 s51 t52 => (if i49 = 81 then (px_v1 vs50 (fun y55 => (if 0 ≤ y55 then (px_gd (vp_in y55 (K.2.2 35)) (px_let (sA s51 35 y55.toNatClampNeg a0) (fun s59 => (px_gd (vp_in y55 (K.2.2 36)) (px_let (sA s59 36 y55.toNatClampNeg (s59.1 32)) (fun s62 => (px_gd (vp_in y55 (K.2.2 37)) (px_let (sA s62 37 y55.toNatClampNeg (1 : Int32)) (fun s65 => (px_bv (f_M_write_28_40 K N (1 : Int32) ((50 : Int32) + y55) a1 s65 t52) (fun s67 t68 => (some (.inl none, s67, t68))) (fun x71 s67 t68 => none))))))))))) else (some (.inl none, s51, t52))))) else none)) (fun z54 => some z54))) (fun x48 s44 t45 => none))))) (fun x18 s14 t15 => none)) else (px_bv (f_M_close_28 K N s8 t9) (fun s72 t73 => (px_bi (f_M_cleanOf_28 K N a0 s72 t73) (fun v80 s77 t78 => (if 0 ≤ v80 then (px_lp (l_M_writeVolume_28_40_48 K N N a0 a1 v80 s77 t78) (fun i83 vs84 s85 t86 => (if i83 = 81 then (px_v1 vs84 (fun y89 => (if 0 ≤ y89 then (px_gd (vp_in y89 (K.2.2 35)) (px_let (sA s85 35 y89.toNatClampNeg a0) (fun s93 => (px_gd (vp_in y89 (K.2.2 36)) (px_let (sA s93 36 y89.toNatClampNeg (s93.1 32)) (fun s96 => (px_gd (vp_in y89 (K.2.2 37)) (px_let (sA s96 37 y89.toNatClampNeg (1 : Int32)) (fun s99 => (px_bv (f_M_write_28_40 K N (1 : Int32) ((50 : Int32) + y89) a1 s99 t86) (fun s101 t102 => (some (.inl none, s101, t102))) (fun x105 s101 t102 => none))))))))))) else (some (.inl none, s85, t86))))) else none)) (fun z88 => some z88)) else (px_gd (¬ (s77.1 26) = 0) (px_bi (f_M_find_28 K N (a0 - a0 / (s77.1 26) * (s77.1 26)) s77 t78) (fun v110 s107 t108 => (px_lp (l_M_writeVolume_28_40_48 K N N a0 a1 v110 s107 t108) (fun i112 vs113 s114 t115 => (if i112 = 81 then (px_v1 vs113 (fun y118 => (if 0 ≤ y118 then (px_gd (vp_in y118 (K.2.2 35)) (px_let (sA s114 35 y118.toNatClampNeg a0) (fun s122 => (px_gd (vp_in y118 (K.2.2 36)) (px_let (sA s122 36 y118.toNatClampNeg (s122.1 32)) (fun s125 => (px_gd (vp_in y118 (K.2.2 37)) (px_let (sA s125 37 y118.toNatClampNeg (1 : Int32)) (fun s128 => (px_bv (f_M_write_28_40 K N (1 : Int32) ((50 : Int32) + y118) a1 s128 t115) (fun s130 t131 => (some (.inl none, s130, t131))) (fun x134 s130 t131 => none))))))))))) else (some (.inl none, s114, t115))))) else none)) (fun z117 => some z117))) (fun x111 s107 t108 => none))))) (fun x81 s77 t78 => none))) (fun x76 s72 t73 => none)))) (fun x12 s8 t9 => none)) else (px_gd (vp_in v5 (K.2.2 36)) (if ((s2.2.2.1 36) v5.toNatClampNeg) = (s2.1 32) then (px_bv (f_M_write_28_40 K N (1 : Int32) ((50 : Int32) + v5) a1 s2 t3) (fun s137 t138 => (some (.inl none, s137, t138))) (fun x141 s137 t138 => none)) else (px_bi (f_M_dirtyOf_28 K N (s2.1 32) s2 t3) (fun v145 s142 t143 => (if ¬ v145 = (16 : Int32) then (px_bi (f_M_cleanOf_28 K N a0 s142 t143) (fun v151 s148 t149 => (if 0 ≤ v151 then (px_lp (l_M_writeVolume_28_40_48 K N N a0 a1 v151 s148 t149) (fun i154 vs155 s156 t157 => (if i154 = 81 then (px_v1 vs155 (fun y160 => (if 0 ≤ y160 then (px_gd (vp_in y160 (K.2.2 35)) (px_let (sA s156 35 y160.toNatClampNeg a0) (fun s164 => (px_gd (vp_in y160 (K.2.2 36)) (px_let (sA s164 36 y160.toNatClampNeg (s164.1 32)) (fun s167 => (px_gd (vp_in y160 (K.2.2 37)) (px_let (sA s167 37 y160.toNatClampNeg (1 : Int32)) (fun s170 => (px_bv (f_M_write_28_40 K N (1 : Int32) ((50 : Int32) + y160) a1 s170 t157) (fun s172 t173 => (some (.inl none, s172, t173))) (fun x176 s172 t173 => none))))))))))) else (some (.inl none, s156, t157))))) else none)) (fun z159 => some z159)) else (px_gd (¬ (s148.1 26) = 0) (px_bi (f_M_find_28 K N (a0 - a0 / (s148.1 26) * (s148.1 26)) s148 t149) (fun v181 s178 t179 => (px_lp (l_M_writeVolume_28_40_48 K N N a0 a1 v181 s178 t179) (fun i183 vs184 s185 t186 => (if i183 = 81 then (px_v1 vs184 (fun y189 => (if 0 ≤ y189 then (px_gd (vp_in y189 (K.2.2 35)) (px_let (sA s185 35 y189.toNatClampNeg a0) (fun s193 => (px_gd (vp_in y189 (K.2.2 36)) (px_let (sA s193 36 y189.toNatClampNeg (s193.1 32)) (fun s196 => (px_gd (vp_in y189 (K.2.2 37)) (px_let (sA s196 37 y189.toNatClampNeg (1 : Int32)) (fun s199 => (px_bv (f_M_write_28_40 K N (1 : Int32) ((50 : Int32) + y189) a1 s199 t186) (fun s201 t202 => (some (.inl none, s201, t202))) (fun x205 s201 t202 => none))))))))))) else (some (.inl none, s185, t186))))) else none)) (fun z188 => some z188))) (fun x182 s178 t179 => none))))) (fun x152 s148 t149 => none)) else (px_bv (f_M_close_28 K N s142 t143) (fun s206 t207 => (px_bi (f_M_cleanOf_28 K N a0 s206 t207) (fun v214 s211 t212 => (if 0 ≤ v214 then (px_lp (l_M_writeVolume_28_40_48 K N N a0 a1 v214 s211 t212) (fun i217 vs218 s219 t220 => (if i217 = 81 then (px_v1 vs218 (fun y223 => (if 0 ≤ y223 then (px_gd (vp_in y223 (K.2.2 35)) (px_let (sA s219 35 y223.toNatClampNeg a0) (fun s227 => (px_gd (vp_in y223 (K.2.2 36)) (px_let (sA s227 36 y223.toNatClampNeg (s227.1 32)) (fun s230 => (px_gd (vp_in y223 (K.2.2 37)) (px_let (sA s230 37 y223.toNatClampNeg (1 : Int32)) (fun s233 => (px_bv (f_M_write_28_40 K N (1 : Int32) ((50 : Int32) + y223) a1 s233 t220) (fun s235 t236 => (some (.inl none, s235, t236))) (fun x239 s235 t236 => none))))))))))) else (some (.inl none, s219, t220))))) else none)) (fun z222 => some z222)) else (px_gd (¬ (s211.1 26) = 0) (px_bi (f_M_find_28 K N (a0 - a0 / (s211.1 26) * (s211.1 26)) s211 t212) (fun v244 s241 t242 => (px_lp (l_M_writeVolume_28_40_48 K N N a0 a1 v244 s241 t242) (fun i246 vs247 s248 t249 => (if i246 = 81 then (px_v1 vs247 (fun y252 => (if 0 ≤ y252 then (px_gd (vp_in y252 (K.2.2 35)) (px_let (sA s248 35 y252.toNatClampNeg a0) (fun s256 => (px_gd (vp_in y252 (K.2.2 36)) (px_let (sA s256 36 y252.toNatClampNeg (s256.1 32)) (fun s259 => (px_gd (vp_in y252 (K.2.2 37)) (px_let (sA s259 37 y252.toNatClampNeg (1 : Int32)) (fun s262 => (px_bv (f_M_write_28_40 K N (1 : Int32) ((50 : Int32) + y252) a1 s262 t249) (fun s264 t265 => (some (.inl none, s264, t265))) (fun x268 s264 t265 => none))))))))))) else (some (.inl none, s248, t249))))) else none)) (fun z251 => some z251))) (fun x245 s241 t242 => none))))) (fun x215 s211 t212 => none))) (fun x210 s206 t207 => none)))) (fun x146 s142 t143 => none)))))) (fun x6 s2 t3 => none)) else (px_bv (f_M_write_28_40 K N (0 : Int32) ((19 : Int32) + a0) a1 s t) (fun s269 t270 => (some (.inl none, s269, t270))) (fun x273 s269 t270 => none)))
set_option maxRecDepth 100000 in
theorem e_M_writeVolume_28_40 (K : px_K) (N : Nat) (a0 : Int32) (a1 : Int32) (s : px_S) (t : px_W) (r : px_Res) (h : f_M_writeVolume_28_40 K N a0 a1 s t = some r) : px_E px_ET px_P 9 41 0 (px_ent 6 [.ref 28, .int a0, .ref 40, .int a1]) [] (px_w K s t) r.1 (px_w K r.2.1 r.2.2) := by
  have hM : px_P[41]? = some pm_M_writeVolume := rfl
  unfold f_M_writeVolume_28_40 at h
  refine px_blkif (c := ¬ (s.1 31) = 0) (t := 12) (e := 3) (L' := [some (.ref 28), some (.int a0), some (.ref 40), some (.int a1), none, none]) (S' := []) (w' := px_w K s t) (q := []) 3 hM rfl trivial (fun hc1 => ?_) (fun hc1 => ?_)
  · rw [if_pos hc1] at h
    refine px_blk (i' := 14) (L' := [some (.ref 28), some (.int a0), some (.ref 40), some (.int a1), none, none]) (S' := [.int a0, .ref 28]) (w' := px_w K s t) (q := []) 2 hM rfl trivial ?_
    rcases px_bi_some h with ⟨v5, s2, t3, hk4, h⟩ | ⟨x6, s2, t3, hk4, h⟩
    · refine px_E_call hM rfl rfl rfl rfl (px_E_mono (by decide) (e_M_newest_28 K N a0 s t _ hk4)) ?_
      refine px_blkif (c := v5 < 0) (t := 25) (e := 18) (L' := [some (.ref 28), some (.int a0), some (.ref 40), some (.int a1), some (.int v5), none]) (S' := []) (w' := px_w K s2 t3) (q := []) 3 hM rfl trivial (fun hc7 => ?_) (fun hc7 => ?_)
      · rw [if_pos hc7] at h
        refine px_blk (i' := 28) (L' := [some (.ref 28), some (.int a0), some (.ref 40), some (.int a1), some (.int v5), none]) (S' := [.int (s2.1 32), .ref 28]) (w' := px_w K s2 t3) (q := []) 3 hM rfl trivial ?_
        rcases px_bi_some h with ⟨v11, s8, t9, hk10, h⟩ | ⟨x12, s8, t9, hk10, h⟩
        · refine px_E_call hM rfl rfl rfl rfl (px_E_mono (by decide) (e_M_dirtyOf_28 K N (s2.1 32) s2 t3 _ hk10)) ?_
          refine px_blkif (c := ¬ v11 = (16 : Int32)) (t := 33) (e := 31) (L' := [some (.ref 28), some (.int a0), some (.ref 40), some (.int a1), some (.int v5), none]) (S' := []) (w' := px_w K s8 t9) (q := []) 2 hM rfl trivial (fun hc13 => ?_) (fun hc13 => ?_)
          · rw [if_pos hc13] at h
            refine px_blk (i' := 35) (L' := [some (.ref 28), some (.int a0), some (.ref 40), some (.int a1), some (.int v5), none]) (S' := [.int a0, .ref 28]) (w' := px_w K s8 t9) (q := []) 2 hM rfl trivial ?_
            rcases px_bi_some h with ⟨v17, s14, t15, hk16, h⟩ | ⟨x18, s14, t15, hk16, h⟩
            · refine px_E_call hM rfl rfl rfl rfl (px_E_mono (by decide) (e_M_cleanOf_28 K N a0 s8 t9 _ hk16)) ?_
              refine px_blkif (c := 0 ≤ v17) (t := 46) (e := 39) (L' := [some (.ref 28), some (.int a0), some (.ref 40), some (.int a1), some (.int v17), none]) (S' := []) (w' := px_w K s14 t15) (q := []) 3 hM rfl trivial (fun hc19 => ?_) (fun hc19 => ?_)
              · rw [if_pos hc19] at h
                refine px_blk (i' := 48) (L' := [some (.ref 28), some (.int a0), some (.ref 40), some (.int a1), some (.int v17), none]) (S' := []) (w' := px_w K s14 t15) (q := []) 2 hM rfl trivial ?_
                rcases px_lp_some h with ⟨i20, vs21, s22, t23, hl24, h⟩ | ⟨z25, hl24, h⟩
                · by_cases hi27 : i20 = 81
                  · subst hi27
                    rw [if_pos rfl] at h
                    have h9 := px_v1_some h
                    clear h
                    obtain ⟨y26, rfl, h⟩ := h9
                    refine e_l_M_writeVolume_28_40_48 K N a0 a1 N v17 s14 t15 _ hl24 _ _ ?_
                    show px_E px_ET px_P 9 41 81 [some (.ref 28), some (.int a0), some (.ref 40), some (.int a1), some (.int y26), none] [] (px_w K s22 t23) _ _
                    refine px_blkif (c := 0 ≤ y26) (t := 84) (e := 83) (L' := [some (.ref 28), some (.int a0), some (.ref 40), some (.int a1), some (.int y26), none]) (S' := []) (w' := px_w K s22 t23) (q := []) 2 hM rfl trivial (fun hc28 => ?_) (fun hc28 => ?_)
                    · rw [if_pos hc28] at h
                      obtain ⟨hq29, h⟩ := px_gd_some h
                      refine px_blk (i' := 89) (L' := [some (.ref 28), some (.int a0), some (.ref 40), some (.int a1), some (.int y26), none]) (S' := []) (w' := px_w K (sA s22 35 y26.toNatClampNeg a0) t23) (q := [vp_in y26 (K.2.2 35)]) 5 hM rfl (show vp_in y26 (K.2.2 35) from hq29) ?_
                      obtain ⟨s30, hs31, h⟩ := px_let_some h
                      rw [← hs31]
                      obtain ⟨hq32, h⟩ := px_gd_some h
                      refine px_blk (i' := 95) (L' := [some (.ref 28), some (.int a0), some (.ref 40), some (.int a1), some (.int y26), none]) (S' := []) (w' := px_w K (sA s30 36 y26.toNatClampNeg (s30.1 32)) t23) (q := [vp_in y26 (K.2.2 36)]) 6 hM rfl (show vp_in y26 (K.2.2 36) from hq32) ?_
                      obtain ⟨s33, hs34, h⟩ := px_let_some h
                      rw [← hs34]
                      obtain ⟨hq35, h⟩ := px_gd_some h
                      refine px_blk (i' := 100) (L' := [some (.ref 28), some (.int a0), some (.ref 40), some (.int a1), some (.int y26), none]) (S' := []) (w' := px_w K (sA s33 37 y26.toNatClampNeg (1 : Int32)) t23) (q := [vp_in y26 (K.2.2 37), (1 : Int32) = 0 ∨ (1 : Int32) = 1]) 5 hM rfl (show (vp_in y26 (K.2.2 37)) ∧ ((1 : Int32) = 0 ∨ (1 : Int32) = 1) from ⟨hq35, Or.inr rfl⟩) ?_
                      obtain ⟨s36, hs37, h⟩ := px_let_some h
                      rw [← hs37]
                      refine px_blk (i' := 107) (L' := [some (.ref 28), some (.int a0), some (.ref 40), some (.int a1), some (.int y26), none]) (S' := [.int a1, .ref 40, .int ((50 : Int32) + y26), .int (1 : Int32), .ref 28]) (w' := px_w K s36 t23) (q := []) 7 hM rfl trivial ?_
                      rcases px_bv_some h with ⟨s38, t39, hk40, h⟩ | ⟨x42, s38, t39, hk40, h⟩
                      · refine px_E_call hM rfl rfl rfl rfl (px_E_mono (by decide) (e_M_write_28_40 K N (1 : Int32) ((50 : Int32) + y26) a1 s36 t23 _ hk40)) ?_
                        cases h
                        exact px_E_ret hM rfl rfl rfl trivial
                      · cases h
                    · rw [if_neg hc28] at h
                      cases h
                      exact px_E_ret hM rfl rfl rfl trivial
                  · rw [if_neg hi27] at h
                    cases h
                · cases h
                  exact e_l_M_writeVolume_28_40_48 K N a0 a1 N v17 s14 t15 _ hl24 _ _ ⟨rfl, rfl⟩
              · rw [if_neg hc19] at h
                obtain ⟨hq43, h⟩ := px_gd_some h
                refine px_blk (i' := 44) (L' := [some (.ref 28), some (.int a0), some (.ref 40), some (.int a1), some (.int v17), none]) (S' := [.int (a0 - a0 / (s14.1 26) * (s14.1 26)), .ref 28]) (w' := px_w K s14 t15) (q := [¬ (s14.1 26) = 0]) 5 hM rfl (show ¬ (s14.1 26) = 0 from hq43) ?_
                rcases px_bi_some h with ⟨v47, s44, t45, hk46, h⟩ | ⟨x48, s44, t45, hk46, h⟩
                · refine px_E_call hM rfl rfl rfl rfl (px_E_mono (by decide) (e_M_find_28 K N (a0 - a0 / (s14.1 26) * (s14.1 26)) s14 t15 _ hk46)) ?_
                  refine px_blk (i' := 48) (L' := [some (.ref 28), some (.int a0), some (.ref 40), some (.int a1), some (.int v47), none]) (S' := []) (w' := px_w K s44 t45) (q := []) 2 hM rfl trivial ?_
                  rcases px_lp_some h with ⟨i49, vs50, s51, t52, hl53, h⟩ | ⟨z54, hl53, h⟩
                  · by_cases hi56 : i49 = 81
                    · subst hi56
                      rw [if_pos rfl] at h
                      have h9 := px_v1_some h
                      clear h
                      obtain ⟨y55, rfl, h⟩ := h9
                      refine e_l_M_writeVolume_28_40_48 K N a0 a1 N v47 s44 t45 _ hl53 _ _ ?_
                      show px_E px_ET px_P 9 41 81 [some (.ref 28), some (.int a0), some (.ref 40), some (.int a1), some (.int y55), none] [] (px_w K s51 t52) _ _
                      refine px_blkif (c := 0 ≤ y55) (t := 84) (e := 83) (L' := [some (.ref 28), some (.int a0), some (.ref 40), some (.int a1), some (.int y55), none]) (S' := []) (w' := px_w K s51 t52) (q := []) 2 hM rfl trivial (fun hc57 => ?_) (fun hc57 => ?_)
                      · rw [if_pos hc57] at h
                        obtain ⟨hq58, h⟩ := px_gd_some h
                        refine px_blk (i' := 89) (L' := [some (.ref 28), some (.int a0), some (.ref 40), some (.int a1), some (.int y55), none]) (S' := []) (w' := px_w K (sA s51 35 y55.toNatClampNeg a0) t52) (q := [vp_in y55 (K.2.2 35)]) 5 hM rfl (show vp_in y55 (K.2.2 35) from hq58) ?_
                        obtain ⟨s59, hs60, h⟩ := px_let_some h
                        rw [← hs60]
                        obtain ⟨hq61, h⟩ := px_gd_some h
                        refine px_blk (i' := 95) (L' := [some (.ref 28), some (.int a0), some (.ref 40), some (.int a1), some (.int y55), none]) (S' := []) (w' := px_w K (sA s59 36 y55.toNatClampNeg (s59.1 32)) t52) (q := [vp_in y55 (K.2.2 36)]) 6 hM rfl (show vp_in y55 (K.2.2 36) from hq61) ?_
                        obtain ⟨s62, hs63, h⟩ := px_let_some h
                        rw [← hs63]
                        obtain ⟨hq64, h⟩ := px_gd_some h
                        refine px_blk (i' := 100) (L' := [some (.ref 28), some (.int a0), some (.ref 40), some (.int a1), some (.int y55), none]) (S' := []) (w' := px_w K (sA s62 37 y55.toNatClampNeg (1 : Int32)) t52) (q := [vp_in y55 (K.2.2 37), (1 : Int32) = 0 ∨ (1 : Int32) = 1]) 5 hM rfl (show (vp_in y55 (K.2.2 37)) ∧ ((1 : Int32) = 0 ∨ (1 : Int32) = 1) from ⟨hq64, Or.inr rfl⟩) ?_
                        obtain ⟨s65, hs66, h⟩ := px_let_some h
                        rw [← hs66]
                        refine px_blk (i' := 107) (L' := [some (.ref 28), some (.int a0), some (.ref 40), some (.int a1), some (.int y55), none]) (S' := [.int a1, .ref 40, .int ((50 : Int32) + y55), .int (1 : Int32), .ref 28]) (w' := px_w K s65 t52) (q := []) 7 hM rfl trivial ?_
                        rcases px_bv_some h with ⟨s67, t68, hk69, h⟩ | ⟨x71, s67, t68, hk69, h⟩
                        · refine px_E_call hM rfl rfl rfl rfl (px_E_mono (by decide) (e_M_write_28_40 K N (1 : Int32) ((50 : Int32) + y55) a1 s65 t52 _ hk69)) ?_
                          cases h
                          exact px_E_ret hM rfl rfl rfl trivial
                        · cases h
                      · rw [if_neg hc57] at h
                        cases h
                        exact px_E_ret hM rfl rfl rfl trivial
                    · rw [if_neg hi56] at h
                      cases h
                  · cases h
                    exact e_l_M_writeVolume_28_40_48 K N a0 a1 N v47 s44 t45 _ hl53 _ _ ⟨rfl, rfl⟩
                · cases h
            · cases h
          · rw [if_neg hc13] at h
            refine px_blk (i' := 32) (L' := [some (.ref 28), some (.int a0), some (.ref 40), some (.int a1), some (.int v5), none]) (S' := [.ref 28]) (w' := px_w K s8 t9) (q := []) 1 hM rfl trivial ?_
            rcases px_bv_some h with ⟨s72, t73, hk74, h⟩ | ⟨x76, s72, t73, hk74, h⟩
            · refine px_E_call hM rfl rfl rfl rfl (px_E_mono (by decide) (e_M_close_28 K N s8 t9 _ hk74)) ?_
              refine px_blk (i' := 35) (L' := [some (.ref 28), some (.int a0), some (.ref 40), some (.int a1), some (.int v5), none]) (S' := [.int a0, .ref 28]) (w' := px_w K s72 t73) (q := []) 2 hM rfl trivial ?_
              rcases px_bi_some h with ⟨v80, s77, t78, hk79, h⟩ | ⟨x81, s77, t78, hk79, h⟩
              · refine px_E_call hM rfl rfl rfl rfl (px_E_mono (by decide) (e_M_cleanOf_28 K N a0 s72 t73 _ hk79)) ?_
                refine px_blkif (c := 0 ≤ v80) (t := 46) (e := 39) (L' := [some (.ref 28), some (.int a0), some (.ref 40), some (.int a1), some (.int v80), none]) (S' := []) (w' := px_w K s77 t78) (q := []) 3 hM rfl trivial (fun hc82 => ?_) (fun hc82 => ?_)
                · rw [if_pos hc82] at h
                  refine px_blk (i' := 48) (L' := [some (.ref 28), some (.int a0), some (.ref 40), some (.int a1), some (.int v80), none]) (S' := []) (w' := px_w K s77 t78) (q := []) 2 hM rfl trivial ?_
                  rcases px_lp_some h with ⟨i83, vs84, s85, t86, hl87, h⟩ | ⟨z88, hl87, h⟩
                  · by_cases hi90 : i83 = 81
                    · subst hi90
                      rw [if_pos rfl] at h
                      have h9 := px_v1_some h
                      clear h
                      obtain ⟨y89, rfl, h⟩ := h9
                      refine e_l_M_writeVolume_28_40_48 K N a0 a1 N v80 s77 t78 _ hl87 _ _ ?_
                      show px_E px_ET px_P 9 41 81 [some (.ref 28), some (.int a0), some (.ref 40), some (.int a1), some (.int y89), none] [] (px_w K s85 t86) _ _
                      refine px_blkif (c := 0 ≤ y89) (t := 84) (e := 83) (L' := [some (.ref 28), some (.int a0), some (.ref 40), some (.int a1), some (.int y89), none]) (S' := []) (w' := px_w K s85 t86) (q := []) 2 hM rfl trivial (fun hc91 => ?_) (fun hc91 => ?_)
                      · rw [if_pos hc91] at h
                        obtain ⟨hq92, h⟩ := px_gd_some h
                        refine px_blk (i' := 89) (L' := [some (.ref 28), some (.int a0), some (.ref 40), some (.int a1), some (.int y89), none]) (S' := []) (w' := px_w K (sA s85 35 y89.toNatClampNeg a0) t86) (q := [vp_in y89 (K.2.2 35)]) 5 hM rfl (show vp_in y89 (K.2.2 35) from hq92) ?_
                        obtain ⟨s93, hs94, h⟩ := px_let_some h
                        rw [← hs94]
                        obtain ⟨hq95, h⟩ := px_gd_some h
                        refine px_blk (i' := 95) (L' := [some (.ref 28), some (.int a0), some (.ref 40), some (.int a1), some (.int y89), none]) (S' := []) (w' := px_w K (sA s93 36 y89.toNatClampNeg (s93.1 32)) t86) (q := [vp_in y89 (K.2.2 36)]) 6 hM rfl (show vp_in y89 (K.2.2 36) from hq95) ?_
                        obtain ⟨s96, hs97, h⟩ := px_let_some h
                        rw [← hs97]
                        obtain ⟨hq98, h⟩ := px_gd_some h
                        refine px_blk (i' := 100) (L' := [some (.ref 28), some (.int a0), some (.ref 40), some (.int a1), some (.int y89), none]) (S' := []) (w' := px_w K (sA s96 37 y89.toNatClampNeg (1 : Int32)) t86) (q := [vp_in y89 (K.2.2 37), (1 : Int32) = 0 ∨ (1 : Int32) = 1]) 5 hM rfl (show (vp_in y89 (K.2.2 37)) ∧ ((1 : Int32) = 0 ∨ (1 : Int32) = 1) from ⟨hq98, Or.inr rfl⟩) ?_
                        obtain ⟨s99, hs100, h⟩ := px_let_some h
                        rw [← hs100]
                        refine px_blk (i' := 107) (L' := [some (.ref 28), some (.int a0), some (.ref 40), some (.int a1), some (.int y89), none]) (S' := [.int a1, .ref 40, .int ((50 : Int32) + y89), .int (1 : Int32), .ref 28]) (w' := px_w K s99 t86) (q := []) 7 hM rfl trivial ?_
                        rcases px_bv_some h with ⟨s101, t102, hk103, h⟩ | ⟨x105, s101, t102, hk103, h⟩
                        · refine px_E_call hM rfl rfl rfl rfl (px_E_mono (by decide) (e_M_write_28_40 K N (1 : Int32) ((50 : Int32) + y89) a1 s99 t86 _ hk103)) ?_
                          cases h
                          exact px_E_ret hM rfl rfl rfl trivial
                        · cases h
                      · rw [if_neg hc91] at h
                        cases h
                        exact px_E_ret hM rfl rfl rfl trivial
                    · rw [if_neg hi90] at h
                      cases h
                  · cases h
                    exact e_l_M_writeVolume_28_40_48 K N a0 a1 N v80 s77 t78 _ hl87 _ _ ⟨rfl, rfl⟩
                · rw [if_neg hc82] at h
                  obtain ⟨hq106, h⟩ := px_gd_some h
                  refine px_blk (i' := 44) (L' := [some (.ref 28), some (.int a0), some (.ref 40), some (.int a1), some (.int v80), none]) (S' := [.int (a0 - a0 / (s77.1 26) * (s77.1 26)), .ref 28]) (w' := px_w K s77 t78) (q := [¬ (s77.1 26) = 0]) 5 hM rfl (show ¬ (s77.1 26) = 0 from hq106) ?_
                  rcases px_bi_some h with ⟨v110, s107, t108, hk109, h⟩ | ⟨x111, s107, t108, hk109, h⟩
                  · refine px_E_call hM rfl rfl rfl rfl (px_E_mono (by decide) (e_M_find_28 K N (a0 - a0 / (s77.1 26) * (s77.1 26)) s77 t78 _ hk109)) ?_
                    refine px_blk (i' := 48) (L' := [some (.ref 28), some (.int a0), some (.ref 40), some (.int a1), some (.int v110), none]) (S' := []) (w' := px_w K s107 t108) (q := []) 2 hM rfl trivial ?_
                    rcases px_lp_some h with ⟨i112, vs113, s114, t115, hl116, h⟩ | ⟨z117, hl116, h⟩
                    · by_cases hi119 : i112 = 81
                      · subst hi119
                        rw [if_pos rfl] at h
                        have h9 := px_v1_some h
                        clear h
                        obtain ⟨y118, rfl, h⟩ := h9
                        refine e_l_M_writeVolume_28_40_48 K N a0 a1 N v110 s107 t108 _ hl116 _ _ ?_
                        show px_E px_ET px_P 9 41 81 [some (.ref 28), some (.int a0), some (.ref 40), some (.int a1), some (.int y118), none] [] (px_w K s114 t115) _ _
                        refine px_blkif (c := 0 ≤ y118) (t := 84) (e := 83) (L' := [some (.ref 28), some (.int a0), some (.ref 40), some (.int a1), some (.int y118), none]) (S' := []) (w' := px_w K s114 t115) (q := []) 2 hM rfl trivial (fun hc120 => ?_) (fun hc120 => ?_)
                        · rw [if_pos hc120] at h
                          obtain ⟨hq121, h⟩ := px_gd_some h
                          refine px_blk (i' := 89) (L' := [some (.ref 28), some (.int a0), some (.ref 40), some (.int a1), some (.int y118), none]) (S' := []) (w' := px_w K (sA s114 35 y118.toNatClampNeg a0) t115) (q := [vp_in y118 (K.2.2 35)]) 5 hM rfl (show vp_in y118 (K.2.2 35) from hq121) ?_
                          obtain ⟨s122, hs123, h⟩ := px_let_some h
                          rw [← hs123]
                          obtain ⟨hq124, h⟩ := px_gd_some h
                          refine px_blk (i' := 95) (L' := [some (.ref 28), some (.int a0), some (.ref 40), some (.int a1), some (.int y118), none]) (S' := []) (w' := px_w K (sA s122 36 y118.toNatClampNeg (s122.1 32)) t115) (q := [vp_in y118 (K.2.2 36)]) 6 hM rfl (show vp_in y118 (K.2.2 36) from hq124) ?_
                          obtain ⟨s125, hs126, h⟩ := px_let_some h
                          rw [← hs126]
                          obtain ⟨hq127, h⟩ := px_gd_some h
                          refine px_blk (i' := 100) (L' := [some (.ref 28), some (.int a0), some (.ref 40), some (.int a1), some (.int y118), none]) (S' := []) (w' := px_w K (sA s125 37 y118.toNatClampNeg (1 : Int32)) t115) (q := [vp_in y118 (K.2.2 37), (1 : Int32) = 0 ∨ (1 : Int32) = 1]) 5 hM rfl (show (vp_in y118 (K.2.2 37)) ∧ ((1 : Int32) = 0 ∨ (1 : Int32) = 1) from ⟨hq127, Or.inr rfl⟩) ?_
                          obtain ⟨s128, hs129, h⟩ := px_let_some h
                          rw [← hs129]
                          refine px_blk (i' := 107) (L' := [some (.ref 28), some (.int a0), some (.ref 40), some (.int a1), some (.int y118), none]) (S' := [.int a1, .ref 40, .int ((50 : Int32) + y118), .int (1 : Int32), .ref 28]) (w' := px_w K s128 t115) (q := []) 7 hM rfl trivial ?_
                          rcases px_bv_some h with ⟨s130, t131, hk132, h⟩ | ⟨x134, s130, t131, hk132, h⟩
                          · refine px_E_call hM rfl rfl rfl rfl (px_E_mono (by decide) (e_M_write_28_40 K N (1 : Int32) ((50 : Int32) + y118) a1 s128 t115 _ hk132)) ?_
                            cases h
                            exact px_E_ret hM rfl rfl rfl trivial
                          · cases h
                        · rw [if_neg hc120] at h
                          cases h
                          exact px_E_ret hM rfl rfl rfl trivial
                      · rw [if_neg hi119] at h
                        cases h
                    · cases h
                      exact e_l_M_writeVolume_28_40_48 K N a0 a1 N v110 s107 t108 _ hl116 _ _ ⟨rfl, rfl⟩
                  · cases h
              · cases h
            · cases h
        · cases h
      · rw [if_neg hc7] at h
        obtain ⟨hq135, h⟩ := px_gd_some h
        refine px_blkif (c := ((s2.2.2.1 36) v5.toNatClampNeg) = (s2.1 32)) (t := 100) (e := 25) (L' := [some (.ref 28), some (.int a0), some (.ref 40), some (.int a1), some (.int v5), none]) (S' := []) (w' := px_w K s2 t3) (q := [vp_in v5 (K.2.2 36)]) 7 hM rfl (show vp_in v5 (K.2.2 36) from hq135) (fun hc136 => ?_) (fun hc136 => ?_)
        · rw [if_pos hc136] at h
          refine px_blk (i' := 107) (L' := [some (.ref 28), some (.int a0), some (.ref 40), some (.int a1), some (.int v5), none]) (S' := [.int a1, .ref 40, .int ((50 : Int32) + v5), .int (1 : Int32), .ref 28]) (w' := px_w K s2 t3) (q := []) 7 hM rfl trivial ?_
          rcases px_bv_some h with ⟨s137, t138, hk139, h⟩ | ⟨x141, s137, t138, hk139, h⟩
          · refine px_E_call hM rfl rfl rfl rfl (px_E_mono (by decide) (e_M_write_28_40 K N (1 : Int32) ((50 : Int32) + v5) a1 s2 t3 _ hk139)) ?_
            cases h
            exact px_E_ret hM rfl rfl rfl trivial
          · cases h
        · rw [if_neg hc136] at h
          refine px_blk (i' := 28) (L' := [some (.ref 28), some (.int a0), some (.ref 40), some (.int a1), some (.int v5), none]) (S' := [.int (s2.1 32), .ref 28]) (w' := px_w K s2 t3) (q := []) 3 hM rfl trivial ?_
          rcases px_bi_some h with ⟨v145, s142, t143, hk144, h⟩ | ⟨x146, s142, t143, hk144, h⟩
          · refine px_E_call hM rfl rfl rfl rfl (px_E_mono (by decide) (e_M_dirtyOf_28 K N (s2.1 32) s2 t3 _ hk144)) ?_
            refine px_blkif (c := ¬ v145 = (16 : Int32)) (t := 33) (e := 31) (L' := [some (.ref 28), some (.int a0), some (.ref 40), some (.int a1), some (.int v5), none]) (S' := []) (w' := px_w K s142 t143) (q := []) 2 hM rfl trivial (fun hc147 => ?_) (fun hc147 => ?_)
            · rw [if_pos hc147] at h
              refine px_blk (i' := 35) (L' := [some (.ref 28), some (.int a0), some (.ref 40), some (.int a1), some (.int v5), none]) (S' := [.int a0, .ref 28]) (w' := px_w K s142 t143) (q := []) 2 hM rfl trivial ?_
              rcases px_bi_some h with ⟨v151, s148, t149, hk150, h⟩ | ⟨x152, s148, t149, hk150, h⟩
              · refine px_E_call hM rfl rfl rfl rfl (px_E_mono (by decide) (e_M_cleanOf_28 K N a0 s142 t143 _ hk150)) ?_
                refine px_blkif (c := 0 ≤ v151) (t := 46) (e := 39) (L' := [some (.ref 28), some (.int a0), some (.ref 40), some (.int a1), some (.int v151), none]) (S' := []) (w' := px_w K s148 t149) (q := []) 3 hM rfl trivial (fun hc153 => ?_) (fun hc153 => ?_)
                · rw [if_pos hc153] at h
                  refine px_blk (i' := 48) (L' := [some (.ref 28), some (.int a0), some (.ref 40), some (.int a1), some (.int v151), none]) (S' := []) (w' := px_w K s148 t149) (q := []) 2 hM rfl trivial ?_
                  rcases px_lp_some h with ⟨i154, vs155, s156, t157, hl158, h⟩ | ⟨z159, hl158, h⟩
                  · by_cases hi161 : i154 = 81
                    · subst hi161
                      rw [if_pos rfl] at h
                      have h9 := px_v1_some h
                      clear h
                      obtain ⟨y160, rfl, h⟩ := h9
                      refine e_l_M_writeVolume_28_40_48 K N a0 a1 N v151 s148 t149 _ hl158 _ _ ?_
                      show px_E px_ET px_P 9 41 81 [some (.ref 28), some (.int a0), some (.ref 40), some (.int a1), some (.int y160), none] [] (px_w K s156 t157) _ _
                      refine px_blkif (c := 0 ≤ y160) (t := 84) (e := 83) (L' := [some (.ref 28), some (.int a0), some (.ref 40), some (.int a1), some (.int y160), none]) (S' := []) (w' := px_w K s156 t157) (q := []) 2 hM rfl trivial (fun hc162 => ?_) (fun hc162 => ?_)
                      · rw [if_pos hc162] at h
                        obtain ⟨hq163, h⟩ := px_gd_some h
                        refine px_blk (i' := 89) (L' := [some (.ref 28), some (.int a0), some (.ref 40), some (.int a1), some (.int y160), none]) (S' := []) (w' := px_w K (sA s156 35 y160.toNatClampNeg a0) t157) (q := [vp_in y160 (K.2.2 35)]) 5 hM rfl (show vp_in y160 (K.2.2 35) from hq163) ?_
                        obtain ⟨s164, hs165, h⟩ := px_let_some h
                        rw [← hs165]
                        obtain ⟨hq166, h⟩ := px_gd_some h
                        refine px_blk (i' := 95) (L' := [some (.ref 28), some (.int a0), some (.ref 40), some (.int a1), some (.int y160), none]) (S' := []) (w' := px_w K (sA s164 36 y160.toNatClampNeg (s164.1 32)) t157) (q := [vp_in y160 (K.2.2 36)]) 6 hM rfl (show vp_in y160 (K.2.2 36) from hq166) ?_
                        obtain ⟨s167, hs168, h⟩ := px_let_some h
                        rw [← hs168]
                        obtain ⟨hq169, h⟩ := px_gd_some h
                        refine px_blk (i' := 100) (L' := [some (.ref 28), some (.int a0), some (.ref 40), some (.int a1), some (.int y160), none]) (S' := []) (w' := px_w K (sA s167 37 y160.toNatClampNeg (1 : Int32)) t157) (q := [vp_in y160 (K.2.2 37), (1 : Int32) = 0 ∨ (1 : Int32) = 1]) 5 hM rfl (show (vp_in y160 (K.2.2 37)) ∧ ((1 : Int32) = 0 ∨ (1 : Int32) = 1) from ⟨hq169, Or.inr rfl⟩) ?_
                        obtain ⟨s170, hs171, h⟩ := px_let_some h
                        rw [← hs171]
                        refine px_blk (i' := 107) (L' := [some (.ref 28), some (.int a0), some (.ref 40), some (.int a1), some (.int y160), none]) (S' := [.int a1, .ref 40, .int ((50 : Int32) + y160), .int (1 : Int32), .ref 28]) (w' := px_w K s170 t157) (q := []) 7 hM rfl trivial ?_
                        rcases px_bv_some h with ⟨s172, t173, hk174, h⟩ | ⟨x176, s172, t173, hk174, h⟩
                        · refine px_E_call hM rfl rfl rfl rfl (px_E_mono (by decide) (e_M_write_28_40 K N (1 : Int32) ((50 : Int32) + y160) a1 s170 t157 _ hk174)) ?_
                          cases h
                          exact px_E_ret hM rfl rfl rfl trivial
                        · cases h
                      · rw [if_neg hc162] at h
                        cases h
                        exact px_E_ret hM rfl rfl rfl trivial
                    · rw [if_neg hi161] at h
                      cases h
                  · cases h
                    exact e_l_M_writeVolume_28_40_48 K N a0 a1 N v151 s148 t149 _ hl158 _ _ ⟨rfl, rfl⟩
                · rw [if_neg hc153] at h
                  obtain ⟨hq177, h⟩ := px_gd_some h
                  refine px_blk (i' := 44) (L' := [some (.ref 28), some (.int a0), some (.ref 40), some (.int a1), some (.int v151), none]) (S' := [.int (a0 - a0 / (s148.1 26) * (s148.1 26)), .ref 28]) (w' := px_w K s148 t149) (q := [¬ (s148.1 26) = 0]) 5 hM rfl (show ¬ (s148.1 26) = 0 from hq177) ?_
                  rcases px_bi_some h with ⟨v181, s178, t179, hk180, h⟩ | ⟨x182, s178, t179, hk180, h⟩
                  · refine px_E_call hM rfl rfl rfl rfl (px_E_mono (by decide) (e_M_find_28 K N (a0 - a0 / (s148.1 26) * (s148.1 26)) s148 t149 _ hk180)) ?_
                    refine px_blk (i' := 48) (L' := [some (.ref 28), some (.int a0), some (.ref 40), some (.int a1), some (.int v181), none]) (S' := []) (w' := px_w K s178 t179) (q := []) 2 hM rfl trivial ?_
                    rcases px_lp_some h with ⟨i183, vs184, s185, t186, hl187, h⟩ | ⟨z188, hl187, h⟩
                    · by_cases hi190 : i183 = 81
                      · subst hi190
                        rw [if_pos rfl] at h
                        have h9 := px_v1_some h
                        clear h
                        obtain ⟨y189, rfl, h⟩ := h9
                        refine e_l_M_writeVolume_28_40_48 K N a0 a1 N v181 s178 t179 _ hl187 _ _ ?_
                        show px_E px_ET px_P 9 41 81 [some (.ref 28), some (.int a0), some (.ref 40), some (.int a1), some (.int y189), none] [] (px_w K s185 t186) _ _
                        refine px_blkif (c := 0 ≤ y189) (t := 84) (e := 83) (L' := [some (.ref 28), some (.int a0), some (.ref 40), some (.int a1), some (.int y189), none]) (S' := []) (w' := px_w K s185 t186) (q := []) 2 hM rfl trivial (fun hc191 => ?_) (fun hc191 => ?_)
                        · rw [if_pos hc191] at h
                          obtain ⟨hq192, h⟩ := px_gd_some h
                          refine px_blk (i' := 89) (L' := [some (.ref 28), some (.int a0), some (.ref 40), some (.int a1), some (.int y189), none]) (S' := []) (w' := px_w K (sA s185 35 y189.toNatClampNeg a0) t186) (q := [vp_in y189 (K.2.2 35)]) 5 hM rfl (show vp_in y189 (K.2.2 35) from hq192) ?_
                          obtain ⟨s193, hs194, h⟩ := px_let_some h
                          rw [← hs194]
                          obtain ⟨hq195, h⟩ := px_gd_some h
                          refine px_blk (i' := 95) (L' := [some (.ref 28), some (.int a0), some (.ref 40), some (.int a1), some (.int y189), none]) (S' := []) (w' := px_w K (sA s193 36 y189.toNatClampNeg (s193.1 32)) t186) (q := [vp_in y189 (K.2.2 36)]) 6 hM rfl (show vp_in y189 (K.2.2 36) from hq195) ?_
                          obtain ⟨s196, hs197, h⟩ := px_let_some h
                          rw [← hs197]
                          obtain ⟨hq198, h⟩ := px_gd_some h
                          refine px_blk (i' := 100) (L' := [some (.ref 28), some (.int a0), some (.ref 40), some (.int a1), some (.int y189), none]) (S' := []) (w' := px_w K (sA s196 37 y189.toNatClampNeg (1 : Int32)) t186) (q := [vp_in y189 (K.2.2 37), (1 : Int32) = 0 ∨ (1 : Int32) = 1]) 5 hM rfl (show (vp_in y189 (K.2.2 37)) ∧ ((1 : Int32) = 0 ∨ (1 : Int32) = 1) from ⟨hq198, Or.inr rfl⟩) ?_
                          obtain ⟨s199, hs200, h⟩ := px_let_some h
                          rw [← hs200]
                          refine px_blk (i' := 107) (L' := [some (.ref 28), some (.int a0), some (.ref 40), some (.int a1), some (.int y189), none]) (S' := [.int a1, .ref 40, .int ((50 : Int32) + y189), .int (1 : Int32), .ref 28]) (w' := px_w K s199 t186) (q := []) 7 hM rfl trivial ?_
                          rcases px_bv_some h with ⟨s201, t202, hk203, h⟩ | ⟨x205, s201, t202, hk203, h⟩
                          · refine px_E_call hM rfl rfl rfl rfl (px_E_mono (by decide) (e_M_write_28_40 K N (1 : Int32) ((50 : Int32) + y189) a1 s199 t186 _ hk203)) ?_
                            cases h
                            exact px_E_ret hM rfl rfl rfl trivial
                          · cases h
                        · rw [if_neg hc191] at h
                          cases h
                          exact px_E_ret hM rfl rfl rfl trivial
                      · rw [if_neg hi190] at h
                        cases h
                    · cases h
                      exact e_l_M_writeVolume_28_40_48 K N a0 a1 N v181 s178 t179 _ hl187 _ _ ⟨rfl, rfl⟩
                  · cases h
              · cases h
            · rw [if_neg hc147] at h
              refine px_blk (i' := 32) (L' := [some (.ref 28), some (.int a0), some (.ref 40), some (.int a1), some (.int v5), none]) (S' := [.ref 28]) (w' := px_w K s142 t143) (q := []) 1 hM rfl trivial ?_
              rcases px_bv_some h with ⟨s206, t207, hk208, h⟩ | ⟨x210, s206, t207, hk208, h⟩
              · refine px_E_call hM rfl rfl rfl rfl (px_E_mono (by decide) (e_M_close_28 K N s142 t143 _ hk208)) ?_
                refine px_blk (i' := 35) (L' := [some (.ref 28), some (.int a0), some (.ref 40), some (.int a1), some (.int v5), none]) (S' := [.int a0, .ref 28]) (w' := px_w K s206 t207) (q := []) 2 hM rfl trivial ?_
                rcases px_bi_some h with ⟨v214, s211, t212, hk213, h⟩ | ⟨x215, s211, t212, hk213, h⟩
                · refine px_E_call hM rfl rfl rfl rfl (px_E_mono (by decide) (e_M_cleanOf_28 K N a0 s206 t207 _ hk213)) ?_
                  refine px_blkif (c := 0 ≤ v214) (t := 46) (e := 39) (L' := [some (.ref 28), some (.int a0), some (.ref 40), some (.int a1), some (.int v214), none]) (S' := []) (w' := px_w K s211 t212) (q := []) 3 hM rfl trivial (fun hc216 => ?_) (fun hc216 => ?_)
                  · rw [if_pos hc216] at h
                    refine px_blk (i' := 48) (L' := [some (.ref 28), some (.int a0), some (.ref 40), some (.int a1), some (.int v214), none]) (S' := []) (w' := px_w K s211 t212) (q := []) 2 hM rfl trivial ?_
                    rcases px_lp_some h with ⟨i217, vs218, s219, t220, hl221, h⟩ | ⟨z222, hl221, h⟩
                    · by_cases hi224 : i217 = 81
                      · subst hi224
                        rw [if_pos rfl] at h
                        have h9 := px_v1_some h
                        clear h
                        obtain ⟨y223, rfl, h⟩ := h9
                        refine e_l_M_writeVolume_28_40_48 K N a0 a1 N v214 s211 t212 _ hl221 _ _ ?_
                        show px_E px_ET px_P 9 41 81 [some (.ref 28), some (.int a0), some (.ref 40), some (.int a1), some (.int y223), none] [] (px_w K s219 t220) _ _
                        refine px_blkif (c := 0 ≤ y223) (t := 84) (e := 83) (L' := [some (.ref 28), some (.int a0), some (.ref 40), some (.int a1), some (.int y223), none]) (S' := []) (w' := px_w K s219 t220) (q := []) 2 hM rfl trivial (fun hc225 => ?_) (fun hc225 => ?_)
                        · rw [if_pos hc225] at h
                          obtain ⟨hq226, h⟩ := px_gd_some h
                          refine px_blk (i' := 89) (L' := [some (.ref 28), some (.int a0), some (.ref 40), some (.int a1), some (.int y223), none]) (S' := []) (w' := px_w K (sA s219 35 y223.toNatClampNeg a0) t220) (q := [vp_in y223 (K.2.2 35)]) 5 hM rfl (show vp_in y223 (K.2.2 35) from hq226) ?_
                          obtain ⟨s227, hs228, h⟩ := px_let_some h
                          rw [← hs228]
                          obtain ⟨hq229, h⟩ := px_gd_some h
                          refine px_blk (i' := 95) (L' := [some (.ref 28), some (.int a0), some (.ref 40), some (.int a1), some (.int y223), none]) (S' := []) (w' := px_w K (sA s227 36 y223.toNatClampNeg (s227.1 32)) t220) (q := [vp_in y223 (K.2.2 36)]) 6 hM rfl (show vp_in y223 (K.2.2 36) from hq229) ?_
                          obtain ⟨s230, hs231, h⟩ := px_let_some h
                          rw [← hs231]
                          obtain ⟨hq232, h⟩ := px_gd_some h
                          refine px_blk (i' := 100) (L' := [some (.ref 28), some (.int a0), some (.ref 40), some (.int a1), some (.int y223), none]) (S' := []) (w' := px_w K (sA s230 37 y223.toNatClampNeg (1 : Int32)) t220) (q := [vp_in y223 (K.2.2 37), (1 : Int32) = 0 ∨ (1 : Int32) = 1]) 5 hM rfl (show (vp_in y223 (K.2.2 37)) ∧ ((1 : Int32) = 0 ∨ (1 : Int32) = 1) from ⟨hq232, Or.inr rfl⟩) ?_
                          obtain ⟨s233, hs234, h⟩ := px_let_some h
                          rw [← hs234]
                          refine px_blk (i' := 107) (L' := [some (.ref 28), some (.int a0), some (.ref 40), some (.int a1), some (.int y223), none]) (S' := [.int a1, .ref 40, .int ((50 : Int32) + y223), .int (1 : Int32), .ref 28]) (w' := px_w K s233 t220) (q := []) 7 hM rfl trivial ?_
                          rcases px_bv_some h with ⟨s235, t236, hk237, h⟩ | ⟨x239, s235, t236, hk237, h⟩
                          · refine px_E_call hM rfl rfl rfl rfl (px_E_mono (by decide) (e_M_write_28_40 K N (1 : Int32) ((50 : Int32) + y223) a1 s233 t220 _ hk237)) ?_
                            cases h
                            exact px_E_ret hM rfl rfl rfl trivial
                          · cases h
                        · rw [if_neg hc225] at h
                          cases h
                          exact px_E_ret hM rfl rfl rfl trivial
                      · rw [if_neg hi224] at h
                        cases h
                    · cases h
                      exact e_l_M_writeVolume_28_40_48 K N a0 a1 N v214 s211 t212 _ hl221 _ _ ⟨rfl, rfl⟩
                  · rw [if_neg hc216] at h
                    obtain ⟨hq240, h⟩ := px_gd_some h
                    refine px_blk (i' := 44) (L' := [some (.ref 28), some (.int a0), some (.ref 40), some (.int a1), some (.int v214), none]) (S' := [.int (a0 - a0 / (s211.1 26) * (s211.1 26)), .ref 28]) (w' := px_w K s211 t212) (q := [¬ (s211.1 26) = 0]) 5 hM rfl (show ¬ (s211.1 26) = 0 from hq240) ?_
                    rcases px_bi_some h with ⟨v244, s241, t242, hk243, h⟩ | ⟨x245, s241, t242, hk243, h⟩
                    · refine px_E_call hM rfl rfl rfl rfl (px_E_mono (by decide) (e_M_find_28 K N (a0 - a0 / (s211.1 26) * (s211.1 26)) s211 t212 _ hk243)) ?_
                      refine px_blk (i' := 48) (L' := [some (.ref 28), some (.int a0), some (.ref 40), some (.int a1), some (.int v244), none]) (S' := []) (w' := px_w K s241 t242) (q := []) 2 hM rfl trivial ?_
                      rcases px_lp_some h with ⟨i246, vs247, s248, t249, hl250, h⟩ | ⟨z251, hl250, h⟩
                      · by_cases hi253 : i246 = 81
                        · subst hi253
                          rw [if_pos rfl] at h
                          have h9 := px_v1_some h
                          clear h
                          obtain ⟨y252, rfl, h⟩ := h9
                          refine e_l_M_writeVolume_28_40_48 K N a0 a1 N v244 s241 t242 _ hl250 _ _ ?_
                          show px_E px_ET px_P 9 41 81 [some (.ref 28), some (.int a0), some (.ref 40), some (.int a1), some (.int y252), none] [] (px_w K s248 t249) _ _
                          refine px_blkif (c := 0 ≤ y252) (t := 84) (e := 83) (L' := [some (.ref 28), some (.int a0), some (.ref 40), some (.int a1), some (.int y252), none]) (S' := []) (w' := px_w K s248 t249) (q := []) 2 hM rfl trivial (fun hc254 => ?_) (fun hc254 => ?_)
                          · rw [if_pos hc254] at h
                            obtain ⟨hq255, h⟩ := px_gd_some h
                            refine px_blk (i' := 89) (L' := [some (.ref 28), some (.int a0), some (.ref 40), some (.int a1), some (.int y252), none]) (S' := []) (w' := px_w K (sA s248 35 y252.toNatClampNeg a0) t249) (q := [vp_in y252 (K.2.2 35)]) 5 hM rfl (show vp_in y252 (K.2.2 35) from hq255) ?_
                            obtain ⟨s256, hs257, h⟩ := px_let_some h
                            rw [← hs257]
                            obtain ⟨hq258, h⟩ := px_gd_some h
                            refine px_blk (i' := 95) (L' := [some (.ref 28), some (.int a0), some (.ref 40), some (.int a1), some (.int y252), none]) (S' := []) (w' := px_w K (sA s256 36 y252.toNatClampNeg (s256.1 32)) t249) (q := [vp_in y252 (K.2.2 36)]) 6 hM rfl (show vp_in y252 (K.2.2 36) from hq258) ?_
                            obtain ⟨s259, hs260, h⟩ := px_let_some h
                            rw [← hs260]
                            obtain ⟨hq261, h⟩ := px_gd_some h
                            refine px_blk (i' := 100) (L' := [some (.ref 28), some (.int a0), some (.ref 40), some (.int a1), some (.int y252), none]) (S' := []) (w' := px_w K (sA s259 37 y252.toNatClampNeg (1 : Int32)) t249) (q := [vp_in y252 (K.2.2 37), (1 : Int32) = 0 ∨ (1 : Int32) = 1]) 5 hM rfl (show (vp_in y252 (K.2.2 37)) ∧ ((1 : Int32) = 0 ∨ (1 : Int32) = 1) from ⟨hq261, Or.inr rfl⟩) ?_
                            obtain ⟨s262, hs263, h⟩ := px_let_some h
                            rw [← hs263]
                            refine px_blk (i' := 107) (L' := [some (.ref 28), some (.int a0), some (.ref 40), some (.int a1), some (.int y252), none]) (S' := [.int a1, .ref 40, .int ((50 : Int32) + y252), .int (1 : Int32), .ref 28]) (w' := px_w K s262 t249) (q := []) 7 hM rfl trivial ?_
                            rcases px_bv_some h with ⟨s264, t265, hk266, h⟩ | ⟨x268, s264, t265, hk266, h⟩
                            · refine px_E_call hM rfl rfl rfl rfl (px_E_mono (by decide) (e_M_write_28_40 K N (1 : Int32) ((50 : Int32) + y252) a1 s262 t249 _ hk266)) ?_
                              cases h
                              exact px_E_ret hM rfl rfl rfl trivial
                            · cases h
                          · rw [if_neg hc254] at h
                            cases h
                            exact px_E_ret hM rfl rfl rfl trivial
                        · rw [if_neg hi253] at h
                          cases h
                      · cases h
                        exact e_l_M_writeVolume_28_40_48 K N a0 a1 N v244 s241 t242 _ hl250 _ _ ⟨rfl, rfl⟩
                    · cases h
                · cases h
              · cases h
          · cases h
    · cases h
  · rw [if_neg hc1] at h
    refine px_blk (i' := 10) (L' := [some (.ref 28), some (.int a0), some (.ref 40), some (.int a1), none, none]) (S' := [.int a1, .ref 40, .int ((19 : Int32) + a0), .int (0 : Int32), .ref 28]) (w' := px_w K s t) (q := []) 7 hM rfl trivial ?_
    rcases px_bv_some h with ⟨s269, t270, hk271, h⟩ | ⟨x273, s269, t270, hk271, h⟩
    · refine px_E_call hM rfl rfl rfl rfl (px_E_mono (by decide) (e_M_write_28_40 K N (0 : Int32) ((19 : Int32) + a0) a1 s t _ hk271)) ?_
      cases h
      exact px_E_ret hM rfl rfl rfl trivial
    · cases h
noncomputable def l_M_bringHome_28_6 (K : px_K) (N : Nat) (n : Nat) (m1 : Int32) (s : px_S) (t : px_W) : Option px_LO := match n with
  | 0 => none
  | n + 1 => (if (106 : Int32) ≤ m1 then (some (.inl (24, [], s, t))) else (px_gd (vp_in m1 (K.2.2 42)) (if ((s.2.2.1 42) m1.toNatClampNeg) = 0 then (l_M_bringHome_28_6 K N n (m1 + (1 : Int32)) s t) else (px_bv (f_M_writeVolume_28_40 K N m1 ((16 : Int32) * m1) s t) (fun s4 t5 => (l_M_bringHome_28_6 K N n (m1 + (1 : Int32)) s4 t5)) (fun x8 s4 t5 => none)))))
def a_l_M_bringHome_28_6 (K : px_K) (z : px_LO) (o : Option Value ⊕ Nat) (w2 : px_W) : Prop := match z with
  | .inr (o', s', t') => o = o' ∧ w2 = px_w K s' t'
  | .inl (24, [], s', t') => px_E px_ET px_P 10 73 24 [some (.ref 28), none] [] (px_w K s' t') o w2
  | _ => False
noncomputable def l_M_bringHome_28_44 (K : px_K) (N : Nat) (n : Nat) (m1 : Int32) (s : px_S) (t : px_W) : Option px_LO := match n with
  | 0 => none
  | n + 1 => (if (106 : Int32) ≤ m1 then (some (.inl (54, [], s, t))) else (px_gd (vp_in m1 (K.2.2 42)) (px_let (sA s 42 m1.toNatClampNeg (0 : Int32)) (fun s3 => (l_M_bringHome_28_44 K N n (m1 + (1 : Int32)) s3 t)))))
def a_l_M_bringHome_28_44 (K : px_K) (z : px_LO) (o : Option Value ⊕ Nat) (w2 : px_W) : Prop := match z with
  | .inr (o', s', t') => o = o' ∧ w2 = px_w K s' t'
  | .inl (54, [], s', t') => px_E px_ET px_P 10 73 54 [some (.ref 28), none] [] (px_w K s' t') o w2
  | _ => False
set_option maxRecDepth 100000 in
theorem e_l_M_bringHome_28_6 (K : px_K) (N : Nat) : ∀ (n : Nat) (m1 : Int32) (s : px_S) (t : px_W) (z : px_LO), l_M_bringHome_28_6 K N n m1 s t = some z → ∀ (o : Option Value ⊕ Nat) (w2 : px_W), a_l_M_bringHome_28_6 K z o w2 → px_E px_ET px_P 10 73 6 [some (.ref 28), some (.int m1)] [] (px_w K s t) o w2 := by
  have hM : px_P[73]? = some pm_M_bringHome := rfl
  intro n
  induction n with
  | zero => intro m1 s t z h; cases h
  | succ n ih =>
    intro m1 s t z h o w2 ha
    unfold l_M_bringHome_28_6 at h
    refine px_blkif (c := (106 : Int32) ≤ m1) (t := 24) (e := 9) (L' := [some (.ref 28), some (.int m1)]) (S' := []) (w' := px_w K s t) (q := []) 3 hM rfl trivial (fun hc1 => ?_) (fun hc1 => ?_)
    · rw [if_pos hc1] at h
      cases h
      exact px_E_le (px_leC_L _ _ (by simp [px_leC, px_le1, Value.category])) ha
    · rw [if_neg hc1] at h
      obtain ⟨hq2, h⟩ := px_gd_some h
      refine px_blkif (c := ((s.2.2.1 42) m1.toNatClampNeg) = 0) (t := 22) (e := 14) (L' := [some (.ref 28), some (.int m1)]) (S' := []) (w' := px_w K s t) (q := [vp_in m1 (K.2.2 42)]) 5 hM rfl (show vp_in m1 (K.2.2 42) from hq2) (fun hc3 => ?_) (fun hc3 => ?_)
      · rw [if_pos hc3] at h
        refine px_blk (i' := 6) (L' := [some (.ref 28), some (.int (m1 + (1 : Int32)))]) (S' := []) (w' := px_w K s t) (q := []) 2 hM rfl trivial ?_
        exact ih (m1 + (1 : Int32)) s t z h o w2 ha
      · rw [if_neg hc3] at h
        refine px_blk (i' := 21) (L' := [some (.ref 28), some (.int m1)]) (S' := [.int ((16 : Int32) * m1), .ref 40, .int m1, .ref 28]) (w' := px_w K s t) (q := []) 7 hM rfl trivial ?_
        rcases px_bv_some h with ⟨s4, t5, hk6, h⟩ | ⟨x8, s4, t5, hk6, h⟩
        · refine px_E_call hM rfl rfl rfl rfl (px_E_mono (by decide) (e_M_writeVolume_28_40 K N m1 ((16 : Int32) * m1) s t _ hk6)) ?_
          refine px_blk (i' := 6) (L' := [some (.ref 28), some (.int (m1 + (1 : Int32)))]) (S' := []) (w' := px_w K s4 t5) (q := []) 2 hM rfl trivial ?_
          exact ih (m1 + (1 : Int32)) s4 t5 z h o w2 ha
        · cases h
set_option maxRecDepth 100000 in
theorem e_l_M_bringHome_28_44 (K : px_K) (N : Nat) : ∀ (n : Nat) (m1 : Int32) (s : px_S) (t : px_W) (z : px_LO), l_M_bringHome_28_44 K N n m1 s t = some z → ∀ (o : Option Value ⊕ Nat) (w2 : px_W), a_l_M_bringHome_28_44 K z o w2 → px_E px_ET px_P 10 73 44 [some (.ref 28), some (.int m1)] [] (px_w K s t) o w2 := by
  have hM : px_P[73]? = some pm_M_bringHome := rfl
  intro n
  induction n with
  | zero => intro m1 s t z h; cases h
  | succ n ih =>
    intro m1 s t z h o w2 ha
    unfold l_M_bringHome_28_44 at h
    refine px_blkif (c := (106 : Int32) ≤ m1) (t := 54) (e := 47) (L' := [some (.ref 28), some (.int m1)]) (S' := []) (w' := px_w K s t) (q := []) 3 hM rfl trivial (fun hc1 => ?_) (fun hc1 => ?_)
    · rw [if_pos hc1] at h
      cases h
      exact px_E_le (px_leC_L _ _ (by simp [px_leC, px_le1, Value.category])) ha
    · rw [if_neg hc1] at h
      obtain ⟨hq2, h⟩ := px_gd_some h
      refine px_blk (i' := 52) (L' := [some (.ref 28), some (.int m1)]) (S' := []) (w' := px_w K (sA s 42 m1.toNatClampNeg (0 : Int32)) t) (q := [vp_in m1 (K.2.2 42), (0 : Int32) = 0 ∨ (0 : Int32) = 1]) 5 hM rfl (show (vp_in m1 (K.2.2 42)) ∧ ((0 : Int32) = 0 ∨ (0 : Int32) = 1) from ⟨hq2, Or.inl rfl⟩) ?_
      obtain ⟨s3, hs4, h⟩ := px_let_some h
      rw [← hs4]
      refine px_blk (i' := 44) (L' := [some (.ref 28), some (.int (m1 + (1 : Int32)))]) (S' := []) (w' := px_w K s3 t) (q := []) 2 hM rfl trivial ?_
      exact ih (m1 + (1 : Int32)) s3 t z h o w2 ha
noncomputable def f_M_bringHome_28 (K : px_K) (N : Nat) (s : px_S) (t : px_W) : Option px_Res :=
  (px_bi (f_M_keeps_28 K N s t) (fun v4 s1 t2 => (if ¬ v4 = 0 then (px_lp (l_M_bringHome_28_6 K N N (0 : Int32) s1 t2) (fun i7 vs8 s9 t10 => (if i7 = 24 then (px_v0 vs8 (px_bv (f_M_flushVolume_28 K N s9 t10) (fun s14 t15 => (px_bv (f_M_three_28_44 K N (s14.1 36) (0 : Int32) (0 : Int32) s14 t15) (fun s19 t20 => (px_bv (f_M_writeVolume_28_44 K N (0 : Int32) (0 : Int32) s19 t20) (fun s24 t25 => (px_bv (f_M_flushVolume_28 K N s24 t25) (fun s29 t30 => (px_lp (l_M_bringHome_28_44 K N N (0 : Int32) s29 t30) (fun i34 vs35 s36 t37 => (if i34 = 54 then (px_v0 vs35 (px_let (sR s36 37 (1 : Int32)) (fun s41 => (some (.inl none, s41, t37))))) else none)) (fun z39 => some z39))) (fun x33 s29 t30 => none))) (fun x28 s24 t25 => none))) (fun x23 s19 t20 => none))) (fun x18 s14 t15 => none))) else none)) (fun z12 => some z12)) else (some (.inl none, s1, t2)))) (fun x5 s1 t2 => none))
set_option maxRecDepth 100000 in
theorem e_M_bringHome_28 (K : px_K) (N : Nat) (s : px_S) (t : px_W) (r : px_Res) (h : f_M_bringHome_28 K N s t = some r) : px_E px_ET px_P 10 73 0 (px_ent 2 [.ref 28]) [] (px_w K s t) r.1 (px_w K r.2.1 r.2.2) := by
  have hM : px_P[73]? = some pm_M_bringHome := rfl
  unfold f_M_bringHome_28 at h
  refine px_blk (i' := 1) (L' := [some (.ref 28), none]) (S' := [.ref 28]) (w' := px_w K s t) (q := []) 1 hM rfl trivial ?_
  rcases px_bi_some h with ⟨v4, s1, t2, hk3, h⟩ | ⟨x5, s1, t2, hk3, h⟩
  · refine px_E_call hM rfl rfl rfl rfl (px_E_mono (by decide) (e_M_keeps_28 K N s t _ hk3)) ?_
    refine px_blkif (c := ¬ v4 = 0) (t := 4) (e := 3) (L' := [some (.ref 28), none]) (S' := []) (w' := px_w K s1 t2) (q := []) 1 hM rfl trivial (fun hc6 => ?_) (fun hc6 => ?_)
    · rw [if_pos hc6] at h
      refine px_blk (i' := 6) (L' := [some (.ref 28), some (.int (0 : Int32))]) (S' := []) (w' := px_w K s1 t2) (q := []) 2 hM rfl trivial ?_
      rcases px_lp_some h with ⟨i7, vs8, s9, t10, hl11, h⟩ | ⟨z12, hl11, h⟩
      · by_cases hi13 : i7 = 24
        · subst hi13
          rw [if_pos rfl] at h
          have h9 := px_v0_some h
          clear h
          obtain ⟨rfl, h⟩ := h9
          refine e_l_M_bringHome_28_6 K N N (0 : Int32) s1 t2 _ hl11 _ _ ?_
          show px_E px_ET px_P 10 73 24 [some (.ref 28), none] [] (px_w K s9 t10) _ _
          refine px_blk (i' := 25) (L' := [some (.ref 28), none]) (S' := [.ref 28]) (w' := px_w K s9 t10) (q := []) 1 hM rfl trivial ?_
          rcases px_bv_some h with ⟨s14, t15, hk16, h⟩ | ⟨x18, s14, t15, hk16, h⟩
          · refine px_E_call hM rfl rfl rfl rfl (px_E_mono (by decide) (e_M_flushVolume_28 K N s9 t10 _ hk16)) ?_
            refine px_blk (i' := 33) (L' := [some (.ref 28), none]) (S' := [.int (0 : Int32), .int (0 : Int32), .int (s14.1 36), .ref 44, .ref 28]) (w' := px_w K s14 t15) (q := []) 7 hM rfl trivial ?_
            rcases px_bv_some h with ⟨s19, t20, hk21, h⟩ | ⟨x23, s19, t20, hk21, h⟩
            · refine px_E_call hM rfl rfl rfl rfl (px_E_mono (by decide) (e_M_three_28_44 K N (s14.1 36) (0 : Int32) (0 : Int32) s14 t15 _ hk21)) ?_
              refine px_blk (i' := 39) (L' := [some (.ref 28), none]) (S' := [.int (0 : Int32), .ref 44, .int (0 : Int32), .ref 28]) (w' := px_w K s19 t20) (q := []) 5 hM rfl trivial ?_
              rcases px_bv_some h with ⟨s24, t25, hk26, h⟩ | ⟨x28, s24, t25, hk26, h⟩
              · refine px_E_call hM rfl rfl rfl rfl (px_E_mono (by decide) (e_M_writeVolume_28_44 K N (0 : Int32) (0 : Int32) s19 t20 _ hk26)) ?_
                refine px_blk (i' := 41) (L' := [some (.ref 28), none]) (S' := [.ref 28]) (w' := px_w K s24 t25) (q := []) 1 hM rfl trivial ?_
                rcases px_bv_some h with ⟨s29, t30, hk31, h⟩ | ⟨x33, s29, t30, hk31, h⟩
                · refine px_E_call hM rfl rfl rfl rfl (px_E_mono (by decide) (e_M_flushVolume_28 K N s24 t25 _ hk31)) ?_
                  refine px_blk (i' := 44) (L' := [some (.ref 28), some (.int (0 : Int32))]) (S' := []) (w' := px_w K s29 t30) (q := []) 2 hM rfl trivial ?_
                  rcases px_lp_some h with ⟨i34, vs35, s36, t37, hl38, h⟩ | ⟨z39, hl38, h⟩
                  · by_cases hi40 : i34 = 54
                    · subst hi40
                      rw [if_pos rfl] at h
                      have h9 := px_v0_some h
                      clear h
                      obtain ⟨rfl, h⟩ := h9
                      refine e_l_M_bringHome_28_44 K N N (0 : Int32) s29 t30 _ hl38 _ _ ?_
                      show px_E px_ET px_P 10 73 54 [some (.ref 28), none] [] (px_w K s36 t37) _ _
                      refine px_blk (i' := 57) (L' := [some (.ref 28), none]) (S' := []) (w' := px_w K (sR s36 37 (1 : Int32)) t37) (q := []) 3 hM rfl trivial ?_
                      obtain ⟨s41, hs42, h⟩ := px_let_some h
                      rw [← hs42]
                      cases h
                      exact px_E_ret hM rfl rfl rfl trivial
                    · rw [if_neg hi40] at h
                      cases h
                  · cases h
                    exact e_l_M_bringHome_28_44 K N N (0 : Int32) s29 t30 _ hl38 _ _ ⟨rfl, rfl⟩
                · cases h
              · cases h
            · cases h
          · cases h
        · rw [if_neg hi13] at h
          cases h
      · cases h
        exact e_l_M_bringHome_28_6 K N N (0 : Int32) s1 t2 _ hl11 _ _ ⟨rfl, rfl⟩
    · rw [if_neg hc6] at h
      cases h
      exact px_E_ret hM rfl rfl rfl trivial
  · cases h
noncomputable def l_M_commit_28_28 (K : px_K) (N : Nat) (n : Nat) (m2 : Int32) (m3 : Int32) (s : px_S) (t : px_W) : Option px_LO := match n with
  | 0 => none
  | n + 1 => (if (106 : Int32) ≤ m3 then (some (.inl (70, [], s, t))) else (px_gd (vp_in m3 (K.2.2 41)) (if ¬ ((s.2.2.1 41) m3.toNatClampNeg) = 0 then (px_gd (vp_in ((3 : Int32) + m2) (K.2.2 44)) (px_let (sA s 44 ((3 : Int32) + m2).toNatClampNeg m3) (fun s5 => (px_gd (vp_in (15 : Int32) (K.2.2 44)) (px_bi (f_M_word_28 K N m3 (0 : Int32) s5 t) (fun v11 s8 t9 => (px_bi (f_M_isEscaped K N v11 s8 t9) (fun v16 s13 t14 => (if v16 = 0 then (px_gd (vp_in (15 : Int32) (K.2.2 44)) (px_let (sA s13 44 (15 : Int32).toNatClampNeg (((s5.2.2.1 44) (15 : Int32).toNatClampNeg) + (0 : Int32))) (fun s20 => (l_M_commit_28_28 K N n (m2 + (1 : Int32)) (m3 + (1 : Int32)) s20 t14)))) else (px_bi (f_M_word_28 K N m3 (0 : Int32) s13 t14) (fun v25 s22 t23 => (px_gd (vp_in (15 : Int32) (K.2.2 44)) (px_let (sA s22 44 (15 : Int32).toNatClampNeg (((s5.2.2.1 44) (15 : Int32).toNatClampNeg) + (v25 <<< (((2 : Int32) * m2) &&& 31)))) (fun s28 => (l_M_commit_28_28 K N n (m2 + (1 : Int32)) (m3 + (1 : Int32)) s28 t23))))) (fun x26 s22 t23 => none)))) (fun x17 s13 t14 => none))) (fun x12 s8 t9 => none)))))) else (l_M_commit_28_28 K N n m2 (m3 + (1 : Int32)) s t))))
def a_l_M_commit_28_28 (K : px_K) (z : px_LO) (o : Option Value ⊕ Nat) (w2 : px_W) : Prop := match z with
  | .inr (o', s', t') => o = o' ∧ w2 = px_w K s' t'
  | .inl (70, [], s', t') => px_E px_ET px_P 11 72 70 [some (.ref 28), none, none, none, none] [] (px_w K s' t') o w2
  | _ => False
noncomputable def l_M_commit_28_96 (K : px_K) (N : Nat) (n : Nat) (u3 : Int32) (m4 : Int32) (s : px_S) (t : px_W) : Option px_LO := match n with
  | 0 => none
  | n + 1 => (if (16 : Int32) ≤ m4 then (some (.inl (131, [], s, t))) else (px_bi (f_M_word_28 K N u3 m4 s t) (fun v5 s2 t3 => (px_gd (vp_in (((16 : Int32) * u3) + m4) (K.2.2 40)) (px_let (sA s2 40 (((16 : Int32) * u3) + m4).toNatClampNeg v5) (fun s8 => (if ¬ m4 = 0 then (px_bi (f_M_word_28 K N u3 m4 s8 t3) (fun v14 s11 t12 => (px_gd (vp_in m4 (K.2.2 44)) (px_let (sA s11 44 m4.toNatClampNeg v14) (fun s17 => (l_M_commit_28_96 K N n u3 (m4 + (1 : Int32)) s17 t12))))) (fun x15 s11 t12 => none)) else (px_bi (f_M_word_28 K N u3 m4 s8 t3) (fun v22 s19 t20 => (px_bi (f_M_isEscaped K N v22 s19 t20) (fun v27 s24 t25 => (if v27 = 0 then (px_bi (f_M_word_28 K N u3 m4 s24 t25) (fun v33 s30 t31 => (px_gd (vp_in m4 (K.2.2 44)) (px_let (sA s30 44 m4.toNatClampNeg v33) (fun s36 => (l_M_commit_28_96 K N n u3 (m4 + (1 : Int32)) s36 t31))))) (fun x34 s30 t31 => none)) else (px_gd (vp_in m4 (K.2.2 44)) (px_let (sA s24 44 m4.toNatClampNeg (0 : Int32)) (fun s39 => (l_M_commit_28_96 K N n u3 (m4 + (1 : Int32)) s39 t25)))))) (fun x28 s24 t25 => none))) (fun x23 s19 t20 => none))))))) (fun x6 s2 t3 => none)))
def a_l_M_commit_28_96 (K : px_K) (u3 : Int32) (z : px_LO) (o : Option Value ⊕ Nat) (w2 : px_W) : Prop := match z with
  | .inr (o', s', t') => o = o' ∧ w2 = px_w K s' t'
  | .inl (131, [], s', t') => px_E px_ET px_P 11 72 131 [some (.ref 28), none, none, some (.int u3), none] [] (px_w K s' t') o w2
  | _ => False
noncomputable def l_M_commit_28_79 (K : px_K) (N : Nat) (n : Nat) (m3 : Int32) (s : px_S) (t : px_W) : Option px_LO := match n with
  | 0 => none
  | n + 1 => (if (106 : Int32) ≤ m3 then (some (.inl (150, [], s, t))) else (px_gd (vp_in m3 (K.2.2 41)) (if ¬ ((s.2.2.1 41) m3.toNatClampNeg) = 0 then (px_let (sR s 37 ((s.1 37) + (1 : Int32))) (fun s4 => (px_lp (l_M_commit_28_96 K N N m3 (0 : Int32) s4 t) (fun i6 vs7 s8 t9 => (if i6 = 131 then (px_v0 vs7 (px_bv (f_M_writeVolume_28_44 K N (s8.1 37) (0 : Int32) s8 t9) (fun s13 t14 => (px_gd (vp_in m3 (K.2.2 41)) (px_let (sA s13 41 m3.toNatClampNeg (0 : Int32)) (fun s19 => (px_gd (vp_in m3 (K.2.2 42)) (px_let (sA s19 42 m3.toNatClampNeg (1 : Int32)) (fun s22 => (l_M_commit_28_79 K N n (m3 + (1 : Int32)) s22 t14)))))))) (fun x17 s13 t14 => none))) else none)) (fun z11 => some (.inr z11))))) else (l_M_commit_28_79 K N n (m3 + (1 : Int32)) s t))))
def a_l_M_commit_28_79 (K : px_K) (z : px_LO) (o : Option Value ⊕ Nat) (w2 : px_W) : Prop := match z with
  | .inr (o', s', t') => o = o' ∧ w2 = px_w K s' t'
  | .inl (150, [], s', t') => px_E px_ET px_P 11 72 150 [some (.ref 28), none, none, none, none] [] (px_w K s' t') o w2
  | _ => False
set_option maxRecDepth 100000 in
theorem e_l_M_commit_28_28 (K : px_K) (N : Nat) : ∀ (n : Nat) (m2 : Int32) (m3 : Int32) (s : px_S) (t : px_W) (z : px_LO), l_M_commit_28_28 K N n m2 m3 s t = some z → ∀ (o : Option Value ⊕ Nat) (w2 : px_W), a_l_M_commit_28_28 K z o w2 → px_E px_ET px_P 11 72 28 [some (.ref 28), none, some (.int m2), some (.int m3), none] [] (px_w K s t) o w2 := by
  have hM : px_P[72]? = some pm_M_commit := rfl
  intro n
  induction n with
  | zero => intro m2 m3 s t z h; cases h
  | succ n ih =>
    intro m2 m3 s t z h o w2 ha
    unfold l_M_commit_28_28 at h
    refine px_blkif (c := (106 : Int32) ≤ m3) (t := 70) (e := 31) (L' := [some (.ref 28), none, some (.int m2), some (.int m3), none]) (S' := []) (w' := px_w K s t) (q := []) 3 hM rfl trivial (fun hc1 => ?_) (fun hc1 => ?_)
    · rw [if_pos hc1] at h
      cases h
      exact px_E_le (px_leC_L _ _ (by simp [px_leC, px_le1, Value.category])) ha
    · rw [if_neg hc1] at h
      obtain ⟨hq2, h⟩ := px_gd_some h
      refine px_blkif (c := ¬ ((s.2.2.1 41) m3.toNatClampNeg) = 0) (t := 37) (e := 36) (L' := [some (.ref 28), none, some (.int m2), some (.int m3), none]) (S' := []) (w' := px_w K s t) (q := [vp_in m3 (K.2.2 41)]) 5 hM rfl (show vp_in m3 (K.2.2 41) from hq2) (fun hc3 => ?_) (fun hc3 => ?_)
      · rw [if_pos hc3] at h
        obtain ⟨hq4, h⟩ := px_gd_some h
        refine px_blk (i' := 44) (L' := [some (.ref 28), none, some (.int m2), some (.int m3), none]) (S' := []) (w' := px_w K (sA s 44 ((3 : Int32) + m2).toNatClampNeg m3) t) (q := [vp_in ((3 : Int32) + m2) (K.2.2 44)]) 7 hM rfl (show vp_in ((3 : Int32) + m2) (K.2.2 44) from hq4) ?_
        obtain ⟨s5, hs6, h⟩ := px_let_some h
        rw [← hs6]
        obtain ⟨hq7, h⟩ := px_gd_some h
        refine px_blk (i' := 52) (L' := [some (.ref 28), none, some (.int m2), some (.int m3), none]) (S' := [.int (0 : Int32), .int m3, .ref 28, .int ((s5.2.2.1 44) (15 : Int32).toNatClampNeg), .int (15 : Int32), .ref 44]) (w' := px_w K s5 t) (q := [vp_in (15 : Int32) (K.2.2 44)]) 8 hM rfl (show vp_in (15 : Int32) (K.2.2 44) from hq7) ?_
        rcases px_bi_some h with ⟨v11, s8, t9, hk10, h⟩ | ⟨x12, s8, t9, hk10, h⟩
        · refine px_E_call hM rfl rfl rfl rfl (px_E_mono (by decide) (e_M_word_28 K N m3 (0 : Int32) s5 t _ hk10)) ?_
          rcases px_bi_some h with ⟨v16, s13, t14, hk15, h⟩ | ⟨x17, s13, t14, hk15, h⟩
          · refine px_E_call hM rfl rfl rfl rfl (px_E_mono (by decide) (e_M_isEscaped K N v11 s8 t9 _ hk15)) ?_
            refine px_blkif (c := v16 = 0) (t := 64) (e := 55) (L' := [some (.ref 28), none, some (.int m2), some (.int m3), none]) (S' := [.int ((s5.2.2.1 44) (15 : Int32).toNatClampNeg), .int (15 : Int32), .ref 44]) (w' := px_w K s13 t14) (q := []) 1 hM rfl trivial (fun hc18 => ?_) (fun hc18 => ?_)
            · rw [if_pos hc18] at h
              obtain ⟨hq19, h⟩ := px_gd_some h
              refine px_blk (i' := 67) (L' := [some (.ref 28), none, some (.int m2), some (.int m3), none]) (S' := []) (w' := px_w K (sA s13 44 (15 : Int32).toNatClampNeg (((s5.2.2.1 44) (15 : Int32).toNatClampNeg) + (0 : Int32))) t14) (q := [vp_in (15 : Int32) (K.2.2 44)]) 3 hM rfl (show vp_in (15 : Int32) (K.2.2 44) from hq19) ?_
              obtain ⟨s20, hs21, h⟩ := px_let_some h
              rw [← hs21]
              refine px_blk (i' := 28) (L' := [some (.ref 28), none, some (.int (m2 + (1 : Int32))), some (.int (m3 + (1 : Int32))), none]) (S' := []) (w' := px_w K s20 t14) (q := []) 3 hM rfl trivial ?_
              exact ih (m2 + (1 : Int32)) (m3 + (1 : Int32)) s20 t14 z h o w2 ha
            · rw [if_neg hc18] at h
              refine px_blk (i' := 58) (L' := [some (.ref 28), none, some (.int m2), some (.int m3), none]) (S' := [.int (0 : Int32), .int m3, .ref 28, .int ((s5.2.2.1 44) (15 : Int32).toNatClampNeg), .int (15 : Int32), .ref 44]) (w' := px_w K s13 t14) (q := []) 3 hM rfl trivial ?_
              rcases px_bi_some h with ⟨v25, s22, t23, hk24, h⟩ | ⟨x26, s22, t23, hk24, h⟩
              · refine px_E_call hM rfl rfl rfl rfl (px_E_mono (by decide) (e_M_word_28 K N m3 (0 : Int32) s13 t14 _ hk24)) ?_
                obtain ⟨hq27, h⟩ := px_gd_some h
                refine px_blk (i' := 67) (L' := [some (.ref 28), none, some (.int m2), some (.int m3), none]) (S' := []) (w' := px_w K (sA s22 44 (15 : Int32).toNatClampNeg (((s5.2.2.1 44) (15 : Int32).toNatClampNeg) + (v25 <<< (((2 : Int32) * m2) &&& 31)))) t23) (q := [vp_in (15 : Int32) (K.2.2 44)]) 7 hM rfl (show vp_in (15 : Int32) (K.2.2 44) from hq27) ?_
                obtain ⟨s28, hs29, h⟩ := px_let_some h
                rw [← hs29]
                refine px_blk (i' := 28) (L' := [some (.ref 28), none, some (.int (m2 + (1 : Int32))), some (.int (m3 + (1 : Int32))), none]) (S' := []) (w' := px_w K s28 t23) (q := []) 3 hM rfl trivial ?_
                exact ih (m2 + (1 : Int32)) (m3 + (1 : Int32)) s28 t23 z h o w2 ha
              · cases h
          · cases h
        · cases h
      · rw [if_neg hc3] at h
        refine px_blk (i' := 28) (L' := [some (.ref 28), none, some (.int m2), some (.int (m3 + (1 : Int32))), none]) (S' := []) (w' := px_w K s t) (q := []) 3 hM rfl trivial ?_
        exact ih m2 (m3 + (1 : Int32)) s t z h o w2 ha
set_option maxRecDepth 100000 in
theorem e_l_M_commit_28_96 (K : px_K) (N : Nat) (u3 : Int32) : ∀ (n : Nat) (m4 : Int32) (s : px_S) (t : px_W) (z : px_LO), l_M_commit_28_96 K N n u3 m4 s t = some z → ∀ (o : Option Value ⊕ Nat) (w2 : px_W), a_l_M_commit_28_96 K u3 z o w2 → px_E px_ET px_P 11 72 96 [some (.ref 28), none, none, some (.int u3), some (.int m4)] [] (px_w K s t) o w2 := by
  have hM : px_P[72]? = some pm_M_commit := rfl
  intro n
  induction n with
  | zero => intro m4 s t z h; cases h
  | succ n ih =>
    intro m4 s t z h o w2 ha
    unfold l_M_commit_28_96 at h
    refine px_blkif (c := (16 : Int32) ≤ m4) (t := 131) (e := 99) (L' := [some (.ref 28), none, none, some (.int u3), some (.int m4)]) (S' := []) (w' := px_w K s t) (q := []) 3 hM rfl trivial (fun hc1 => ?_) (fun hc1 => ?_)
    · rw [if_pos hc1] at h
      cases h
      exact px_E_le (px_leC_L _ _ (by simp [px_leC, px_le1, Value.category])) ha
    · rw [if_neg hc1] at h
      refine px_blk (i' := 109) (L' := [some (.ref 28), none, none, some (.int u3), some (.int m4)]) (S' := [.int m4, .int u3, .ref 28, .int (((16 : Int32) * u3) + m4), .ref 40]) (w' := px_w K s t) (q := []) 10 hM rfl trivial ?_
      rcases px_bi_some h with ⟨v5, s2, t3, hk4, h⟩ | ⟨x6, s2, t3, hk4, h⟩
      · refine px_E_call hM rfl rfl rfl rfl (px_E_mono (by decide) (e_M_word_28 K N u3 m4 s t _ hk4)) ?_
        obtain ⟨hq7, h⟩ := px_gd_some h
        refine px_blk (i' := 111) (L' := [some (.ref 28), none, none, some (.int u3), some (.int m4)]) (S' := []) (w' := px_w K (sA s2 40 (((16 : Int32) * u3) + m4).toNatClampNeg v5) t3) (q := [vp_in (((16 : Int32) * u3) + m4) (K.2.2 40)]) 1 hM rfl (show vp_in (((16 : Int32) * u3) + m4) (K.2.2 40) from hq7) ?_
        obtain ⟨s8, hs9, h⟩ := px_let_some h
        rw [← hs9]
        refine px_blkif (c := ¬ m4 = 0) (t := 124) (e := 116) (L' := [some (.ref 28), none, none, some (.int u3), some (.int m4)]) (S' := [.int m4, .ref 44]) (w' := px_w K s8 t3) (q := []) 5 hM rfl trivial (fun hc10 => ?_) (fun hc10 => ?_)
        · rw [if_pos hc10] at h
          refine px_blk (i' := 127) (L' := [some (.ref 28), none, none, some (.int u3), some (.int m4)]) (S' := [.int m4, .int u3, .ref 28, .int m4, .ref 44]) (w' := px_w K s8 t3) (q := []) 3 hM rfl trivial ?_
          rcases px_bi_some h with ⟨v14, s11, t12, hk13, h⟩ | ⟨x15, s11, t12, hk13, h⟩
          · refine px_E_call hM rfl rfl rfl rfl (px_E_mono (by decide) (e_M_word_28 K N u3 m4 s8 t3 _ hk13)) ?_
            obtain ⟨hq16, h⟩ := px_gd_some h
            refine px_blk (i' := 129) (L' := [some (.ref 28), none, none, some (.int u3), some (.int m4)]) (S' := []) (w' := px_w K (sA s11 44 m4.toNatClampNeg v14) t12) (q := [vp_in m4 (K.2.2 44)]) 1 hM rfl (show vp_in m4 (K.2.2 44) from hq16) ?_
            obtain ⟨s17, hs18, h⟩ := px_let_some h
            rw [← hs18]
            refine px_blk (i' := 96) (L' := [some (.ref 28), none, none, some (.int u3), some (.int (m4 + (1 : Int32)))]) (S' := []) (w' := px_w K s17 t12) (q := []) 2 hM rfl trivial ?_
            exact ih (m4 + (1 : Int32)) s17 t12 z h o w2 ha
          · cases h
        · rw [if_neg hc10] at h
          refine px_blk (i' := 119) (L' := [some (.ref 28), none, none, some (.int u3), some (.int m4)]) (S' := [.int m4, .int u3, .ref 28, .int m4, .ref 44]) (w' := px_w K s8 t3) (q := []) 3 hM rfl trivial ?_
          rcases px_bi_some h with ⟨v22, s19, t20, hk21, h⟩ | ⟨x23, s19, t20, hk21, h⟩
          · refine px_E_call hM rfl rfl rfl rfl (px_E_mono (by decide) (e_M_word_28 K N u3 m4 s8 t3 _ hk21)) ?_
            rcases px_bi_some h with ⟨v27, s24, t25, hk26, h⟩ | ⟨x28, s24, t25, hk26, h⟩
            · refine px_E_call hM rfl rfl rfl rfl (px_E_mono (by decide) (e_M_isEscaped K N v22 s19 t20 _ hk26)) ?_
              refine px_blkif (c := v27 = 0) (t := 124) (e := 122) (L' := [some (.ref 28), none, none, some (.int u3), some (.int m4)]) (S' := [.int m4, .ref 44]) (w' := px_w K s24 t25) (q := []) 1 hM rfl trivial (fun hc29 => ?_) (fun hc29 => ?_)
              · rw [if_pos hc29] at h
                refine px_blk (i' := 127) (L' := [some (.ref 28), none, none, some (.int u3), some (.int m4)]) (S' := [.int m4, .int u3, .ref 28, .int m4, .ref 44]) (w' := px_w K s24 t25) (q := []) 3 hM rfl trivial ?_
                rcases px_bi_some h with ⟨v33, s30, t31, hk32, h⟩ | ⟨x34, s30, t31, hk32, h⟩
                · refine px_E_call hM rfl rfl rfl rfl (px_E_mono (by decide) (e_M_word_28 K N u3 m4 s24 t25 _ hk32)) ?_
                  obtain ⟨hq35, h⟩ := px_gd_some h
                  refine px_blk (i' := 129) (L' := [some (.ref 28), none, none, some (.int u3), some (.int m4)]) (S' := []) (w' := px_w K (sA s30 44 m4.toNatClampNeg v33) t31) (q := [vp_in m4 (K.2.2 44)]) 1 hM rfl (show vp_in m4 (K.2.2 44) from hq35) ?_
                  obtain ⟨s36, hs37, h⟩ := px_let_some h
                  rw [← hs37]
                  refine px_blk (i' := 96) (L' := [some (.ref 28), none, none, some (.int u3), some (.int (m4 + (1 : Int32)))]) (S' := []) (w' := px_w K s36 t31) (q := []) 2 hM rfl trivial ?_
                  exact ih (m4 + (1 : Int32)) s36 t31 z h o w2 ha
                · cases h
              · rw [if_neg hc29] at h
                obtain ⟨hq38, h⟩ := px_gd_some h
                refine px_blk (i' := 129) (L' := [some (.ref 28), none, none, some (.int u3), some (.int m4)]) (S' := []) (w' := px_w K (sA s24 44 m4.toNatClampNeg (0 : Int32)) t25) (q := [vp_in m4 (K.2.2 44)]) 3 hM rfl (show vp_in m4 (K.2.2 44) from hq38) ?_
                obtain ⟨s39, hs40, h⟩ := px_let_some h
                rw [← hs40]
                refine px_blk (i' := 96) (L' := [some (.ref 28), none, none, some (.int u3), some (.int (m4 + (1 : Int32)))]) (S' := []) (w' := px_w K s39 t25) (q := []) 2 hM rfl trivial ?_
                exact ih (m4 + (1 : Int32)) s39 t25 z h o w2 ha
            · cases h
          · cases h
      · cases h
set_option maxRecDepth 100000 in
theorem e_l_M_commit_28_79 (K : px_K) (N : Nat) : ∀ (n : Nat) (m3 : Int32) (s : px_S) (t : px_W) (z : px_LO), l_M_commit_28_79 K N n m3 s t = some z → ∀ (o : Option Value ⊕ Nat) (w2 : px_W), a_l_M_commit_28_79 K z o w2 → px_E px_ET px_P 11 72 79 [some (.ref 28), none, none, some (.int m3), none] [] (px_w K s t) o w2 := by
  have hM : px_P[72]? = some pm_M_commit := rfl
  intro n
  induction n with
  | zero => intro m3 s t z h; cases h
  | succ n ih =>
    intro m3 s t z h o w2 ha
    unfold l_M_commit_28_79 at h
    refine px_blkif (c := (106 : Int32) ≤ m3) (t := 150) (e := 82) (L' := [some (.ref 28), none, none, some (.int m3), none]) (S' := []) (w' := px_w K s t) (q := []) 3 hM rfl trivial (fun hc1 => ?_) (fun hc1 => ?_)
    · rw [if_pos hc1] at h
      cases h
      exact px_E_le (px_leC_L _ _ (by simp [px_leC, px_le1, Value.category])) ha
    · rw [if_neg hc1] at h
      obtain ⟨hq2, h⟩ := px_gd_some h
      refine px_blkif (c := ¬ ((s.2.2.1 41) m3.toNatClampNeg) = 0) (t := 88) (e := 87) (L' := [some (.ref 28), none, none, some (.int m3), none]) (S' := []) (w' := px_w K s t) (q := [vp_in m3 (K.2.2 41)]) 5 hM rfl (show vp_in m3 (K.2.2 41) from hq2) (fun hc3 => ?_) (fun hc3 => ?_)
      · rw [if_pos hc3] at h
        refine px_blk (i' := 94) (L' := [some (.ref 28), none, none, some (.int m3), none]) (S' := []) (w' := px_w K (sR s 37 ((s.1 37) + (1 : Int32))) t) (q := []) 6 hM rfl trivial ?_
        obtain ⟨s4, hs5, h⟩ := px_let_some h
        rw [← hs5]
        refine px_blk (i' := 96) (L' := [some (.ref 28), none, none, some (.int m3), some (.int (0 : Int32))]) (S' := []) (w' := px_w K s4 t) (q := []) 2 hM rfl trivial ?_
        rcases px_lp_some h with ⟨i6, vs7, s8, t9, hl10, h⟩ | ⟨z11, hl10, h⟩
        · by_cases hi12 : i6 = 131
          · subst hi12
            rw [if_pos rfl] at h
            have h9 := px_v0_some h
            clear h
            obtain ⟨rfl, h⟩ := h9
            refine e_l_M_commit_28_96 K N m3 N (0 : Int32) s4 t _ hl10 _ _ ?_
            show px_E px_ET px_P 11 72 131 [some (.ref 28), none, none, some (.int m3), none] [] (px_w K s8 t9) _ _
            refine px_blk (i' := 137) (L' := [some (.ref 28), none, none, some (.int m3), none]) (S' := [.int (0 : Int32), .ref 44, .int (s8.1 37), .ref 28]) (w' := px_w K s8 t9) (q := []) 6 hM rfl trivial ?_
            rcases px_bv_some h with ⟨s13, t14, hk15, h⟩ | ⟨x17, s13, t14, hk15, h⟩
            · refine px_E_call hM rfl rfl rfl rfl (px_E_mono (by decide) (e_M_writeVolume_28_44 K N (s8.1 37) (0 : Int32) s8 t9 _ hk15)) ?_
              obtain ⟨hq18, h⟩ := px_gd_some h
              refine px_blk (i' := 143) (L' := [some (.ref 28), none, none, some (.int m3), none]) (S' := []) (w' := px_w K (sA s13 41 m3.toNatClampNeg (0 : Int32)) t14) (q := [vp_in m3 (K.2.2 41), (0 : Int32) = 0 ∨ (0 : Int32) = 1]) 5 hM rfl (show (vp_in m3 (K.2.2 41)) ∧ ((0 : Int32) = 0 ∨ (0 : Int32) = 1) from ⟨hq18, Or.inl rfl⟩) ?_
              obtain ⟨s19, hs20, h⟩ := px_let_some h
              rw [← hs20]
              obtain ⟨hq21, h⟩ := px_gd_some h
              refine px_blk (i' := 148) (L' := [some (.ref 28), none, none, some (.int m3), none]) (S' := []) (w' := px_w K (sA s19 42 m3.toNatClampNeg (1 : Int32)) t14) (q := [vp_in m3 (K.2.2 42), (1 : Int32) = 0 ∨ (1 : Int32) = 1]) 5 hM rfl (show (vp_in m3 (K.2.2 42)) ∧ ((1 : Int32) = 0 ∨ (1 : Int32) = 1) from ⟨hq21, Or.inr rfl⟩) ?_
              obtain ⟨s22, hs23, h⟩ := px_let_some h
              rw [← hs23]
              refine px_blk (i' := 79) (L' := [some (.ref 28), none, none, some (.int (m3 + (1 : Int32))), none]) (S' := []) (w' := px_w K s22 t14) (q := []) 2 hM rfl trivial ?_
              exact ih (m3 + (1 : Int32)) s22 t14 z h o w2 ha
            · cases h
          · rw [if_neg hi12] at h
            cases h
        · cases h
          obtain ⟨rfl, rfl⟩ := ha
          exact e_l_M_commit_28_96 K N m3 N (0 : Int32) s4 t _ hl10 _ _ ⟨rfl, rfl⟩
      · rw [if_neg hc3] at h
        refine px_blk (i' := 79) (L' := [some (.ref 28), none, none, some (.int (m3 + (1 : Int32))), none]) (S' := []) (w' := px_w K s t) (q := []) 3 hM rfl trivial ?_
        exact ih (m3 + (1 : Int32)) s t z h o w2 ha
noncomputable def f_M_commit_28 (K : px_K) (N : Nat) (s : px_S) (t : px_W) : Option px_Res :=
  (px_bi (f_M_changes_28 K N s t) (fun v4 s1 t2 => (if ¬ v4 = 0 then (if (v4 + (2 : Int32)) ≤ ((29 : Int32) - (s1.1 37)) then (px_bv (f_M_three_28_44 K N (1 : Int32) (s1.1 36) v4 s1 t2) (fun s8 t9 => (px_lp (l_M_commit_28_28 K N N (0 : Int32) (0 : Int32) s8 t9) (fun i13 vs14 s15 t16 => (if i13 = 70 then (px_v0 vs14 (px_bv (f_M_writeVolume_28_44 K N (s15.1 37) (0 : Int32) s15 t16) (fun s20 t21 => (px_lp (l_M_commit_28_79 K N N (0 : Int32) s20 t21) (fun i25 vs26 s27 t28 => (if i25 = 150 then (px_v0 vs26 (px_let (sR s27 37 ((s27.1 37) + (1 : Int32))) (fun s32 => (px_bv (f_M_flushVolume_28 K N s32 t28) (fun s34 t35 => (px_bv (f_M_three_28_44 K N (2 : Int32) (s34.1 36) (0 : Int32) s34 t35) (fun s39 t40 => (px_bv (f_M_writeVolume_28_44 K N (s39.1 37) (0 : Int32) s39 t40) (fun s44 t45 => (px_let (sR s44 37 ((s44.1 37) + (1 : Int32))) (fun s49 => (px_bv (f_M_flushVolume_28 K N s49 t45) (fun s51 t52 => (px_let (sR s51 36 ((s51.1 36) + (1 : Int32))) (fun s56 => (some (.inl none, s56, t52))))) (fun x55 s51 t52 => none))))) (fun x48 s44 t45 => none))) (fun x43 s39 t40 => none))) (fun x38 s34 t35 => none))))) else none)) (fun z30 => some z30))) (fun x24 s20 t21 => none))) else none)) (fun z18 => some z18))) (fun x12 s8 t9 => none)) else (px_bv (f_M_bringHome_28 K N s1 t2) (fun s58 t59 => (px_bv (f_M_three_28_44 K N (1 : Int32) (s58.1 36) v4 s58 t59) (fun s63 t64 => (px_lp (l_M_commit_28_28 K N N (0 : Int32) (0 : Int32) s63 t64) (fun i68 vs69 s70 t71 => (if i68 = 70 then (px_v0 vs69 (px_bv (f_M_writeVolume_28_44 K N (s70.1 37) (0 : Int32) s70 t71) (fun s75 t76 => (px_lp (l_M_commit_28_79 K N N (0 : Int32) s75 t76) (fun i80 vs81 s82 t83 => (if i80 = 150 then (px_v0 vs81 (px_let (sR s82 37 ((s82.1 37) + (1 : Int32))) (fun s87 => (px_bv (f_M_flushVolume_28 K N s87 t83) (fun s89 t90 => (px_bv (f_M_three_28_44 K N (2 : Int32) (s89.1 36) (0 : Int32) s89 t90) (fun s94 t95 => (px_bv (f_M_writeVolume_28_44 K N (s94.1 37) (0 : Int32) s94 t95) (fun s99 t100 => (px_let (sR s99 37 ((s99.1 37) + (1 : Int32))) (fun s104 => (px_bv (f_M_flushVolume_28 K N s104 t100) (fun s106 t107 => (px_let (sR s106 36 ((s106.1 36) + (1 : Int32))) (fun s111 => (some (.inl none, s111, t107))))) (fun x110 s106 t107 => none))))) (fun x103 s99 t100 => none))) (fun x98 s94 t95 => none))) (fun x93 s89 t90 => none))))) else none)) (fun z85 => some z85))) (fun x79 s75 t76 => none))) else none)) (fun z73 => some z73))) (fun x67 s63 t64 => none))) (fun x62 s58 t59 => none))) else (some (.inl none, s1, t2)))) (fun x5 s1 t2 => none))
set_option maxRecDepth 100000 in
theorem e_M_commit_28 (K : px_K) (N : Nat) (s : px_S) (t : px_W) (r : px_Res) (h : f_M_commit_28 K N s t = some r) : px_E px_ET px_P 11 72 0 (px_ent 5 [.ref 28]) [] (px_w K s t) r.1 (px_w K r.2.1 r.2.2) := by
  have hM : px_P[72]? = some pm_M_commit := rfl
  unfold f_M_commit_28 at h
  refine px_blk (i' := 1) (L' := [some (.ref 28), none, none, none, none]) (S' := [.ref 28]) (w' := px_w K s t) (q := []) 1 hM rfl trivial ?_
  rcases px_bi_some h with ⟨v4, s1, t2, hk3, h⟩ | ⟨x5, s1, t2, hk3, h⟩
  · refine px_E_call hM rfl rfl rfl rfl (px_E_mono (by decide) (e_M_changes_28 K N s t _ hk3)) ?_
    refine px_blkif (c := ¬ v4 = 0) (t := 6) (e := 5) (L' := [some (.ref 28), some (.int v4), none, none, none]) (S' := []) (w' := px_w K s1 t2) (q := []) 3 hM rfl trivial (fun hc6 => ?_) (fun hc6 => ?_)
    · rw [if_pos hc6] at h
      refine px_blkif (c := (v4 + (2 : Int32)) ≤ ((29 : Int32) - (s1.1 37))) (t := 16) (e := 14) (L' := [some (.ref 28), some (.int v4), none, none, none]) (S' := []) (w' := px_w K s1 t2) (q := []) 8 hM rfl trivial (fun hc7 => ?_) (fun hc7 => ?_)
      · rw [if_pos hc7] at h
        refine px_blk (i' := 23) (L' := [some (.ref 28), some (.int v4), none, none, none]) (S' := [.int v4, .int (s1.1 36), .int (1 : Int32), .ref 44, .ref 28]) (w' := px_w K s1 t2) (q := []) 7 hM rfl trivial ?_
        rcases px_bv_some h with ⟨s8, t9, hk10, h⟩ | ⟨x12, s8, t9, hk10, h⟩
        · refine px_E_call hM rfl rfl rfl rfl (px_E_mono (by decide) (e_M_three_28_44 K N (1 : Int32) (s1.1 36) v4 s1 t2 _ hk10)) ?_
          refine px_blk (i' := 28) (L' := [some (.ref 28), some (.int v4), some (.int (0 : Int32)), some (.int (0 : Int32)), none]) (S' := []) (w' := px_w K s8 t9) (q := []) 4 hM rfl trivial ?_
          rcases px_lp_some h with ⟨i13, vs14, s15, t16, hl17, h⟩ | ⟨z18, hl17, h⟩
          · by_cases hi19 : i13 = 70
            · subst hi19
              rw [if_pos rfl] at h
              have h9 := px_v0_some h
              clear h
              obtain ⟨rfl, h⟩ := h9
              refine px_E_le (px_leC_L _ _ (by simp [px_leC, px_le1, Value.category])) (e_l_M_commit_28_28 K N N (0 : Int32) (0 : Int32) s8 t9 _ hl17 _ _ ?_)
              show px_E px_ET px_P 11 72 70 [some (.ref 28), none, none, none, none] [] (px_w K s15 t16) _ _
              refine px_blk (i' := 76) (L' := [some (.ref 28), none, none, none, none]) (S' := [.int (0 : Int32), .ref 44, .int (s15.1 37), .ref 28]) (w' := px_w K s15 t16) (q := []) 6 hM rfl trivial ?_
              rcases px_bv_some h with ⟨s20, t21, hk22, h⟩ | ⟨x24, s20, t21, hk22, h⟩
              · refine px_E_call hM rfl rfl rfl rfl (px_E_mono (by decide) (e_M_writeVolume_28_44 K N (s15.1 37) (0 : Int32) s15 t16 _ hk22)) ?_
                refine px_blk (i' := 79) (L' := [some (.ref 28), none, none, some (.int (0 : Int32)), none]) (S' := []) (w' := px_w K s20 t21) (q := []) 2 hM rfl trivial ?_
                rcases px_lp_some h with ⟨i25, vs26, s27, t28, hl29, h⟩ | ⟨z30, hl29, h⟩
                · by_cases hi31 : i25 = 150
                  · subst hi31
                    rw [if_pos rfl] at h
                    have h9 := px_v0_some h
                    clear h
                    obtain ⟨rfl, h⟩ := h9
                    refine e_l_M_commit_28_79 K N N (0 : Int32) s20 t21 _ hl29 _ _ ?_
                    show px_E px_ET px_P 11 72 150 [some (.ref 28), none, none, none, none] [] (px_w K s27 t28) _ _
                    refine px_blk (i' := 156) (L' := [some (.ref 28), none, none, none, none]) (S' := []) (w' := px_w K (sR s27 37 ((s27.1 37) + (1 : Int32))) t28) (q := []) 6 hM rfl trivial ?_
                    obtain ⟨s32, hs33, h⟩ := px_let_some h
                    rw [← hs33]
                    refine px_blk (i' := 157) (L' := [some (.ref 28), none, none, none, none]) (S' := [.ref 28]) (w' := px_w K s32 t28) (q := []) 1 hM rfl trivial ?_
                    rcases px_bv_some h with ⟨s34, t35, hk36, h⟩ | ⟨x38, s34, t35, hk36, h⟩
                    · refine px_E_call hM rfl rfl rfl rfl (px_E_mono (by decide) (e_M_flushVolume_28 K N s32 t28 _ hk36)) ?_
                      refine px_blk (i' := 165) (L' := [some (.ref 28), none, none, none, none]) (S' := [.int (0 : Int32), .int (s34.1 36), .int (2 : Int32), .ref 44, .ref 28]) (w' := px_w K s34 t35) (q := []) 7 hM rfl trivial ?_
                      rcases px_bv_some h with ⟨s39, t40, hk41, h⟩ | ⟨x43, s39, t40, hk41, h⟩
                      · refine px_E_call hM rfl rfl rfl rfl (px_E_mono (by decide) (e_M_three_28_44 K N (2 : Int32) (s34.1 36) (0 : Int32) s34 t35 _ hk41)) ?_
                        refine px_blk (i' := 172) (L' := [some (.ref 28), none, none, none, none]) (S' := [.int (0 : Int32), .ref 44, .int (s39.1 37), .ref 28]) (w' := px_w K s39 t40) (q := []) 6 hM rfl trivial ?_
                        rcases px_bv_some h with ⟨s44, t45, hk46, h⟩ | ⟨x48, s44, t45, hk46, h⟩
                        · refine px_E_call hM rfl rfl rfl rfl (px_E_mono (by decide) (e_M_writeVolume_28_44 K N (s39.1 37) (0 : Int32) s39 t40 _ hk46)) ?_
                          refine px_blk (i' := 179) (L' := [some (.ref 28), none, none, none, none]) (S' := []) (w' := px_w K (sR s44 37 ((s44.1 37) + (1 : Int32))) t45) (q := []) 6 hM rfl trivial ?_
                          obtain ⟨s49, hs50, h⟩ := px_let_some h
                          rw [← hs50]
                          refine px_blk (i' := 180) (L' := [some (.ref 28), none, none, none, none]) (S' := [.ref 28]) (w' := px_w K s49 t45) (q := []) 1 hM rfl trivial ?_
                          rcases px_bv_some h with ⟨s51, t52, hk53, h⟩ | ⟨x55, s51, t52, hk53, h⟩
                          · refine px_E_call hM rfl rfl rfl rfl (px_E_mono (by decide) (e_M_flushVolume_28 K N s49 t45 _ hk53)) ?_
                            refine px_blk (i' := 187) (L' := [some (.ref 28), none, none, none, none]) (S' := []) (w' := px_w K (sR s51 36 ((s51.1 36) + (1 : Int32))) t52) (q := []) 6 hM rfl trivial ?_
                            obtain ⟨s56, hs57, h⟩ := px_let_some h
                            rw [← hs57]
                            cases h
                            exact px_E_ret hM rfl rfl rfl trivial
                          · cases h
                        · cases h
                      · cases h
                    · cases h
                  · rw [if_neg hi31] at h
                    cases h
                · cases h
                  exact e_l_M_commit_28_79 K N N (0 : Int32) s20 t21 _ hl29 _ _ ⟨rfl, rfl⟩
              · cases h
            · rw [if_neg hi19] at h
              cases h
          · cases h
            exact px_E_le (px_leC_L _ _ (by simp [px_leC, px_le1, Value.category])) (e_l_M_commit_28_28 K N N (0 : Int32) (0 : Int32) s8 t9 _ hl17 _ _ ⟨rfl, rfl⟩)
        · cases h
      · rw [if_neg hc7] at h
        refine px_blk (i' := 15) (L' := [some (.ref 28), some (.int v4), none, none, none]) (S' := [.ref 28]) (w' := px_w K s1 t2) (q := []) 1 hM rfl trivial ?_
        rcases px_bv_some h with ⟨s58, t59, hk60, h⟩ | ⟨x62, s58, t59, hk60, h⟩
        · refine px_E_call hM rfl rfl rfl rfl (px_E_mono (by decide) (e_M_bringHome_28 K N s1 t2 _ hk60)) ?_
          refine px_blk (i' := 23) (L' := [some (.ref 28), some (.int v4), none, none, none]) (S' := [.int v4, .int (s58.1 36), .int (1 : Int32), .ref 44, .ref 28]) (w' := px_w K s58 t59) (q := []) 7 hM rfl trivial ?_
          rcases px_bv_some h with ⟨s63, t64, hk65, h⟩ | ⟨x67, s63, t64, hk65, h⟩
          · refine px_E_call hM rfl rfl rfl rfl (px_E_mono (by decide) (e_M_three_28_44 K N (1 : Int32) (s58.1 36) v4 s58 t59 _ hk65)) ?_
            refine px_blk (i' := 28) (L' := [some (.ref 28), some (.int v4), some (.int (0 : Int32)), some (.int (0 : Int32)), none]) (S' := []) (w' := px_w K s63 t64) (q := []) 4 hM rfl trivial ?_
            rcases px_lp_some h with ⟨i68, vs69, s70, t71, hl72, h⟩ | ⟨z73, hl72, h⟩
            · by_cases hi74 : i68 = 70
              · subst hi74
                rw [if_pos rfl] at h
                have h9 := px_v0_some h
                clear h
                obtain ⟨rfl, h⟩ := h9
                refine px_E_le (px_leC_L _ _ (by simp [px_leC, px_le1, Value.category])) (e_l_M_commit_28_28 K N N (0 : Int32) (0 : Int32) s63 t64 _ hl72 _ _ ?_)
                show px_E px_ET px_P 11 72 70 [some (.ref 28), none, none, none, none] [] (px_w K s70 t71) _ _
                refine px_blk (i' := 76) (L' := [some (.ref 28), none, none, none, none]) (S' := [.int (0 : Int32), .ref 44, .int (s70.1 37), .ref 28]) (w' := px_w K s70 t71) (q := []) 6 hM rfl trivial ?_
                rcases px_bv_some h with ⟨s75, t76, hk77, h⟩ | ⟨x79, s75, t76, hk77, h⟩
                · refine px_E_call hM rfl rfl rfl rfl (px_E_mono (by decide) (e_M_writeVolume_28_44 K N (s70.1 37) (0 : Int32) s70 t71 _ hk77)) ?_
                  refine px_blk (i' := 79) (L' := [some (.ref 28), none, none, some (.int (0 : Int32)), none]) (S' := []) (w' := px_w K s75 t76) (q := []) 2 hM rfl trivial ?_
                  rcases px_lp_some h with ⟨i80, vs81, s82, t83, hl84, h⟩ | ⟨z85, hl84, h⟩
                  · by_cases hi86 : i80 = 150
                    · subst hi86
                      rw [if_pos rfl] at h
                      have h9 := px_v0_some h
                      clear h
                      obtain ⟨rfl, h⟩ := h9
                      refine e_l_M_commit_28_79 K N N (0 : Int32) s75 t76 _ hl84 _ _ ?_
                      show px_E px_ET px_P 11 72 150 [some (.ref 28), none, none, none, none] [] (px_w K s82 t83) _ _
                      refine px_blk (i' := 156) (L' := [some (.ref 28), none, none, none, none]) (S' := []) (w' := px_w K (sR s82 37 ((s82.1 37) + (1 : Int32))) t83) (q := []) 6 hM rfl trivial ?_
                      obtain ⟨s87, hs88, h⟩ := px_let_some h
                      rw [← hs88]
                      refine px_blk (i' := 157) (L' := [some (.ref 28), none, none, none, none]) (S' := [.ref 28]) (w' := px_w K s87 t83) (q := []) 1 hM rfl trivial ?_
                      rcases px_bv_some h with ⟨s89, t90, hk91, h⟩ | ⟨x93, s89, t90, hk91, h⟩
                      · refine px_E_call hM rfl rfl rfl rfl (px_E_mono (by decide) (e_M_flushVolume_28 K N s87 t83 _ hk91)) ?_
                        refine px_blk (i' := 165) (L' := [some (.ref 28), none, none, none, none]) (S' := [.int (0 : Int32), .int (s89.1 36), .int (2 : Int32), .ref 44, .ref 28]) (w' := px_w K s89 t90) (q := []) 7 hM rfl trivial ?_
                        rcases px_bv_some h with ⟨s94, t95, hk96, h⟩ | ⟨x98, s94, t95, hk96, h⟩
                        · refine px_E_call hM rfl rfl rfl rfl (px_E_mono (by decide) (e_M_three_28_44 K N (2 : Int32) (s89.1 36) (0 : Int32) s89 t90 _ hk96)) ?_
                          refine px_blk (i' := 172) (L' := [some (.ref 28), none, none, none, none]) (S' := [.int (0 : Int32), .ref 44, .int (s94.1 37), .ref 28]) (w' := px_w K s94 t95) (q := []) 6 hM rfl trivial ?_
                          rcases px_bv_some h with ⟨s99, t100, hk101, h⟩ | ⟨x103, s99, t100, hk101, h⟩
                          · refine px_E_call hM rfl rfl rfl rfl (px_E_mono (by decide) (e_M_writeVolume_28_44 K N (s94.1 37) (0 : Int32) s94 t95 _ hk101)) ?_
                            refine px_blk (i' := 179) (L' := [some (.ref 28), none, none, none, none]) (S' := []) (w' := px_w K (sR s99 37 ((s99.1 37) + (1 : Int32))) t100) (q := []) 6 hM rfl trivial ?_
                            obtain ⟨s104, hs105, h⟩ := px_let_some h
                            rw [← hs105]
                            refine px_blk (i' := 180) (L' := [some (.ref 28), none, none, none, none]) (S' := [.ref 28]) (w' := px_w K s104 t100) (q := []) 1 hM rfl trivial ?_
                            rcases px_bv_some h with ⟨s106, t107, hk108, h⟩ | ⟨x110, s106, t107, hk108, h⟩
                            · refine px_E_call hM rfl rfl rfl rfl (px_E_mono (by decide) (e_M_flushVolume_28 K N s104 t100 _ hk108)) ?_
                              refine px_blk (i' := 187) (L' := [some (.ref 28), none, none, none, none]) (S' := []) (w' := px_w K (sR s106 36 ((s106.1 36) + (1 : Int32))) t107) (q := []) 6 hM rfl trivial ?_
                              obtain ⟨s111, hs112, h⟩ := px_let_some h
                              rw [← hs112]
                              cases h
                              exact px_E_ret hM rfl rfl rfl trivial
                            · cases h
                          · cases h
                        · cases h
                      · cases h
                    · rw [if_neg hi86] at h
                      cases h
                  · cases h
                    exact e_l_M_commit_28_79 K N N (0 : Int32) s75 t76 _ hl84 _ _ ⟨rfl, rfl⟩
                · cases h
              · rw [if_neg hi74] at h
                cases h
            · cases h
              exact px_E_le (px_leC_L _ _ (by simp [px_leC, px_le1, Value.category])) (e_l_M_commit_28_28 K N N (0 : Int32) (0 : Int32) s63 t64 _ hl72 _ _ ⟨rfl, rfl⟩)
          · cases h
        · cases h
    · rw [if_neg hc6] at h
      cases h
      exact px_E_ret hM rfl rfl rfl trivial
  · cases h
noncomputable def f_M_begins_28 (K : px_K) (N : Nat) (s : px_S) (t : px_W) : Option px_Res :=
  (if (s.1 29) = 0 then (px_gd ((s.1 29) = 0 ∨ (s.1 29) = 1) (some (.inl (some (.int (s.1 29))), s, t))) else (px_bi (f_M_changes_28 K N s t) (fun v6 s3 t4 => (if v6 ≤ (7 : Int32) then (px_gd ((s3.1 29) = 0 ∨ (s3.1 29) = 1) (some (.inl (some (.int (s3.1 29))), s3, t4))) else (px_bv (f_M_commit_28 K N s3 t4) (fun s10 t11 => (px_gd ((s10.1 29) = 0 ∨ (s10.1 29) = 1) (some (.inl (some (.int (s10.1 29))), s10, t11)))) (fun x14 s10 t11 => none)))) (fun x7 s3 t4 => none)))
set_option maxRecDepth 100000 in
theorem e_M_begins_28 (K : px_K) (N : Nat) (s : px_S) (t : px_W) (r : px_Res) (h : f_M_begins_28 K N s t = some r) : px_E px_ET px_P 12 74 0 (px_ent 1 [.ref 28]) [] (px_w K s t) r.1 (px_w K r.2.1 r.2.2) := by
  have hM : px_P[74]? = some pm_M_begins := rfl
  unfold f_M_begins_28 at h
  refine px_blkif (c := (s.1 29) = 0) (t := 9) (e := 3) (L' := [some (.ref 28)]) (S' := []) (w' := px_w K s t) (q := []) 3 hM rfl trivial (fun hc1 => ?_) (fun hc1 => ?_)
  · rw [if_pos hc1] at h
    refine px_blk (i' := 11) (L' := [some (.ref 28)]) (S' := [.int (s.1 29)]) (w' := px_w K s t) (q := []) 2 hM rfl trivial ?_
    obtain ⟨hq2, h⟩ := px_gd_some h
    cases h
    exact px_E_ret hM rfl rfl rfl (show (s.1 29) = 0 ∨ (s.1 29) = 1 from hq2)
  · rw [if_neg hc1] at h
    refine px_blk (i' := 4) (L' := [some (.ref 28)]) (S' := [.ref 28]) (w' := px_w K s t) (q := []) 1 hM rfl trivial ?_
    rcases px_bi_some h with ⟨v6, s3, t4, hk5, h⟩ | ⟨x7, s3, t4, hk5, h⟩
    · refine px_E_call hM rfl rfl rfl rfl (px_E_mono (by decide) (e_M_changes_28 K N s t _ hk5)) ?_
      refine px_blkif (c := v6 ≤ (7 : Int32)) (t := 9) (e := 7) (L' := [some (.ref 28)]) (S' := []) (w' := px_w K s3 t4) (q := []) 2 hM rfl trivial (fun hc8 => ?_) (fun hc8 => ?_)
      · rw [if_pos hc8] at h
        refine px_blk (i' := 11) (L' := [some (.ref 28)]) (S' := [.int (s3.1 29)]) (w' := px_w K s3 t4) (q := []) 2 hM rfl trivial ?_
        obtain ⟨hq9, h⟩ := px_gd_some h
        cases h
        exact px_E_ret hM rfl rfl rfl (show (s3.1 29) = 0 ∨ (s3.1 29) = 1 from hq9)
      · rw [if_neg hc8] at h
        refine px_blk (i' := 8) (L' := [some (.ref 28)]) (S' := [.ref 28]) (w' := px_w K s3 t4) (q := []) 1 hM rfl trivial ?_
        rcases px_bv_some h with ⟨s10, t11, hk12, h⟩ | ⟨x14, s10, t11, hk12, h⟩
        · refine px_E_call hM rfl rfl rfl rfl (px_E_mono (by decide) (e_M_commit_28 K N s3 t4 _ hk12)) ?_
          refine px_blk (i' := 11) (L' := [some (.ref 28)]) (S' := [.int (s10.1 29)]) (w' := px_w K s10 t11) (q := []) 2 hM rfl trivial ?_
          obtain ⟨hq15, h⟩ := px_gd_some h
          cases h
          exact px_E_ret hM rfl rfl rfl (show (s10.1 29) = 0 ∨ (s10.1 29) = 1 from hq15)
        · cases h
    · cases h
noncomputable def f_M_answer_28 (K : px_K) (N : Nat) (a0 : Int32) (s : px_S) (t : px_W) : Option px_Res :=
  (some (.inl (some (.int (if (s.1 29) = 0 then (-9 : Int32) else a0))), s, t))
set_option maxRecDepth 100000 in
theorem e_M_answer_28 (K : px_K) (N : Nat) (a0 : Int32) (s : px_S) (t : px_W) (r : px_Res) (h : f_M_answer_28 K N a0 s t = some r) : px_E px_ET px_P 1 75 0 (px_ent 2 [.ref 28, .int a0]) [] (px_w K s t) r.1 (px_w K r.2.1 r.2.2) := by
  have hM : px_P[75]? = some pm_M_answer := rfl
  unfold f_M_answer_28 at h
  refine px_blk (i' := 2) (L' := [some (.ref 28), some (.int a0)]) (S' := [.int (s.1 29)]) (w' := px_w K s t) (q := []) 2 hM rfl trivial ?_
  have hK : px_E px_ET px_P 1 75 6 [some (.ref 28), some (.int a0)] [.int (if (s.1 29) = 0 then (-9 : Int32) else a0)] (px_w K s t) r.1 (px_w K r.2.1 r.2.2) := by
    cases h
    exact px_E_ret hM rfl rfl rfl trivial
  clear h
  refine px_blkif (c := (s.1 29) = 0) (t := 5) (e := 3) (L' := [some (.ref 28), some (.int a0)]) (S' := []) (w' := px_w K s t) (q := []) 1 hM rfl trivial (fun hc1 => ?_) (fun hc1 => ?_)
  · rw [if_pos hc1] at hK
    exact px_blk (i' := 6) (L' := [some (.ref 28), some (.int a0)]) (S' := [.int (-9 : Int32)]) (w' := px_w K s t) (q := []) 1 hM rfl trivial hK
  · rw [if_neg hc1] at hK
    exact px_blk (i' := 6) (L' := [some (.ref 28), some (.int a0)]) (S' := [.int a0]) (w' := px_w K s t) (q := []) 2 hM rfl trivial hK
noncomputable def l_M_make_28_27 (K : px_K) (N : Nat) (n : Nat) (u1 : Int32) (u2 : Int32) (u3 : Int32) (m4 : Int32) (s : px_S) (t : px_W) : Option px_LO := match n with
  | 0 => none
  | n + 1 => (if (24 : Int32) ≤ m4 then (some (.inl (37, [m4], s, t))) else (px_bi (f_M_ofInode_28 K N m4 (0 : Int32) s t) (fun v5 s2 t3 => (if v5 = 0 then (some (.inl (37, [m4], s2, t3))) else (l_M_make_28_27 K N n u1 u2 u3 (m4 + (1 : Int32)) s2 t3))) (fun x6 s2 t3 => none)))
def a_l_M_make_28_27 (K : px_K) (u1 : Int32) (u2 : Int32) (u3 : Int32) (z : px_LO) (o : Option Value ⊕ Nat) (w2 : px_W) : Prop := match z with
  | .inr (o', s', t') => o = o' ∧ w2 = px_w K s' t'
  | .inl (37, [y4], s', t') => px_E px_ET px_P 13 76 37 [some (.ref 28), some (.int u1), some (.int u2), some (.int u3), some (.int y4)] [] (px_w K s' t') o w2
  | _ => False
set_option maxRecDepth 100000 in
theorem e_l_M_make_28_27 (K : px_K) (N : Nat) (u1 : Int32) (u2 : Int32) (u3 : Int32) : ∀ (n : Nat) (m4 : Int32) (s : px_S) (t : px_W) (z : px_LO), l_M_make_28_27 K N n u1 u2 u3 m4 s t = some z → ∀ (o : Option Value ⊕ Nat) (w2 : px_W), a_l_M_make_28_27 K u1 u2 u3 z o w2 → px_E px_ET px_P 13 76 27 [some (.ref 28), some (.int u1), some (.int u2), some (.int u3), some (.int m4)] [] (px_w K s t) o w2 := by
  have hM : px_P[76]? = some pm_M_make := rfl
  intro n
  induction n with
  | zero => intro m4 s t z h; cases h
  | succ n ih =>
    intro m4 s t z h o w2 ha
    unfold l_M_make_28_27 at h
    refine px_blkif (c := (24 : Int32) ≤ m4) (t := 37) (e := 30) (L' := [some (.ref 28), some (.int u1), some (.int u2), some (.int u3), some (.int m4)]) (S' := []) (w' := px_w K s t) (q := []) 3 hM rfl trivial (fun hc1 => ?_) (fun hc1 => ?_)
    · rw [if_pos hc1] at h
      cases h
      exact px_E_le (px_leC_L _ _ (by simp [px_leC, px_le1, Value.category])) ha
    · rw [if_neg hc1] at h
      refine px_blk (i' := 33) (L' := [some (.ref 28), some (.int u1), some (.int u2), some (.int u3), some (.int m4)]) (S' := [.int (0 : Int32), .int m4, .ref 28]) (w' := px_w K s t) (q := []) 3 hM rfl trivial ?_
      rcases px_bi_some h with ⟨v5, s2, t3, hk4, h⟩ | ⟨x6, s2, t3, hk4, h⟩
      · refine px_E_call hM rfl rfl rfl rfl (px_E_mono (by decide) (e_M_ofInode_28 K N m4 (0 : Int32) s t _ hk4)) ?_
        refine px_blkif (c := v5 = 0) (t := 37) (e := 35) (L' := [some (.ref 28), some (.int u1), some (.int u2), some (.int u3), some (.int m4)]) (S' := []) (w' := px_w K s2 t3) (q := []) 1 hM rfl trivial (fun hc7 => ?_) (fun hc7 => ?_)
        · rw [if_pos hc7] at h
          cases h
          exact px_E_le (px_leC_L _ _ (by simp [px_leC, px_le1, Value.category])) ha
        · rw [if_neg hc7] at h
          refine px_blk (i' := 27) (L' := [some (.ref 28), some (.int u1), some (.int u2), some (.int u3), some (.int (m4 + (1 : Int32)))]) (S' := []) (w' := px_w K s2 t3) (q := []) 2 hM rfl trivial ?_
          exact ih (m4 + (1 : Int32)) s2 t3 z h o w2 ha
      · cases h
noncomputable def f_M_make_28 (K : px_K) (N : Nat) (a0 : Int32) (a1 : Int32) (a2 : Int32) (s : px_S) (t : px_W) : Option px_Res :=
  (px_let (sR s 25 (0 : Int32)) (fun s1 => (px_bi (f_M_begins_28 K N s1 t) (fun v6 s3 t4 => (if ¬ v6 = 0 then (px_bi (f_M_isKind_28 K N a0 (1 : Int32) s3 t4) (fun v12 s9 t10 => (if v12 = 0 then (some (.inl (some (.int (-4 : Int32))), s9, t10)) else (if (1 : Int32) ≤ a1 then (px_bi (f_M_placeOf_28 K N a0 a1 s9 t10) (fun v19 s16 t17 => (if v19 < 0 then (px_lp (l_M_make_28_27 K N N a0 a1 a2 (0 : Int32) s16 t17) (fun i22 vs23 s24 t25 => (if i22 = 37 then (px_v1 vs23 (fun y28 => (if y28 = (24 : Int32) then (some (.inl (some (.int (-3 : Int32))), s24, t25)) else (px_bi (f_M_hasRoom_28 K N a0 s24 t25) (fun v34 s31 t32 => (if ¬ v34 = 0 then (px_bv (f_M_tellInode_28 K N y28 (0 : Int32) (if a2 = 0 then (2 : Int32) else (1 : Int32)) s31 t32) (fun s37 t38 => (px_bv (f_M_enter_28 K N a0 a1 y28 s37 t38) (fun s42 t43 => (some (.inl (some (.int y28)), s42, t43))) (fun x46 s42 t43 => none))) (fun x41 s37 t38 => none)) else (some (.inl (some (.int (-3 : Int32))), s31, t32)))) (fun x35 s31 t32 => none))))) else none)) (fun z27 => some z27)) else (some (.inl (some (.int (-2 : Int32))), s16, t17)))) (fun x20 s16 t17 => none)) else (some (.inl (some (.int (-4 : Int32))), s9, t10))))) (fun x13 s9 t10 => none)) else (some (.inl (some (.int (-9 : Int32))), s3, t4)))) (fun x7 s3 t4 => none))))
set_option maxRecDepth 100000 in
theorem e_M_make_28 (K : px_K) (N : Nat) (a0 : Int32) (a1 : Int32) (a2 : Int32) (s : px_S) (t : px_W) (r : px_Res) (h : f_M_make_28 K N a0 a1 a2 s t = some r) : px_E px_ET px_P 13 76 0 (px_ent 5 [.ref 28, .int a0, .int a1, .int a2]) [] (px_w K s t) r.1 (px_w K r.2.1 r.2.2) := by
  have hM : px_P[76]? = some pm_M_make := rfl
  unfold f_M_make_28 at h
  refine px_blk (i' := 3) (L' := [some (.ref 28), some (.int a0), some (.int a1), some (.int a2), none]) (S' := []) (w' := px_w K (sR s 25 (0 : Int32)) t) (q := []) 3 hM rfl trivial ?_
  obtain ⟨s1, hs2, h⟩ := px_let_some h
  rw [← hs2]
  refine px_blk (i' := 4) (L' := [some (.ref 28), some (.int a0), some (.int a1), some (.int a2), none]) (S' := [.ref 28]) (w' := px_w K s1 t) (q := []) 1 hM rfl trivial ?_
  rcases px_bi_some h with ⟨v6, s3, t4, hk5, h⟩ | ⟨x7, s3, t4, hk5, h⟩
  · refine px_E_call hM rfl rfl rfl rfl (px_E_mono (by decide) (e_M_begins_28 K N s1 t _ hk5)) ?_
    refine px_blkif (c := ¬ v6 = 0) (t := 8) (e := 6) (L' := [some (.ref 28), some (.int a0), some (.int a1), some (.int a2), none]) (S' := []) (w' := px_w K s3 t4) (q := []) 1 hM rfl trivial (fun hc8 => ?_) (fun hc8 => ?_)
    · rw [if_pos hc8] at h
      refine px_blk (i' := 11) (L' := [some (.ref 28), some (.int a0), some (.int a1), some (.int a2), none]) (S' := [.int (1 : Int32), .int a0, .ref 28]) (w' := px_w K s3 t4) (q := []) 3 hM rfl trivial ?_
      rcases px_bi_some h with ⟨v12, s9, t10, hk11, h⟩ | ⟨x13, s9, t10, hk11, h⟩
      · refine px_E_call hM rfl rfl rfl rfl (px_E_mono (by decide) (e_M_isKind_28 K N a0 (1 : Int32) s3 t4 _ hk11)) ?_
        refine px_blkif (c := v12 = 0) (t := 16) (e := 13) (L' := [some (.ref 28), some (.int a0), some (.int a1), some (.int a2), none]) (S' := []) (w' := px_w K s9 t10) (q := []) 1 hM rfl trivial (fun hc14 => ?_) (fun hc14 => ?_)
        · rw [if_pos hc14] at h
          refine px_blk (i' := 17) (L' := [some (.ref 28), some (.int a0), some (.int a1), some (.int a2), none]) (S' := [.int (-4 : Int32)]) (w' := px_w K s9 t10) (q := []) 1 hM rfl trivial ?_
          cases h
          exact px_E_ret hM rfl rfl rfl trivial
        · rw [if_neg hc14] at h
          refine px_blkif (c := (1 : Int32) ≤ a1) (t := 18) (e := 16) (L' := [some (.ref 28), some (.int a0), some (.int a1), some (.int a2), none]) (S' := []) (w' := px_w K s9 t10) (q := []) 3 hM rfl trivial (fun hc15 => ?_) (fun hc15 => ?_)
          · rw [if_pos hc15] at h
            refine px_blk (i' := 21) (L' := [some (.ref 28), some (.int a0), some (.int a1), some (.int a2), none]) (S' := [.int a1, .int a0, .ref 28]) (w' := px_w K s9 t10) (q := []) 3 hM rfl trivial ?_
            rcases px_bi_some h with ⟨v19, s16, t17, hk18, h⟩ | ⟨x20, s16, t17, hk18, h⟩
            · refine px_E_call hM rfl rfl rfl rfl (px_E_mono (by decide) (e_M_placeOf_28 K N a0 a1 s9 t10 _ hk18)) ?_
              refine px_blkif (c := v19 < 0) (t := 25) (e := 23) (L' := [some (.ref 28), some (.int a0), some (.int a1), some (.int a2), none]) (S' := []) (w' := px_w K s16 t17) (q := []) 1 hM rfl trivial (fun hc21 => ?_) (fun hc21 => ?_)
              · rw [if_pos hc21] at h
                refine px_blk (i' := 27) (L' := [some (.ref 28), some (.int a0), some (.int a1), some (.int a2), some (.int (0 : Int32))]) (S' := []) (w' := px_w K s16 t17) (q := []) 2 hM rfl trivial ?_
                rcases px_lp_some h with ⟨i22, vs23, s24, t25, hl26, h⟩ | ⟨z27, hl26, h⟩
                · by_cases hi29 : i22 = 37
                  · subst hi29
                    rw [if_pos rfl] at h
                    have h9 := px_v1_some h
                    clear h
                    obtain ⟨y28, rfl, h⟩ := h9
                    refine e_l_M_make_28_27 K N a0 a1 a2 N (0 : Int32) s16 t17 _ hl26 _ _ ?_
                    show px_E px_ET px_P 13 76 37 [some (.ref 28), some (.int a0), some (.int a1), some (.int a2), some (.int y28)] [] (px_w K s24 t25) _ _
                    refine px_blkif (c := y28 = (24 : Int32)) (t := 44) (e := 40) (L' := [some (.ref 28), some (.int a0), some (.int a1), some (.int a2), some (.int y28)]) (S' := []) (w' := px_w K s24 t25) (q := []) 3 hM rfl trivial (fun hc30 => ?_) (fun hc30 => ?_)
                    · rw [if_pos hc30] at h
                      refine px_blk (i' := 45) (L' := [some (.ref 28), some (.int a0), some (.int a1), some (.int a2), some (.int y28)]) (S' := [.int (-3 : Int32)]) (w' := px_w K s24 t25) (q := []) 1 hM rfl trivial ?_
                      cases h
                      exact px_E_ret hM rfl rfl rfl trivial
                    · rw [if_neg hc30] at h
                      refine px_blk (i' := 42) (L' := [some (.ref 28), some (.int a0), some (.int a1), some (.int a2), some (.int y28)]) (S' := [.int a0, .ref 28]) (w' := px_w K s24 t25) (q := []) 2 hM rfl trivial ?_
                      rcases px_bi_some h with ⟨v34, s31, t32, hk33, h⟩ | ⟨x35, s31, t32, hk33, h⟩
                      · refine px_E_call hM rfl rfl rfl rfl (px_E_mono (by decide) (e_M_hasRoom_28 K N a0 s24 t25 _ hk33)) ?_
                        refine px_blkif (c := ¬ v34 = 0) (t := 46) (e := 44) (L' := [some (.ref 28), some (.int a0), some (.int a1), some (.int a2), some (.int y28)]) (S' := []) (w' := px_w K s31 t32) (q := []) 1 hM rfl trivial (fun hc36 => ?_) (fun hc36 => ?_)
                        · rw [if_pos hc36] at h
                          refine px_blk (i' := 50) (L' := [some (.ref 28), some (.int a0), some (.int a1), some (.int a2), some (.int y28)]) (S' := [.int a2, .int (0 : Int32), .int y28, .ref 28]) (w' := px_w K s31 t32) (q := []) 4 hM rfl trivial ?_
                          have hK : px_E px_ET px_P 13 76 54 [some (.ref 28), some (.int a0), some (.int a1), some (.int a2), some (.int y28)] [.int (if a2 = 0 then (2 : Int32) else (1 : Int32)), .int (0 : Int32), .int y28, .ref 28] (px_w K s31 t32) r.1 (px_w K r.2.1 r.2.2) := by
                            rcases px_bv_some h with ⟨s37, t38, hk39, h⟩ | ⟨x41, s37, t38, hk39, h⟩
                            · refine px_E_call hM rfl rfl rfl rfl (px_E_mono (by decide) (e_M_tellInode_28 K N y28 (0 : Int32) (if a2 = 0 then (2 : Int32) else (1 : Int32)) s31 t32 _ hk39)) ?_
                              refine px_blk (i' := 59) (L' := [some (.ref 28), some (.int a0), some (.int a1), some (.int a2), some (.int y28)]) (S' := [.int y28, .int a1, .int a0, .ref 28]) (w' := px_w K s37 t38) (q := []) 4 hM rfl trivial ?_
                              rcases px_bv_some h with ⟨s42, t43, hk44, h⟩ | ⟨x46, s42, t43, hk44, h⟩
                              · refine px_E_call hM rfl rfl rfl rfl (px_E_mono (by decide) (e_M_enter_28 K N a0 a1 y28 s37 t38 _ hk44)) ?_
                                refine px_blk (i' := 61) (L' := [some (.ref 28), some (.int a0), some (.int a1), some (.int a2), some (.int y28)]) (S' := [.int y28]) (w' := px_w K s42 t43) (q := []) 1 hM rfl trivial ?_
                                cases h
                                exact px_E_ret hM rfl rfl rfl trivial
                              · cases h
                            · cases h
                          clear h
                          refine px_blkif (c := a2 = 0) (t := 53) (e := 51) (L' := [some (.ref 28), some (.int a0), some (.int a1), some (.int a2), some (.int y28)]) (S' := [.int (0 : Int32), .int y28, .ref 28]) (w' := px_w K s31 t32) (q := []) 1 hM rfl trivial (fun hc47 => ?_) (fun hc47 => ?_)
                          · rw [if_pos hc47] at hK
                            exact px_blk (i' := 54) (L' := [some (.ref 28), some (.int a0), some (.int a1), some (.int a2), some (.int y28)]) (S' := [.int (2 : Int32), .int (0 : Int32), .int y28, .ref 28]) (w' := px_w K s31 t32) (q := []) 1 hM rfl trivial hK
                          · rw [if_neg hc47] at hK
                            exact px_blk (i' := 54) (L' := [some (.ref 28), some (.int a0), some (.int a1), some (.int a2), some (.int y28)]) (S' := [.int (1 : Int32), .int (0 : Int32), .int y28, .ref 28]) (w' := px_w K s31 t32) (q := []) 2 hM rfl trivial hK
                        · rw [if_neg hc36] at h
                          refine px_blk (i' := 45) (L' := [some (.ref 28), some (.int a0), some (.int a1), some (.int a2), some (.int y28)]) (S' := [.int (-3 : Int32)]) (w' := px_w K s31 t32) (q := []) 1 hM rfl trivial ?_
                          cases h
                          exact px_E_ret hM rfl rfl rfl trivial
                      · cases h
                  · rw [if_neg hi29] at h
                    cases h
                · cases h
                  exact e_l_M_make_28_27 K N a0 a1 a2 N (0 : Int32) s16 t17 _ hl26 _ _ ⟨rfl, rfl⟩
              · rw [if_neg hc21] at h
                refine px_blk (i' := 24) (L' := [some (.ref 28), some (.int a0), some (.int a1), some (.int a2), none]) (S' := [.int (-2 : Int32)]) (w' := px_w K s16 t17) (q := []) 1 hM rfl trivial ?_
                cases h
                exact px_E_ret hM rfl rfl rfl trivial
            · cases h
          · rw [if_neg hc15] at h
            refine px_blk (i' := 17) (L' := [some (.ref 28), some (.int a0), some (.int a1), some (.int a2), none]) (S' := [.int (-4 : Int32)]) (w' := px_w K s9 t10) (q := []) 1 hM rfl trivial ?_
            cases h
            exact px_E_ret hM rfl rfl rfl trivial
      · cases h
    · rw [if_neg hc8] at h
      refine px_blk (i' := 7) (L' := [some (.ref 28), some (.int a0), some (.int a1), some (.int a2), none]) (S' := [.int (-9 : Int32)]) (w' := px_w K s3 t4) (q := []) 1 hM rfl trivial ?_
      cases h
      exact px_E_ret hM rfl rfl rfl trivial
  · cases h
