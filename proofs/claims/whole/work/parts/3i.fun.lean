/-! THE METHODS AS FUNCTIONS (by program). -/
noncomputable def l_M_write_28_45_94 (K : px_K) (N : Nat) (n : Nat) (u1 : Int32) (u4 : Int32) (u5 : Int32) (m6 : Int32) (s : px_S) (t : px_W) : Option px_LO := match n with
  | 0 => none
  | n + 1 => (if (16 : Int32) ≤ m6 then (some (.inl (112, [], s, t))) else (px_gd (vp_in (u4 + m6) (K.2.2 45)) (px_gd (vp_in (((16 : Int32) * u5) + m6) (K.2.2 32)) (px_let (sA s 32 (((16 : Int32) * u5) + m6).toNatClampNeg ((s.2.2.1 45) (u4 + m6).toNatClampNeg)) (fun s4 => (l_M_write_28_45_94 K N n u1 u4 u5 (m6 + (1 : Int32)) s4 t))))))
def a_l_M_write_28_45_94 (K : px_K) (u1 : Int32) (u4 : Int32) (u5 : Int32) (z : px_LO) (o : Option Value ⊕ Nat) (w2 : px_W) : Prop := match z with
  | .inr (o', s', t') => o = o' ∧ w2 = px_w K s' t'
  | .inl (112, [], s', t') => px_E px_ET px_P 5 29 112 [some (.ref 28), some (.int u1), none, none, none, none, none] [] (px_w K s' t') o w2
  | _ => False
noncomputable def l_M_write_28_45_28 (K : px_K) (N : Nat) (n : Nat) (u1 : Int32) (u2 : Int32) (u4 : Int32) (u5 : Int32) (m6 : Int32) (s : px_S) (t : px_W) : Option px_LO := match n with
  | 0 => none
  | n + 1 => (if ((u5 + (64 : Int32)) - (1 : Int32)) ≤ m6 then (some (.inl (47, [], s, t))) else (px_gd ((vp_in (m6 + (1 : Int32)) (K.2.2 31)) ∧ (vp_in m6 (K.2.2 31))) (px_let (sA s 31 m6.toNatClampNeg ((s.2.2.1 31) (m6 + (1 : Int32)).toNatClampNeg)) (fun s4 => (l_M_write_28_45_28 K N n u1 u2 u4 u5 (m6 + (1 : Int32)) s4 t)))))
def a_l_M_write_28_45_28 (K : px_K) (u1 : Int32) (u2 : Int32) (u4 : Int32) (u5 : Int32) (z : px_LO) (o : Option Value ⊕ Nat) (w2 : px_W) : Prop := match z with
  | .inr (o', s', t') => o = o' ∧ w2 = px_w K s' t'
  | .inl (47, [], s', t') => px_E px_ET px_P 5 29 47 [some (.ref 28), some (.int u1), some (.int u2), some (.ref 45), some (.int u4), some (.int u5), none] [] (px_w K s' t') o w2
  | _ => False
noncomputable def l_M_write_28_45_51 (K : px_K) (N : Nat) (n : Nat) (u1 : Int32) (u2 : Int32) (u4 : Int32) (u5 : Int32) (m6 : Int32) (s : px_S) (t : px_W) : Option px_LO := match n with
  | 0 => none
  | n + 1 => (if ((16 : Int32) * ((u5 + (64 : Int32)) - (1 : Int32))) ≤ m6 then (some (.inl (72, [], s, t))) else (px_gd ((vp_in (m6 + (16 : Int32)) (K.2.2 32)) ∧ (vp_in m6 (K.2.2 32))) (px_let (sA s 32 m6.toNatClampNeg ((s.2.2.1 32) (m6 + (16 : Int32)).toNatClampNeg)) (fun s4 => (l_M_write_28_45_51 K N n u1 u2 u4 u5 (m6 + (1 : Int32)) s4 t)))))
def a_l_M_write_28_45_51 (K : px_K) (u1 : Int32) (u2 : Int32) (u4 : Int32) (u5 : Int32) (z : px_LO) (o : Option Value ⊕ Nat) (w2 : px_W) : Prop := match z with
  | .inr (o', s', t') => o = o' ∧ w2 = px_w K s' t'
  | .inl (72, [], s', t') => px_E px_ET px_P 5 29 72 [some (.ref 28), some (.int u1), some (.int u2), some (.ref 45), some (.int u4), some (.int u5), none] [] (px_w K s' t') o w2
  | _ => False
set_option maxRecDepth 100000 in
theorem e_l_M_write_28_45_94 (K : px_K) (N : Nat) (u1 : Int32) (u4 : Int32) (u5 : Int32) : ∀ (n : Nat) (m6 : Int32) (s : px_S) (t : px_W) (z : px_LO), l_M_write_28_45_94 K N n u1 u4 u5 m6 s t = some z → ∀ (o : Option Value ⊕ Nat) (w2 : px_W), a_l_M_write_28_45_94 K u1 u4 u5 z o w2 → px_E px_ET px_P 5 29 94 [some (.ref 28), some (.int u1), none, some (.ref 45), some (.int u4), some (.int u5), some (.int m6)] [] (px_w K s t) o w2 := by
  have hM : px_P[29]? = some pm_M_write := rfl
  intro n
  induction n with
  | zero => intro m6 s t z h; cases h
  | succ n ih =>
    intro m6 s t z h o w2 ha
    unfold l_M_write_28_45_94 at h
    refine px_blkif (c := (16 : Int32) ≤ m6) (t := 112) (e := 97) (L' := [some (.ref 28), some (.int u1), none, some (.ref 45), some (.int u4), some (.int u5), some (.int m6)]) (S' := []) (w' := px_w K s t) (q := []) 3 hM rfl trivial (fun hc1 => ?_) (fun hc1 => ?_)
    · rw [if_pos hc1] at h
      cases h
      exact px_E_le (px_leC_L _ _ (by simp [px_leC, px_le1, Value.category])) ha
    · rw [if_neg hc1] at h
      obtain ⟨hq2, h⟩ := px_gd_some h
      refine px_blk (i' := 109) (L' := [some (.ref 28), some (.int u1), none, some (.ref 45), some (.int u4), some (.int u5), some (.int m6)]) (S' := [.int ((s.2.2.1 45) (u4 + m6).toNatClampNeg), .int (((16 : Int32) * u5) + m6), .ref 32]) (w' := px_w K s t) (q := [vp_in (u4 + m6) (K.2.2 45)]) 12 hM rfl (show vp_in (u4 + m6) (K.2.2 45) from hq2) ?_
      obtain ⟨hq3, h⟩ := px_gd_some h
      refine px_blk (i' := 110) (L' := [some (.ref 28), some (.int u1), none, some (.ref 45), some (.int u4), some (.int u5), some (.int m6)]) (S' := []) (w' := px_w K (sA s 32 (((16 : Int32) * u5) + m6).toNatClampNeg ((s.2.2.1 45) (u4 + m6).toNatClampNeg)) t) (q := [vp_in (((16 : Int32) * u5) + m6) (K.2.2 32)]) 1 hM rfl (show vp_in (((16 : Int32) * u5) + m6) (K.2.2 32) from hq3) ?_
      obtain ⟨s4, hs5, h⟩ := px_let_some h
      rw [← hs5]
      refine px_blk (i' := 94) (L' := [some (.ref 28), some (.int u1), none, some (.ref 45), some (.int u4), some (.int u5), some (.int (m6 + (1 : Int32)))]) (S' := []) (w' := px_w K s4 t) (q := []) 2 hM rfl trivial ?_
      exact ih (m6 + (1 : Int32)) s4 t z h o w2 ha
set_option maxRecDepth 100000 in
theorem e_l_M_write_28_45_28 (K : px_K) (N : Nat) (u1 : Int32) (u2 : Int32) (u4 : Int32) (u5 : Int32) : ∀ (n : Nat) (m6 : Int32) (s : px_S) (t : px_W) (z : px_LO), l_M_write_28_45_28 K N n u1 u2 u4 u5 m6 s t = some z → ∀ (o : Option Value ⊕ Nat) (w2 : px_W), a_l_M_write_28_45_28 K u1 u2 u4 u5 z o w2 → px_E px_ET px_P 5 29 28 [some (.ref 28), some (.int u1), some (.int u2), some (.ref 45), some (.int u4), some (.int u5), some (.int m6)] [] (px_w K s t) o w2 := by
  have hM : px_P[29]? = some pm_M_write := rfl
  intro n
  induction n with
  | zero => intro m6 s t z h; cases h
  | succ n ih =>
    intro m6 s t z h o w2 ha
    unfold l_M_write_28_45_28 at h
    refine px_blkif (c := ((u5 + (64 : Int32)) - (1 : Int32)) ≤ m6) (t := 47) (e := 35) (L' := [some (.ref 28), some (.int u1), some (.int u2), some (.ref 45), some (.int u4), some (.int u5), some (.int m6)]) (S' := []) (w' := px_w K s t) (q := []) 7 hM rfl trivial (fun hc1 => ?_) (fun hc1 => ?_)
    · rw [if_pos hc1] at h
      cases h
      exact px_E_le (px_leC_L _ _ (by simp [px_leC, px_le1, Value.category])) ha
    · rw [if_neg hc1] at h
      obtain ⟨⟨hq2, hq3⟩, h⟩ := px_gd_some h
      refine px_blk (i' := 45) (L' := [some (.ref 28), some (.int u1), some (.int u2), some (.ref 45), some (.int u4), some (.int u5), some (.int m6)]) (S' := []) (w' := px_w K (sA s 31 m6.toNatClampNeg ((s.2.2.1 31) (m6 + (1 : Int32)).toNatClampNeg)) t) (q := [vp_in (m6 + (1 : Int32)) (K.2.2 31), vp_in m6 (K.2.2 31)]) 10 hM rfl (show (vp_in (m6 + (1 : Int32)) (K.2.2 31)) ∧ (vp_in m6 (K.2.2 31)) from ⟨hq2, hq3⟩) ?_
      obtain ⟨s4, hs5, h⟩ := px_let_some h
      rw [← hs5]
      refine px_blk (i' := 28) (L' := [some (.ref 28), some (.int u1), some (.int u2), some (.ref 45), some (.int u4), some (.int u5), some (.int (m6 + (1 : Int32)))]) (S' := []) (w' := px_w K s4 t) (q := []) 2 hM rfl trivial ?_
      exact ih (m6 + (1 : Int32)) s4 t z h o w2 ha
set_option maxRecDepth 100000 in
theorem e_l_M_write_28_45_51 (K : px_K) (N : Nat) (u1 : Int32) (u2 : Int32) (u4 : Int32) (u5 : Int32) : ∀ (n : Nat) (m6 : Int32) (s : px_S) (t : px_W) (z : px_LO), l_M_write_28_45_51 K N n u1 u2 u4 u5 m6 s t = some z → ∀ (o : Option Value ⊕ Nat) (w2 : px_W), a_l_M_write_28_45_51 K u1 u2 u4 u5 z o w2 → px_E px_ET px_P 5 29 51 [some (.ref 28), some (.int u1), some (.int u2), some (.ref 45), some (.int u4), some (.int u5), some (.int m6)] [] (px_w K s t) o w2 := by
  have hM : px_P[29]? = some pm_M_write := rfl
  intro n
  induction n with
  | zero => intro m6 s t z h; cases h
  | succ n ih =>
    intro m6 s t z h o w2 ha
    unfold l_M_write_28_45_51 at h
    refine px_blkif (c := ((16 : Int32) * ((u5 + (64 : Int32)) - (1 : Int32))) ≤ m6) (t := 72) (e := 60) (L' := [some (.ref 28), some (.int u1), some (.int u2), some (.ref 45), some (.int u4), some (.int u5), some (.int m6)]) (S' := []) (w' := px_w K s t) (q := []) 9 hM rfl trivial (fun hc1 => ?_) (fun hc1 => ?_)
    · rw [if_pos hc1] at h
      cases h
      exact px_E_le (px_leC_L _ _ (by simp [px_leC, px_le1, Value.category])) ha
    · rw [if_neg hc1] at h
      obtain ⟨⟨hq2, hq3⟩, h⟩ := px_gd_some h
      refine px_blk (i' := 70) (L' := [some (.ref 28), some (.int u1), some (.int u2), some (.ref 45), some (.int u4), some (.int u5), some (.int m6)]) (S' := []) (w' := px_w K (sA s 32 m6.toNatClampNeg ((s.2.2.1 32) (m6 + (16 : Int32)).toNatClampNeg)) t) (q := [vp_in (m6 + (16 : Int32)) (K.2.2 32), vp_in m6 (K.2.2 32)]) 10 hM rfl (show (vp_in (m6 + (16 : Int32)) (K.2.2 32)) ∧ (vp_in m6 (K.2.2 32)) from ⟨hq2, hq3⟩) ?_
      obtain ⟨s4, hs5, h⟩ := px_let_some h
      rw [← hs5]
      refine px_blk (i' := 51) (L' := [some (.ref 28), some (.int u1), some (.int u2), some (.ref 45), some (.int u4), some (.int u5), some (.int (m6 + (1 : Int32)))]) (S' := []) (w' := px_w K s4 t) (q := []) 2 hM rfl trivial ?_
      exact ih (m6 + (1 : Int32)) s4 t z h o w2 ha
noncomputable def f_M_write_28_45 (K : px_K) (N : Nat) (a0 : Int32) (a1 : Int32) (a2 : Int32) (s : px_S) (t : px_W) : Option px_Res :=
  (px_bi (f_M_acts_28 K N s t) (fun v4 s1 t2 => (if ¬ v4 = 0 then (px_gd ((vp_in a0 (K.2.2 33)) ∧ (vp_in a0 (K.2.2 33))) (px_let (sA s1 33 a0.toNatClampNeg (((s1.2.2.1 33) a0.toNatClampNeg) + (1 : Int32))) (fun s9 => (px_let ((64 : Int32) * a0) (fun v11 => (px_gd (vp_in a0 (K.2.2 30)) (if ¬ ((s9.2.2.1 30) a0.toNatClampNeg) = (64 : Int32) then (px_gd (vp_in a0 (K.2.2 30)) (px_let (v11 + ((s9.2.2.1 30) a0.toNatClampNeg)) (fun v16 => (px_gd (vp_in v16 (K.2.2 31)) (px_let (sA s9 31 v16.toNatClampNeg a1) (fun s19 => (px_lp (l_M_write_28_45_94 K N N a0 a2 v16 (0 : Int32) s19 t2) (fun i21 vs22 s23 t24 => (if i21 = 112 then (px_v0 vs22 (px_gd ((vp_in a0 (K.2.2 30)) ∧ (vp_in a0 (K.2.2 30))) (px_let (sA s23 30 a0.toNatClampNeg (((s23.2.2.1 30) a0.toNatClampNeg) + (1 : Int32))) (fun s30 => (some (.inl none, s30, t24)))))) else none)) (fun z26 => some z26)))))))) else (px_bv (f_M_becomesStable_28 K N a0 (0 : Int32) s9 t2) (fun s32 t33 => (px_lp (l_M_write_28_45_28 K N N a0 a1 a2 v11 v11 s32 t33) (fun i37 vs38 s39 t40 => (if i37 = 47 then (px_v0 vs38 (px_let ((16 : Int32) * v11) (fun v44 => (px_lp (l_M_write_28_45_51 K N N a0 a1 a2 v11 v44 s39 t40) (fun i46 vs47 s48 t49 => (if i46 = 72 then (px_v0 vs47 (px_gd ((vp_in a0 (K.2.2 30)) ∧ (vp_in a0 (K.2.2 30))) (px_let (sA s48 30 a0.toNatClampNeg (((s48.2.2.1 30) a0.toNatClampNeg) - (1 : Int32))) (fun s55 => (px_gd (vp_in a0 (K.2.2 30)) (px_let (v11 + ((s55.2.2.1 30) a0.toNatClampNeg)) (fun v58 => (px_gd (vp_in v58 (K.2.2 31)) (px_let (sA s55 31 v58.toNatClampNeg a1) (fun s61 => (px_lp (l_M_write_28_45_94 K N N a0 a2 v58 (0 : Int32) s61 t49) (fun i63 vs64 s65 t66 => (if i63 = 112 then (px_v0 vs64 (px_gd ((vp_in a0 (K.2.2 30)) ∧ (vp_in a0 (K.2.2 30))) (px_let (sA s65 30 a0.toNatClampNeg (((s65.2.2.1 30) a0.toNatClampNeg) + (1 : Int32))) (fun s72 => (some (.inl none, s72, t66)))))) else none)) (fun z68 => some z68)))))))))))) else none)) (fun z51 => some z51))))) else none)) (fun z42 => some z42))) (fun x36 s32 t33 => none))))))))) else (some (.inl none, s1, t2)))) (fun x5 s1 t2 => none))
set_option maxRecDepth 100000 in
theorem e_M_write_28_45 (K : px_K) (N : Nat) (a0 : Int32) (a1 : Int32) (a2 : Int32) (s : px_S) (t : px_W) (r : px_Res) (h : f_M_write_28_45 K N a0 a1 a2 s t = some r) : px_E px_ET px_P 5 29 0 (px_ent 7 [.ref 28, .int a0, .int a1, .ref 45, .int a2]) [] (px_w K s t) r.1 (px_w K r.2.1 r.2.2) := by
  have hM : px_P[29]? = some pm_M_write := rfl
  unfold f_M_write_28_45 at h
  refine px_blk (i' := 1) (L' := [some (.ref 28), some (.int a0), some (.int a1), some (.ref 45), some (.int a2), none, none]) (S' := [.ref 28]) (w' := px_w K s t) (q := []) 1 hM rfl trivial ?_
  rcases px_bi_some h with ⟨v4, s1, t2, hk3, h⟩ | ⟨x5, s1, t2, hk3, h⟩
  · refine px_E_call hM rfl rfl rfl rfl (px_E_mono (by decide) (e_M_acts_28 K N s t _ hk3)) ?_
    refine px_blkif (c := ¬ v4 = 0) (t := 4) (e := 3) (L' := [some (.ref 28), some (.int a0), some (.int a1), some (.ref 45), some (.int a2), none, none]) (S' := []) (w' := px_w K s1 t2) (q := []) 1 hM rfl trivial (fun hc6 => ?_) (fun hc6 => ?_)
    · rw [if_pos hc6] at h
      obtain ⟨⟨hq7, hq8⟩, h⟩ := px_gd_some h
      refine px_blk (i' := 12) (L' := [some (.ref 28), some (.int a0), some (.int a1), some (.ref 45), some (.int a2), none, none]) (S' := []) (w' := px_w K (sA s1 33 a0.toNatClampNeg (((s1.2.2.1 33) a0.toNatClampNeg) + (1 : Int32))) t2) (q := [vp_in a0 (K.2.2 33), vp_in a0 (K.2.2 33)]) 8 hM rfl (show (vp_in a0 (K.2.2 33)) ∧ (vp_in a0 (K.2.2 33)) from ⟨hq7, hq8⟩) ?_
      obtain ⟨s9, hs10, h⟩ := px_let_some h
      rw [← hs10]
      refine px_blk (i' := 16) (L' := [some (.ref 28), some (.int a0), some (.int a1), some (.ref 45), some (.int a2), some (.int ((64 : Int32) * a0)), none]) (S' := []) (w' := px_w K s9 t2) (q := []) 4 hM rfl trivial ?_
      obtain ⟨v11, hv12, h⟩ := px_let_some h
      rw [← hv12]
      obtain ⟨hq13, h⟩ := px_gd_some h
      refine px_blkif (c := ¬ ((s9.2.2.1 30) a0.toNatClampNeg) = (64 : Int32)) (t := 80) (e := 22) (L' := [some (.ref 28), some (.int a0), some (.int a1), some (.ref 45), some (.int a2), some (.int v11), none]) (S' := []) (w' := px_w K s9 t2) (q := [vp_in a0 (K.2.2 30)]) 6 hM rfl (show vp_in a0 (K.2.2 30) from hq13) (fun hc14 => ?_) (fun hc14 => ?_)
      · rw [if_pos hc14] at h
        obtain ⟨hq15, h⟩ := px_gd_some h
        refine px_blk (i' := 87) (L' := [some (.ref 28), some (.int a0), some (.int a1), some (.ref 45), some (.int a2), some (.int (v11 + ((s9.2.2.1 30) a0.toNatClampNeg))), none]) (S' := []) (w' := px_w K s9 t2) (q := [vp_in a0 (K.2.2 30)]) 7 hM rfl (show vp_in a0 (K.2.2 30) from hq15) ?_
        obtain ⟨v16, hv17, h⟩ := px_let_some h
        rw [← hv17]
        obtain ⟨hq18, h⟩ := px_gd_some h
        refine px_blk (i' := 92) (L' := [some (.ref 28), some (.int a0), some (.int a1), some (.ref 45), some (.int a2), some (.int v16), none]) (S' := []) (w' := px_w K (sA s9 31 v16.toNatClampNeg a1) t2) (q := [vp_in v16 (K.2.2 31)]) 5 hM rfl (show vp_in v16 (K.2.2 31) from hq18) ?_
        obtain ⟨s19, hs20, h⟩ := px_let_some h
        rw [← hs20]
        refine px_blk (i' := 94) (L' := [some (.ref 28), some (.int a0), some (.int a1), some (.ref 45), some (.int a2), some (.int v16), some (.int (0 : Int32))]) (S' := []) (w' := px_w K s19 t2) (q := []) 2 hM rfl trivial ?_
        rcases px_lp_some h with ⟨i21, vs22, s23, t24, hl25, h⟩ | ⟨z26, hl25, h⟩
        · by_cases hi27 : i21 = 112
          · subst hi27
            rw [if_pos rfl] at h
            have h9 := px_v0_some h
            clear h
            obtain ⟨rfl, h⟩ := h9
            refine px_E_le (px_leC_L _ _ (by simp [px_leC, px_le1, Value.category])) (e_l_M_write_28_45_94 K N a0 a2 v16 N (0 : Int32) s19 t2 _ hl25 _ _ ?_)
            show px_E px_ET px_P 5 29 112 [some (.ref 28), some (.int a0), none, none, none, none, none] [] (px_w K s23 t24) _ _
            obtain ⟨⟨hq28, hq29⟩, h⟩ := px_gd_some h
            refine px_blk (i' := 120) (L' := [some (.ref 28), some (.int a0), none, none, none, none, none]) (S' := []) (w' := px_w K (sA s23 30 a0.toNatClampNeg (((s23.2.2.1 30) a0.toNatClampNeg) + (1 : Int32))) t24) (q := [vp_in a0 (K.2.2 30), vp_in a0 (K.2.2 30)]) 8 hM rfl (show (vp_in a0 (K.2.2 30)) ∧ (vp_in a0 (K.2.2 30)) from ⟨hq28, hq29⟩) ?_
            obtain ⟨s30, hs31, h⟩ := px_let_some h
            rw [← hs31]
            cases h
            exact px_E_ret hM rfl rfl rfl trivial
          · rw [if_neg hi27] at h
            cases h
        · cases h
          exact px_E_le (px_leC_L _ _ (by simp [px_leC, px_le1, Value.category])) (e_l_M_write_28_45_94 K N a0 a2 v16 N (0 : Int32) s19 t2 _ hl25 _ _ ⟨rfl, rfl⟩)
      · rw [if_neg hc14] at h
        refine px_blk (i' := 25) (L' := [some (.ref 28), some (.int a0), some (.int a1), some (.ref 45), some (.int a2), some (.int v11), none]) (S' := [.int (0 : Int32), .int a0, .ref 28]) (w' := px_w K s9 t2) (q := []) 3 hM rfl trivial ?_
        rcases px_bv_some h with ⟨s32, t33, hk34, h⟩ | ⟨x36, s32, t33, hk34, h⟩
        · refine px_E_call hM rfl rfl rfl rfl (px_E_mono (by decide) (e_M_becomesStable_28 K N a0 (0 : Int32) s9 t2 _ hk34)) ?_
          refine px_blk (i' := 28) (L' := [some (.ref 28), some (.int a0), some (.int a1), some (.ref 45), some (.int a2), some (.int v11), some (.int v11)]) (S' := []) (w' := px_w K s32 t33) (q := []) 2 hM rfl trivial ?_
          rcases px_lp_some h with ⟨i37, vs38, s39, t40, hl41, h⟩ | ⟨z42, hl41, h⟩
          · by_cases hi43 : i37 = 47
            · subst hi43
              rw [if_pos rfl] at h
              have h9 := px_v0_some h
              clear h
              obtain ⟨rfl, h⟩ := h9
              refine e_l_M_write_28_45_28 K N a0 a1 a2 v11 N v11 s32 t33 _ hl41 _ _ ?_
              show px_E px_ET px_P 5 29 47 [some (.ref 28), some (.int a0), some (.int a1), some (.ref 45), some (.int a2), some (.int v11), none] [] (px_w K s39 t40) _ _
              refine px_blk (i' := 51) (L' := [some (.ref 28), some (.int a0), some (.int a1), some (.ref 45), some (.int a2), some (.int v11), some (.int ((16 : Int32) * v11))]) (S' := []) (w' := px_w K s39 t40) (q := []) 4 hM rfl trivial ?_
              obtain ⟨v44, hv45, h⟩ := px_let_some h
              rw [← hv45]
              rcases px_lp_some h with ⟨i46, vs47, s48, t49, hl50, h⟩ | ⟨z51, hl50, h⟩
              · by_cases hi52 : i46 = 72
                · subst hi52
                  rw [if_pos rfl] at h
                  have h9 := px_v0_some h
                  clear h
                  obtain ⟨rfl, h⟩ := h9
                  refine e_l_M_write_28_45_51 K N a0 a1 a2 v11 N v44 s39 t40 _ hl50 _ _ ?_
                  show px_E px_ET px_P 5 29 72 [some (.ref 28), some (.int a0), some (.int a1), some (.ref 45), some (.int a2), some (.int v11), none] [] (px_w K s48 t49) _ _
                  obtain ⟨⟨hq53, hq54⟩, h⟩ := px_gd_some h
                  refine px_blk (i' := 80) (L' := [some (.ref 28), some (.int a0), some (.int a1), some (.ref 45), some (.int a2), some (.int v11), none]) (S' := []) (w' := px_w K (sA s48 30 a0.toNatClampNeg (((s48.2.2.1 30) a0.toNatClampNeg) - (1 : Int32))) t49) (q := [vp_in a0 (K.2.2 30), vp_in a0 (K.2.2 30)]) 8 hM rfl (show (vp_in a0 (K.2.2 30)) ∧ (vp_in a0 (K.2.2 30)) from ⟨hq53, hq54⟩) ?_
                  obtain ⟨s55, hs56, h⟩ := px_let_some h
                  rw [← hs56]
                  obtain ⟨hq57, h⟩ := px_gd_some h
                  refine px_blk (i' := 87) (L' := [some (.ref 28), some (.int a0), some (.int a1), some (.ref 45), some (.int a2), some (.int (v11 + ((s55.2.2.1 30) a0.toNatClampNeg))), none]) (S' := []) (w' := px_w K s55 t49) (q := [vp_in a0 (K.2.2 30)]) 7 hM rfl (show vp_in a0 (K.2.2 30) from hq57) ?_
                  obtain ⟨v58, hv59, h⟩ := px_let_some h
                  rw [← hv59]
                  obtain ⟨hq60, h⟩ := px_gd_some h
                  refine px_blk (i' := 92) (L' := [some (.ref 28), some (.int a0), some (.int a1), some (.ref 45), some (.int a2), some (.int v58), none]) (S' := []) (w' := px_w K (sA s55 31 v58.toNatClampNeg a1) t49) (q := [vp_in v58 (K.2.2 31)]) 5 hM rfl (show vp_in v58 (K.2.2 31) from hq60) ?_
                  obtain ⟨s61, hs62, h⟩ := px_let_some h
                  rw [← hs62]
                  refine px_blk (i' := 94) (L' := [some (.ref 28), some (.int a0), some (.int a1), some (.ref 45), some (.int a2), some (.int v58), some (.int (0 : Int32))]) (S' := []) (w' := px_w K s61 t49) (q := []) 2 hM rfl trivial ?_
                  rcases px_lp_some h with ⟨i63, vs64, s65, t66, hl67, h⟩ | ⟨z68, hl67, h⟩
                  · by_cases hi69 : i63 = 112
                    · subst hi69
                      rw [if_pos rfl] at h
                      have h9 := px_v0_some h
                      clear h
                      obtain ⟨rfl, h⟩ := h9
                      refine px_E_le (px_leC_L _ _ (by simp [px_leC, px_le1, Value.category])) (e_l_M_write_28_45_94 K N a0 a2 v58 N (0 : Int32) s61 t49 _ hl67 _ _ ?_)
                      show px_E px_ET px_P 5 29 112 [some (.ref 28), some (.int a0), none, none, none, none, none] [] (px_w K s65 t66) _ _
                      obtain ⟨⟨hq70, hq71⟩, h⟩ := px_gd_some h
                      refine px_blk (i' := 120) (L' := [some (.ref 28), some (.int a0), none, none, none, none, none]) (S' := []) (w' := px_w K (sA s65 30 a0.toNatClampNeg (((s65.2.2.1 30) a0.toNatClampNeg) + (1 : Int32))) t66) (q := [vp_in a0 (K.2.2 30), vp_in a0 (K.2.2 30)]) 8 hM rfl (show (vp_in a0 (K.2.2 30)) ∧ (vp_in a0 (K.2.2 30)) from ⟨hq70, hq71⟩) ?_
                      obtain ⟨s72, hs73, h⟩ := px_let_some h
                      rw [← hs73]
                      cases h
                      exact px_E_ret hM rfl rfl rfl trivial
                    · rw [if_neg hi69] at h
                      cases h
                  · cases h
                    exact px_E_le (px_leC_L _ _ (by simp [px_leC, px_le1, Value.category])) (e_l_M_write_28_45_94 K N a0 a2 v58 N (0 : Int32) s61 t49 _ hl67 _ _ ⟨rfl, rfl⟩)
                · rw [if_neg hi52] at h
                  cases h
              · cases h
                exact e_l_M_write_28_45_51 K N a0 a1 a2 v11 N v44 s39 t40 _ hl50 _ _ ⟨rfl, rfl⟩
            · rw [if_neg hi43] at h
              cases h
          · cases h
            exact e_l_M_write_28_45_28 K N a0 a1 a2 v11 N v11 s32 t33 _ hl41 _ _ ⟨rfl, rfl⟩
        · cases h
    · rw [if_neg hc6] at h
      cases h
      exact px_E_ret hM rfl rfl rfl trivial
  · cases h
noncomputable def l_M_three_28_43_2 (K : px_K) (N : Nat) (n : Nat) (u2 : Int32) (u3 : Int32) (u4 : Int32) (m5 : Int32) (s : px_S) (t : px_W) : Option px_LO := match n with
  | 0 => none
  | n + 1 => (if (16 : Int32) ≤ m5 then (some (.inl (11, [], s, t))) else (px_gd (vp_in m5 (K.2.2 43)) (px_let (sA s 43 m5.toNatClampNeg (0 : Int32)) (fun s3 => (l_M_three_28_43_2 K N n u2 u3 u4 (m5 + (1 : Int32)) s3 t)))))
def a_l_M_three_28_43_2 (K : px_K) (u2 : Int32) (u3 : Int32) (u4 : Int32) (z : px_LO) (o : Option Value ⊕ Nat) (w2 : px_W) : Prop := match z with
  | .inr (o', s', t') => o = o' ∧ w2 = px_w K s' t'
  | .inl (11, [], s', t') => px_E px_ET px_P 1 33 11 [none, some (.ref 43), some (.int u2), some (.int u3), some (.int u4), none] [] (px_w K s' t') o w2
  | _ => False
set_option maxRecDepth 100000 in
theorem e_l_M_three_28_43_2 (K : px_K) (N : Nat) (u2 : Int32) (u3 : Int32) (u4 : Int32) : ∀ (n : Nat) (m5 : Int32) (s : px_S) (t : px_W) (z : px_LO), l_M_three_28_43_2 K N n u2 u3 u4 m5 s t = some z → ∀ (o : Option Value ⊕ Nat) (w2 : px_W), a_l_M_three_28_43_2 K u2 u3 u4 z o w2 → px_E px_ET px_P 1 33 2 [none, some (.ref 43), some (.int u2), some (.int u3), some (.int u4), some (.int m5)] [] (px_w K s t) o w2 := by
  have hM : px_P[33]? = some pm_M_three := rfl
  intro n
  induction n with
  | zero => intro m5 s t z h; cases h
  | succ n ih =>
    intro m5 s t z h o w2 ha
    unfold l_M_three_28_43_2 at h
    refine px_blkif (c := (16 : Int32) ≤ m5) (t := 11) (e := 5) (L' := [none, some (.ref 43), some (.int u2), some (.int u3), some (.int u4), some (.int m5)]) (S' := []) (w' := px_w K s t) (q := []) 3 hM rfl trivial (fun hc1 => ?_) (fun hc1 => ?_)
    · rw [if_pos hc1] at h
      cases h
      exact px_E_le (px_leC_L _ _ (by simp [px_leC, px_le1, Value.category])) ha
    · rw [if_neg hc1] at h
      obtain ⟨hq2, h⟩ := px_gd_some h
      refine px_blk (i' := 9) (L' := [none, some (.ref 43), some (.int u2), some (.int u3), some (.int u4), some (.int m5)]) (S' := []) (w' := px_w K (sA s 43 m5.toNatClampNeg (0 : Int32)) t) (q := [vp_in m5 (K.2.2 43)]) 4 hM rfl (show vp_in m5 (K.2.2 43) from hq2) ?_
      obtain ⟨s3, hs4, h⟩ := px_let_some h
      rw [← hs4]
      refine px_blk (i' := 2) (L' := [none, some (.ref 43), some (.int u2), some (.int u3), some (.int u4), some (.int (m5 + (1 : Int32)))]) (S' := []) (w' := px_w K s3 t) (q := []) 2 hM rfl trivial ?_
      exact ih (m5 + (1 : Int32)) s3 t z h o w2 ha
noncomputable def f_M_three_28_43 (K : px_K) (N : Nat) (a0 : Int32) (a1 : Int32) (a2 : Int32) (s : px_S) (t : px_W) : Option px_Res :=
  (px_lp (l_M_three_28_43_2 K N N a0 a1 a2 (3 : Int32) s t) (fun i1 vs2 s3 t4 => (if i1 = 11 then (px_v0 vs2 (px_gd (vp_in (0 : Int32) (K.2.2 43)) (px_let (sA s3 43 (0 : Int32).toNatClampNeg a0) (fun s9 => (px_gd (vp_in (1 : Int32) (K.2.2 43)) (px_let (sA s9 43 (1 : Int32).toNatClampNeg a1) (fun s12 => (px_gd (vp_in (2 : Int32) (K.2.2 43)) (px_let (sA s12 43 (2 : Int32).toNatClampNeg a2) (fun s15 => (some (.inl none, s15, t4)))))))))))) else none)) (fun z6 => some z6))
set_option maxRecDepth 100000 in
theorem e_M_three_28_43 (K : px_K) (N : Nat) (a0 : Int32) (a1 : Int32) (a2 : Int32) (s : px_S) (t : px_W) (r : px_Res) (h : f_M_three_28_43 K N a0 a1 a2 s t = some r) : px_E px_ET px_P 1 33 0 (px_ent 6 [.ref 28, .ref 43, .int a0, .int a1, .int a2]) [] (px_w K s t) r.1 (px_w K r.2.1 r.2.2) := by
  have hM : px_P[33]? = some pm_M_three := rfl
  unfold f_M_three_28_43 at h
  refine px_blk (i' := 2) (L' := [some (.ref 28), some (.ref 43), some (.int a0), some (.int a1), some (.int a2), some (.int (3 : Int32))]) (S' := []) (w' := px_w K s t) (q := []) 2 hM rfl trivial ?_
  rcases px_lp_some h with ⟨i1, vs2, s3, t4, hl5, h⟩ | ⟨z6, hl5, h⟩
  · by_cases hi7 : i1 = 11
    · subst hi7
      rw [if_pos rfl] at h
      have h9 := px_v0_some h
      clear h
      obtain ⟨rfl, h⟩ := h9
      refine px_E_le (px_leC_L _ _ (by simp [px_leC, px_le1, Value.category])) (e_l_M_three_28_43_2 K N a0 a1 a2 N (3 : Int32) s t _ hl5 _ _ ?_)
      show px_E px_ET px_P 1 33 11 [none, some (.ref 43), some (.int a0), some (.int a1), some (.int a2), none] [] (px_w K s3 t4) _ _
      obtain ⟨hq8, h⟩ := px_gd_some h
      refine px_blk (i' := 15) (L' := [none, some (.ref 43), some (.int a0), some (.int a1), some (.int a2), none]) (S' := []) (w' := px_w K (sA s3 43 (0 : Int32).toNatClampNeg a0) t4) (q := [vp_in (0 : Int32) (K.2.2 43)]) 4 hM rfl (show vp_in (0 : Int32) (K.2.2 43) from hq8) ?_
      obtain ⟨s9, hs10, h⟩ := px_let_some h
      rw [← hs10]
      obtain ⟨hq11, h⟩ := px_gd_some h
      refine px_blk (i' := 19) (L' := [none, some (.ref 43), some (.int a0), some (.int a1), some (.int a2), none]) (S' := []) (w' := px_w K (sA s9 43 (1 : Int32).toNatClampNeg a1) t4) (q := [vp_in (1 : Int32) (K.2.2 43)]) 4 hM rfl (show vp_in (1 : Int32) (K.2.2 43) from hq11) ?_
      obtain ⟨s12, hs13, h⟩ := px_let_some h
      rw [← hs13]
      obtain ⟨hq14, h⟩ := px_gd_some h
      refine px_blk (i' := 23) (L' := [none, some (.ref 43), some (.int a0), some (.int a1), some (.int a2), none]) (S' := []) (w' := px_w K (sA s12 43 (2 : Int32).toNatClampNeg a2) t4) (q := [vp_in (2 : Int32) (K.2.2 43)]) 4 hM rfl (show vp_in (2 : Int32) (K.2.2 43) from hq14) ?_
      obtain ⟨s15, hs16, h⟩ := px_let_some h
      rw [← hs16]
      cases h
      exact px_E_ret hM rfl rfl rfl trivial
    · rw [if_neg hi7] at h
      cases h
  · cases h
    exact px_E_le (px_leC_L _ _ (by simp [px_leC, px_le1, Value.category])) (e_l_M_three_28_43_2 K N a0 a1 a2 N (3 : Int32) s t _ hl5 _ _ ⟨rfl, rfl⟩)
noncomputable def l_M_land1_28_15 (K : px_K) (N : Nat) (n : Nat) (u1 : Int32) (u2 : Int32) (m3 : Int32) (s : px_S) (t : px_W) : Option px_LO := match n with
  | 0 => none
  | n + 1 => (if (16 : Int32) ≤ m3 then (some (.inl (25, [], s, t))) else (px_gd (vp_in m3 (K.2.2 45)) (px_let (sA s 45 m3.toNatClampNeg (0 : Int32)) (fun s3 => (l_M_land1_28_15 K N n u1 u2 (m3 + (1 : Int32)) s3 t)))))
def a_l_M_land1_28_15 (K : px_K) (u1 : Int32) (u2 : Int32) (z : px_LO) (o : Option Value ⊕ Nat) (w2 : px_W) : Prop := match z with
  | .inr (o', s', t') => o = o' ∧ w2 = px_w K s' t'
  | .inl (25, [], s', t') => px_E px_ET px_P 6 48 25 [some (.ref 28), some (.int u1), some (.int u2), none] [] (px_w K s' t') o w2
  | _ => False
noncomputable def l_M_land1_28_30 (K : px_K) (N : Nat) (n : Nat) (u1 : Int32) (m2 : Int32) (m3 : Int32) (s : px_S) (t : px_W) : Option px_LO := match n with
  | 0 => none
  | n + 1 => (if m3 < 0 then (some (.inl (68, [m2], s, t))) else (px_bv (f_M_copy_28_43 K N (1 : Int32) ((50 : Int32) + m3) (0 : Int32) s t) (fun s2 t3 => (px_bv (f_M_write_28_43 K N (0 : Int32) ((3 : Int32) + m2) (0 : Int32) s2 t3) (fun s7 t8 => (px_gd ((vp_in m3 (K.2.2 35)) ∧ (vp_in m2 (K.2.2 45))) (px_let (sA s7 45 m2.toNatClampNeg ((s7.2.2.1 35) m3.toNatClampNeg)) (fun s14 => (px_gd (vp_in m3 (K.2.2 35)) (px_bi (f_M_nextOf_28 K N u1 ((s14.2.2.1 35) m3.toNatClampNeg) s14 t8) (fun v20 s17 t18 => (l_M_land1_28_30 K N n u1 (m2 + (1 : Int32)) v20 s17 t18)) (fun x21 s17 t18 => none))))))) (fun x11 s7 t8 => none))) (fun x6 s2 t3 => none)))
def a_l_M_land1_28_30 (K : px_K) (u1 : Int32) (z : px_LO) (o : Option Value ⊕ Nat) (w2 : px_W) : Prop := match z with
  | .inr (o', s', t') => o = o' ∧ w2 = px_w K s' t'
  | .inl (68, [y2], s', t') => px_E px_ET px_P 6 48 68 [some (.ref 28), some (.int u1), some (.int y2), none] [] (px_w K s' t') o w2
  | _ => False
noncomputable def l_M_land1_28_100 (K : px_K) (N : Nat) (n : Nat) (u1 : Int32) (m3 : Int32) (s : px_S) (t : px_W) : Option px_LO := match n with
  | 0 => none
  | n + 1 => (if m3 < 0 then (some (.inl (132, [], s, t))) else (px_bv (f_M_copy_28_43 K N (1 : Int32) ((50 : Int32) + m3) (0 : Int32) s t) (fun s2 t3 => (px_gd (vp_in m3 (K.2.2 35)) (px_bv (f_M_write_28_43 K N (0 : Int32) ((19 : Int32) + ((s2.2.2.1 35) m3.toNatClampNeg)) (0 : Int32) s2 t3) (fun s8 t9 => (px_gd (vp_in m3 (K.2.2 35)) (px_bi (f_M_nextOf_28 K N u1 ((s8.2.2.1 35) m3.toNatClampNeg) s8 t9) (fun v17 s14 t15 => (l_M_land1_28_100 K N n u1 v17 s14 t15)) (fun x18 s14 t15 => none)))) (fun x12 s8 t9 => none)))) (fun x6 s2 t3 => none)))
def a_l_M_land1_28_100 (K : px_K) (u1 : Int32) (z : px_LO) (o : Option Value ⊕ Nat) (w2 : px_W) : Prop := match z with
  | .inr (o', s', t') => o = o' ∧ w2 = px_w K s' t'
  | .inl (132, [], s', t') => px_E px_ET px_P 6 48 132 [some (.ref 28), some (.int u1), none, none] [] (px_w K s' t') o w2
  | _ => False
noncomputable def l_M_land1_28_154 (K : px_K) (N : Nat) (n : Nat) (u1 : Int32) (m3 : Int32) (s : px_S) (t : px_W) : Option px_LO := match n with
  | 0 => none
  | n + 1 => (if ((s.1 26) * (s.1 27)) ≤ m3 then (some (.inl (195, [], s, t))) else (px_gd (vp_in m3 (K.2.2 36)) (if ((s.2.2.1 36) m3.toNatClampNeg) = u1 then (px_gd (vp_in m3 (K.2.2 36)) (px_let (sA s 36 m3.toNatClampNeg (0 : Int32)) (fun s5 => (px_gd (vp_in m3 (K.2.2 35)) (px_bi (f_M_newest_28 K N ((s5.2.2.1 35) m3.toNatClampNeg) s5 t) (fun v11 s8 t9 => (px_gd (vp_in v11 (K.2.2 36)) (if ((s8.2.2.1 36) v11.toNatClampNeg) ≤ 0 then (l_M_land1_28_154 K N n u1 (m3 + (1 : Int32)) s8 t9) else (px_gd (vp_in m3 (K.2.2 35)) (px_let (sA s8 35 m3.toNatClampNeg (-1 : Int32)) (fun s16 => (px_gd (vp_in m3 (K.2.2 37)) (px_let (sA s16 37 m3.toNatClampNeg (0 : Int32)) (fun s19 => (l_M_land1_28_154 K N n u1 (m3 + (1 : Int32)) s19 t9)))))))))) (fun x12 s8 t9 => none)))))) else (l_M_land1_28_154 K N n u1 (m3 + (1 : Int32)) s t))))
def a_l_M_land1_28_154 (K : px_K) (u1 : Int32) (z : px_LO) (o : Option Value ⊕ Nat) (w2 : px_W) : Prop := match z with
  | .inr (o', s', t') => o = o' ∧ w2 = px_w K s' t'
  | .inl (195, [], s', t') => px_E px_ET px_P 6 48 195 [none, some (.int u1), none, none] [] (px_w K s' t') o w2
  | _ => False
set_option maxRecDepth 100000 in
theorem e_l_M_land1_28_15 (K : px_K) (N : Nat) (u1 : Int32) (u2 : Int32) : ∀ (n : Nat) (m3 : Int32) (s : px_S) (t : px_W) (z : px_LO), l_M_land1_28_15 K N n u1 u2 m3 s t = some z → ∀ (o : Option Value ⊕ Nat) (w2 : px_W), a_l_M_land1_28_15 K u1 u2 z o w2 → px_E px_ET px_P 6 48 15 [some (.ref 28), some (.int u1), some (.int u2), some (.int m3)] [] (px_w K s t) o w2 := by
  have hM : px_P[48]? = some pm_M_land1 := rfl
  intro n
  induction n with
  | zero => intro m3 s t z h; cases h
  | succ n ih =>
    intro m3 s t z h o w2 ha
    unfold l_M_land1_28_15 at h
    refine px_blkif (c := (16 : Int32) ≤ m3) (t := 25) (e := 18) (L' := [some (.ref 28), some (.int u1), some (.int u2), some (.int m3)]) (S' := []) (w' := px_w K s t) (q := []) 3 hM rfl trivial (fun hc1 => ?_) (fun hc1 => ?_)
    · rw [if_pos hc1] at h
      cases h
      exact px_E_le (px_leC_L _ _ (by simp [px_leC, px_le1, Value.category])) ha
    · rw [if_neg hc1] at h
      obtain ⟨hq2, h⟩ := px_gd_some h
      refine px_blk (i' := 23) (L' := [some (.ref 28), some (.int u1), some (.int u2), some (.int m3)]) (S' := []) (w' := px_w K (sA s 45 m3.toNatClampNeg (0 : Int32)) t) (q := [vp_in m3 (K.2.2 45)]) 5 hM rfl (show vp_in m3 (K.2.2 45) from hq2) ?_
      obtain ⟨s3, hs4, h⟩ := px_let_some h
      rw [← hs4]
      refine px_blk (i' := 15) (L' := [some (.ref 28), some (.int u1), some (.int u2), some (.int (m3 + (1 : Int32)))]) (S' := []) (w' := px_w K s3 t) (q := []) 2 hM rfl trivial ?_
      exact ih (m3 + (1 : Int32)) s3 t z h o w2 ha
set_option maxRecDepth 100000 in
theorem e_l_M_land1_28_30 (K : px_K) (N : Nat) (u1 : Int32) : ∀ (n : Nat) (m2 : Int32) (m3 : Int32) (s : px_S) (t : px_W) (z : px_LO), l_M_land1_28_30 K N n u1 m2 m3 s t = some z → ∀ (o : Option Value ⊕ Nat) (w2 : px_W), a_l_M_land1_28_30 K u1 z o w2 → px_E px_ET px_P 6 48 30 [some (.ref 28), some (.int u1), some (.int m2), some (.int m3)] [] (px_w K s t) o w2 := by
  have hM : px_P[48]? = some pm_M_land1 := rfl
  intro n
  induction n with
  | zero => intro m2 m3 s t z h; cases h
  | succ n ih =>
    intro m2 m3 s t z h o w2 ha
    unfold l_M_land1_28_30 at h
    refine px_blkif (c := m3 < 0) (t := 68) (e := 32) (L' := [some (.ref 28), some (.int u1), some (.int m2), some (.int m3)]) (S' := []) (w' := px_w K s t) (q := []) 2 hM rfl trivial (fun hc1 => ?_) (fun hc1 => ?_)
    · rw [if_pos hc1] at h
      cases h
      exact px_E_le (px_leC_L _ _ (by simp [px_leC, px_le1, Value.category])) ha
    · rw [if_neg hc1] at h
      refine px_blk (i' := 40) (L' := [some (.ref 28), some (.int u1), some (.int m2), some (.int m3)]) (S' := [.int (0 : Int32), .ref 43, .int ((50 : Int32) + m3), .int (1 : Int32), .ref 28]) (w' := px_w K s t) (q := []) 8 hM rfl trivial ?_
      rcases px_bv_some h with ⟨s2, t3, hk4, h⟩ | ⟨x6, s2, t3, hk4, h⟩
      · refine px_E_call hM rfl rfl rfl rfl (px_E_mono (by decide) (e_M_copy_28_43 K N (1 : Int32) ((50 : Int32) + m3) (0 : Int32) s t _ hk4)) ?_
        refine px_blk (i' := 49) (L' := [some (.ref 28), some (.int u1), some (.int m2), some (.int m3)]) (S' := [.int (0 : Int32), .ref 43, .int ((3 : Int32) + m2), .int (0 : Int32), .ref 28]) (w' := px_w K s2 t3) (q := []) 8 hM rfl trivial ?_
        rcases px_bv_some h with ⟨s7, t8, hk9, h⟩ | ⟨x11, s7, t8, hk9, h⟩
        · refine px_E_call hM rfl rfl rfl rfl (px_E_mono (by decide) (e_M_write_28_43 K N (0 : Int32) ((3 : Int32) + m2) (0 : Int32) s2 t3 _ hk9)) ?_
          obtain ⟨⟨hq12, hq13⟩, h⟩ := px_gd_some h
          refine px_blk (i' := 58) (L' := [some (.ref 28), some (.int u1), some (.int m2), some (.int m3)]) (S' := []) (w' := px_w K (sA s7 45 m2.toNatClampNeg ((s7.2.2.1 35) m3.toNatClampNeg)) t8) (q := [vp_in m3 (K.2.2 35), vp_in m2 (K.2.2 45)]) 8 hM rfl (show (vp_in m3 (K.2.2 35)) ∧ (vp_in m2 (K.2.2 45)) from ⟨hq12, hq13⟩) ?_
          obtain ⟨s14, hs15, h⟩ := px_let_some h
          rw [← hs15]
          obtain ⟨hq16, h⟩ := px_gd_some h
          refine px_blk (i' := 65) (L' := [some (.ref 28), some (.int u1), some (.int (m2 + (1 : Int32))), some (.int m3)]) (S' := [.int ((s14.2.2.1 35) m3.toNatClampNeg), .int u1, .ref 28]) (w' := px_w K s14 t8) (q := [vp_in m3 (K.2.2 35)]) 7 hM rfl (show vp_in m3 (K.2.2 35) from hq16) ?_
          rcases px_bi_some h with ⟨v20, s17, t18, hk19, h⟩ | ⟨x21, s17, t18, hk19, h⟩
          · refine px_E_call hM rfl rfl rfl rfl (px_E_mono (by decide) (e_M_nextOf_28 K N u1 ((s14.2.2.1 35) m3.toNatClampNeg) s14 t8 _ hk19)) ?_
            refine px_blk (i' := 30) (L' := [some (.ref 28), some (.int u1), some (.int (m2 + (1 : Int32))), some (.int v20)]) (S' := []) (w' := px_w K s17 t18) (q := []) 2 hM rfl trivial ?_
            exact ih (m2 + (1 : Int32)) v20 s17 t18 z h o w2 ha
          · cases h
        · cases h
      · cases h
set_option maxRecDepth 100000 in
theorem e_l_M_land1_28_100 (K : px_K) (N : Nat) (u1 : Int32) : ∀ (n : Nat) (m3 : Int32) (s : px_S) (t : px_W) (z : px_LO), l_M_land1_28_100 K N n u1 m3 s t = some z → ∀ (o : Option Value ⊕ Nat) (w2 : px_W), a_l_M_land1_28_100 K u1 z o w2 → px_E px_ET px_P 6 48 100 [some (.ref 28), some (.int u1), none, some (.int m3)] [] (px_w K s t) o w2 := by
  have hM : px_P[48]? = some pm_M_land1 := rfl
  intro n
  induction n with
  | zero => intro m3 s t z h; cases h
  | succ n ih =>
    intro m3 s t z h o w2 ha
    unfold l_M_land1_28_100 at h
    refine px_blkif (c := m3 < 0) (t := 132) (e := 102) (L' := [some (.ref 28), some (.int u1), none, some (.int m3)]) (S' := []) (w' := px_w K s t) (q := []) 2 hM rfl trivial (fun hc1 => ?_) (fun hc1 => ?_)
    · rw [if_pos hc1] at h
      cases h
      exact px_E_le (px_leC_L _ _ (by simp [px_leC, px_le1, Value.category])) ha
    · rw [if_neg hc1] at h
      refine px_blk (i' := 110) (L' := [some (.ref 28), some (.int u1), none, some (.int m3)]) (S' := [.int (0 : Int32), .ref 43, .int ((50 : Int32) + m3), .int (1 : Int32), .ref 28]) (w' := px_w K s t) (q := []) 8 hM rfl trivial ?_
      rcases px_bv_some h with ⟨s2, t3, hk4, h⟩ | ⟨x6, s2, t3, hk4, h⟩
      · refine px_E_call hM rfl rfl rfl rfl (px_E_mono (by decide) (e_M_copy_28_43 K N (1 : Int32) ((50 : Int32) + m3) (0 : Int32) s t _ hk4)) ?_
        obtain ⟨hq7, h⟩ := px_gd_some h
        refine px_blk (i' := 122) (L' := [some (.ref 28), some (.int u1), none, some (.int m3)]) (S' := [.int (0 : Int32), .ref 43, .int ((19 : Int32) + ((s2.2.2.1 35) m3.toNatClampNeg)), .int (0 : Int32), .ref 28]) (w' := px_w K s2 t3) (q := [vp_in m3 (K.2.2 35)]) 11 hM rfl (show vp_in m3 (K.2.2 35) from hq7) ?_
        rcases px_bv_some h with ⟨s8, t9, hk10, h⟩ | ⟨x12, s8, t9, hk10, h⟩
        · refine px_E_call hM rfl rfl rfl rfl (px_E_mono (by decide) (e_M_write_28_43 K N (0 : Int32) ((19 : Int32) + ((s2.2.2.1 35) m3.toNatClampNeg)) (0 : Int32) s2 t3 _ hk10)) ?_
          obtain ⟨hq13, h⟩ := px_gd_some h
          refine px_blk (i' := 129) (L' := [some (.ref 28), some (.int u1), none, some (.int m3)]) (S' := [.int ((s8.2.2.1 35) m3.toNatClampNeg), .int u1, .ref 28]) (w' := px_w K s8 t9) (q := [vp_in m3 (K.2.2 35)]) 6 hM rfl (show vp_in m3 (K.2.2 35) from hq13) ?_
          rcases px_bi_some h with ⟨v17, s14, t15, hk16, h⟩ | ⟨x18, s14, t15, hk16, h⟩
          · refine px_E_call hM rfl rfl rfl rfl (px_E_mono (by decide) (e_M_nextOf_28 K N u1 ((s8.2.2.1 35) m3.toNatClampNeg) s8 t9 _ hk16)) ?_
            refine px_blk (i' := 100) (L' := [some (.ref 28), some (.int u1), none, some (.int v17)]) (S' := []) (w' := px_w K s14 t15) (q := []) 2 hM rfl trivial ?_
            exact ih v17 s14 t15 z h o w2 ha
          · cases h
        · cases h
      · cases h
set_option maxRecDepth 100000 in
theorem e_l_M_land1_28_154 (K : px_K) (N : Nat) (u1 : Int32) : ∀ (n : Nat) (m3 : Int32) (s : px_S) (t : px_W) (z : px_LO), l_M_land1_28_154 K N n u1 m3 s t = some z → ∀ (o : Option Value ⊕ Nat) (w2 : px_W), a_l_M_land1_28_154 K u1 z o w2 → px_E px_ET px_P 6 48 154 [some (.ref 28), some (.int u1), none, some (.int m3)] [] (px_w K s t) o w2 := by
  have hM : px_P[48]? = some pm_M_land1 := rfl
  intro n
  induction n with
  | zero => intro m3 s t z h; cases h
  | succ n ih =>
    intro m3 s t z h o w2 ha
    unfold l_M_land1_28_154 at h
    refine px_blkif (c := ((s.1 26) * (s.1 27)) ≤ m3) (t := 195) (e := 161) (L' := [some (.ref 28), some (.int u1), none, some (.int m3)]) (S' := []) (w' := px_w K s t) (q := []) 7 hM rfl trivial (fun hc1 => ?_) (fun hc1 => ?_)
    · rw [if_pos hc1] at h
      cases h
      exact px_E_le (px_leC_L _ _ (by simp [px_leC, px_le1, Value.category])) ha
    · rw [if_neg hc1] at h
      obtain ⟨hq2, h⟩ := px_gd_some h
      refine px_blkif (c := ((s.2.2.1 36) m3.toNatClampNeg) = u1) (t := 168) (e := 167) (L' := [some (.ref 28), some (.int u1), none, some (.int m3)]) (S' := []) (w' := px_w K s t) (q := [vp_in m3 (K.2.2 36)]) 6 hM rfl (show vp_in m3 (K.2.2 36) from hq2) (fun hc3 => ?_) (fun hc3 => ?_)
      · rw [if_pos hc3] at h
        obtain ⟨hq4, h⟩ := px_gd_some h
        refine px_blk (i' := 173) (L' := [some (.ref 28), some (.int u1), none, some (.int m3)]) (S' := []) (w' := px_w K (sA s 36 m3.toNatClampNeg (0 : Int32)) t) (q := [vp_in m3 (K.2.2 36)]) 5 hM rfl (show vp_in m3 (K.2.2 36) from hq4) ?_
        obtain ⟨s5, hs6, h⟩ := px_let_some h
        rw [← hs6]
        obtain ⟨hq7, h⟩ := px_gd_some h
        refine px_blk (i' := 180) (L' := [some (.ref 28), some (.int u1), none, some (.int m3)]) (S' := [.int ((s5.2.2.1 35) m3.toNatClampNeg), .ref 28, .ref 36]) (w' := px_w K s5 t) (q := [vp_in m3 (K.2.2 35)]) 7 hM rfl (show vp_in m3 (K.2.2 35) from hq7) ?_
        rcases px_bi_some h with ⟨v11, s8, t9, hk10, h⟩ | ⟨x12, s8, t9, hk10, h⟩
        · refine px_E_call hM rfl rfl rfl rfl (px_E_mono (by decide) (e_M_newest_28 K N ((s5.2.2.1 35) m3.toNatClampNeg) s5 t _ hk10)) ?_
          obtain ⟨hq13, h⟩ := px_gd_some h
          refine px_blkif (c := ((s8.2.2.1 36) v11.toNatClampNeg) ≤ 0) (t := 193) (e := 183) (L' := [some (.ref 28), some (.int u1), none, some (.int m3)]) (S' := []) (w' := px_w K s8 t9) (q := [vp_in v11 (K.2.2 36)]) 2 hM rfl (show vp_in v11 (K.2.2 36) from hq13) (fun hc14 => ?_) (fun hc14 => ?_)
          · rw [if_pos hc14] at h
            refine px_blk (i' := 154) (L' := [some (.ref 28), some (.int u1), none, some (.int (m3 + (1 : Int32)))]) (S' := []) (w' := px_w K s8 t9) (q := []) 2 hM rfl trivial ?_
            exact ih (m3 + (1 : Int32)) s8 t9 z h o w2 ha
          · rw [if_neg hc14] at h
            obtain ⟨hq15, h⟩ := px_gd_some h
            refine px_blk (i' := 188) (L' := [some (.ref 28), some (.int u1), none, some (.int m3)]) (S' := []) (w' := px_w K (sA s8 35 m3.toNatClampNeg (-1 : Int32)) t9) (q := [vp_in m3 (K.2.2 35)]) 5 hM rfl (show vp_in m3 (K.2.2 35) from hq15) ?_
            obtain ⟨s16, hs17, h⟩ := px_let_some h
            rw [← hs17]
            obtain ⟨hq18, h⟩ := px_gd_some h
            refine px_blk (i' := 193) (L' := [some (.ref 28), some (.int u1), none, some (.int m3)]) (S' := []) (w' := px_w K (sA s16 37 m3.toNatClampNeg (0 : Int32)) t9) (q := [vp_in m3 (K.2.2 37), (0 : Int32) = 0 ∨ (0 : Int32) = 1]) 5 hM rfl (show (vp_in m3 (K.2.2 37)) ∧ ((0 : Int32) = 0 ∨ (0 : Int32) = 1) from ⟨hq18, Or.inl rfl⟩) ?_
            obtain ⟨s19, hs20, h⟩ := px_let_some h
            rw [← hs20]
            refine px_blk (i' := 154) (L' := [some (.ref 28), some (.int u1), none, some (.int (m3 + (1 : Int32)))]) (S' := []) (w' := px_w K s19 t9) (q := []) 2 hM rfl trivial ?_
            exact ih (m3 + (1 : Int32)) s19 t9 z h o w2 ha
        · cases h
      · rw [if_neg hc3] at h
        refine px_blk (i' := 154) (L' := [some (.ref 28), some (.int u1), none, some (.int (m3 + (1 : Int32)))]) (S' := []) (w' := px_w K s t) (q := []) 3 hM rfl trivial ?_
        exact ih (m3 + (1 : Int32)) s t z h o w2 ha
noncomputable def f_M_land1_28 (K : px_K) (N : Nat) (s : px_S) (t : px_W) : Option px_Res :=
  (px_bi (f_M_landed_28 K N s t) (fun v4 s1 t2 => (if (v4 + (1 : Int32)) < (s1.1 32) then (px_lp (l_M_land1_28_15 K N N (v4 + (1 : Int32)) (0 : Int32) (0 : Int32) s1 t2) (fun i7 vs8 s9 t10 => (if i7 = 25 then (px_v0 vs8 (px_bi (f_M_nextOf_28 K N (v4 + (1 : Int32)) (-1 : Int32) s9 t10) (fun v17 s14 t15 => (px_lp (l_M_land1_28_30 K N N (v4 + (1 : Int32)) (0 : Int32) v17 s14 t15) (fun i19 vs20 s21 t22 => (if i19 = 68 then (px_v1 vs20 (fun y25 => (px_bv (f_M_write_28_45 K N (0 : Int32) (2 : Int32) (0 : Int32) s21 t22) (fun s27 t28 => (px_bv (f_M_flush_28 K N (0 : Int32) s27 t28) (fun s32 t33 => (px_bv (f_M_three_28_43 K N (1 : Int32) (v4 + (1 : Int32)) y25 s32 t33) (fun s37 t38 => (px_bv (f_M_write_28_43 K N (0 : Int32) (1 : Int32) (0 : Int32) s37 t38) (fun s42 t43 => (px_bv (f_M_flush_28 K N (0 : Int32) s42 t43) (fun s47 t48 => (px_bi (f_M_nextOf_28 K N (v4 + (1 : Int32)) (-1 : Int32) s47 t48) (fun v55 s52 t53 => (px_lp (l_M_land1_28_100 K N N (v4 + (1 : Int32)) v55 s52 t53) (fun i57 vs58 s59 t60 => (if i57 = 132 then (px_v0 vs58 (px_bv (f_M_flush_28 K N (0 : Int32) s59 t60) (fun s64 t65 => (px_bv (f_M_three_28_43 K N (0 : Int32) (v4 + (1 : Int32)) (0 : Int32) s64 t65) (fun s69 t70 => (px_bv (f_M_write_28_43 K N (0 : Int32) (1 : Int32) (0 : Int32) s69 t70) (fun s74 t75 => (px_bv (f_M_flush_28 K N (0 : Int32) s74 t75) (fun s79 t80 => (px_lp (l_M_land1_28_154 K N N (v4 + (1 : Int32)) (0 : Int32) s79 t80) (fun i84 vs85 s86 t87 => (if i84 = 195 then (px_v0 vs85 (some (.inl (some (.int (v4 + (1 : Int32)))), s86, t87))) else none)) (fun z89 => some z89))) (fun x83 s79 t80 => none))) (fun x78 s74 t75 => none))) (fun x73 s69 t70 => none))) (fun x68 s64 t65 => none))) else none)) (fun z62 => some z62))) (fun x56 s52 t53 => none))) (fun x51 s47 t48 => none))) (fun x46 s42 t43 => none))) (fun x41 s37 t38 => none))) (fun x36 s32 t33 => none))) (fun x31 s27 t28 => none)))) else none)) (fun z24 => some z24))) (fun x18 s14 t15 => none))) else none)) (fun z12 => some z12)) else (some (.inl (some (.int (0 : Int32))), s1, t2)))) (fun x5 s1 t2 => none))
set_option maxRecDepth 100000 in
theorem e_M_land1_28 (K : px_K) (N : Nat) (s : px_S) (t : px_W) (r : px_Res) (h : f_M_land1_28 K N s t = some r) : px_E px_ET px_P 6 48 0 (px_ent 4 [.ref 28]) [] (px_w K s t) r.1 (px_w K r.2.1 r.2.2) := by
  have hM : px_P[48]? = some pm_M_land1 := rfl
  unfold f_M_land1_28 at h
  refine px_blk (i' := 1) (L' := [some (.ref 28), none, none, none]) (S' := [.ref 28]) (w' := px_w K s t) (q := []) 1 hM rfl trivial ?_
  rcases px_bi_some h with ⟨v4, s1, t2, hk3, h⟩ | ⟨x5, s1, t2, hk3, h⟩
  · refine px_E_call hM rfl rfl rfl rfl (px_E_mono (by decide) (e_M_landed_28 K N s t _ hk3)) ?_
    refine px_blkif (c := (v4 + (1 : Int32)) < (s1.1 32)) (t := 11) (e := 9) (L' := [some (.ref 28), some (.int (v4 + (1 : Int32))), none, none]) (S' := []) (w' := px_w K s1 t2) (q := []) 7 hM rfl trivial (fun hc6 => ?_) (fun hc6 => ?_)
    · rw [if_pos hc6] at h
      refine px_blk (i' := 15) (L' := [some (.ref 28), some (.int (v4 + (1 : Int32))), some (.int (0 : Int32)), some (.int (0 : Int32))]) (S' := []) (w' := px_w K s1 t2) (q := []) 4 hM rfl trivial ?_
      rcases px_lp_some h with ⟨i7, vs8, s9, t10, hl11, h⟩ | ⟨z12, hl11, h⟩
      · by_cases hi13 : i7 = 25
        · subst hi13
          rw [if_pos rfl] at h
          have h9 := px_v0_some h
          clear h
          obtain ⟨rfl, h⟩ := h9
          refine e_l_M_land1_28_15 K N (v4 + (1 : Int32)) (0 : Int32) N (0 : Int32) s1 t2 _ hl11 _ _ ?_
          show px_E px_ET px_P 6 48 25 [some (.ref 28), some (.int (v4 + (1 : Int32))), some (.int (0 : Int32)), none] [] (px_w K s9 t10) _ _
          refine px_blk (i' := 28) (L' := [some (.ref 28), some (.int (v4 + (1 : Int32))), some (.int (0 : Int32)), none]) (S' := [.int (-1 : Int32), .int (v4 + (1 : Int32)), .ref 28]) (w' := px_w K s9 t10) (q := []) 3 hM rfl trivial ?_
          rcases px_bi_some h with ⟨v17, s14, t15, hk16, h⟩ | ⟨x18, s14, t15, hk16, h⟩
          · refine px_E_call hM rfl rfl rfl rfl (px_E_mono (by decide) (e_M_nextOf_28 K N (v4 + (1 : Int32)) (-1 : Int32) s9 t10 _ hk16)) ?_
            refine px_blk (i' := 30) (L' := [some (.ref 28), some (.int (v4 + (1 : Int32))), some (.int (0 : Int32)), some (.int v17)]) (S' := []) (w' := px_w K s14 t15) (q := []) 1 hM rfl trivial ?_
            rcases px_lp_some h with ⟨i19, vs20, s21, t22, hl23, h⟩ | ⟨z24, hl23, h⟩
            · by_cases hi26 : i19 = 68
              · subst hi26
                rw [if_pos rfl] at h
                have h9 := px_v1_some h
                clear h
                obtain ⟨y25, rfl, h⟩ := h9
                refine e_l_M_land1_28_30 K N (v4 + (1 : Int32)) N (0 : Int32) v17 s14 t15 _ hl23 _ _ ?_
                show px_E px_ET px_P 6 48 68 [some (.ref 28), some (.int (v4 + (1 : Int32))), some (.int y25), none] [] (px_w K s21 t22) _ _
                refine px_blk (i' := 74) (L' := [some (.ref 28), some (.int (v4 + (1 : Int32))), some (.int y25), none]) (S' := [.int (0 : Int32), .ref 45, .int (2 : Int32), .int (0 : Int32), .ref 28]) (w' := px_w K s21 t22) (q := []) 6 hM rfl trivial ?_
                rcases px_bv_some h with ⟨s27, t28, hk29, h⟩ | ⟨x31, s27, t28, hk29, h⟩
                · refine px_E_call hM rfl rfl rfl rfl (px_E_mono (by decide) (e_M_write_28_45 K N (0 : Int32) (2 : Int32) (0 : Int32) s21 t22 _ hk29)) ?_
                  refine px_blk (i' := 77) (L' := [some (.ref 28), some (.int (v4 + (1 : Int32))), some (.int y25), none]) (S' := [.int (0 : Int32), .ref 28]) (w' := px_w K s27 t28) (q := []) 2 hM rfl trivial ?_
                  rcases px_bv_some h with ⟨s32, t33, hk34, h⟩ | ⟨x36, s32, t33, hk34, h⟩
                  · refine px_E_call hM rfl rfl rfl rfl (px_E_mono (by decide) (e_M_flush_28 K N (0 : Int32) s27 t28 _ hk34)) ?_
                    refine px_blk (i' := 84) (L' := [some (.ref 28), some (.int (v4 + (1 : Int32))), some (.int y25), none]) (S' := [.int y25, .int (v4 + (1 : Int32)), .int (1 : Int32), .ref 43, .ref 28]) (w' := px_w K s32 t33) (q := []) 6 hM rfl trivial ?_
                    rcases px_bv_some h with ⟨s37, t38, hk39, h⟩ | ⟨x41, s37, t38, hk39, h⟩
                    · refine px_E_call hM rfl rfl rfl rfl (px_E_mono (by decide) (e_M_three_28_43 K N (1 : Int32) (v4 + (1 : Int32)) y25 s32 t33 _ hk39)) ?_
                      refine px_blk (i' := 91) (L' := [some (.ref 28), some (.int (v4 + (1 : Int32))), some (.int y25), none]) (S' := [.int (0 : Int32), .ref 43, .int (1 : Int32), .int (0 : Int32), .ref 28]) (w' := px_w K s37 t38) (q := []) 6 hM rfl trivial ?_
                      rcases px_bv_some h with ⟨s42, t43, hk44, h⟩ | ⟨x46, s42, t43, hk44, h⟩
                      · refine px_E_call hM rfl rfl rfl rfl (px_E_mono (by decide) (e_M_write_28_43 K N (0 : Int32) (1 : Int32) (0 : Int32) s37 t38 _ hk44)) ?_
                        refine px_blk (i' := 94) (L' := [some (.ref 28), some (.int (v4 + (1 : Int32))), some (.int y25), none]) (S' := [.int (0 : Int32), .ref 28]) (w' := px_w K s42 t43) (q := []) 2 hM rfl trivial ?_
                        rcases px_bv_some h with ⟨s47, t48, hk49, h⟩ | ⟨x51, s47, t48, hk49, h⟩
                        · refine px_E_call hM rfl rfl rfl rfl (px_E_mono (by decide) (e_M_flush_28 K N (0 : Int32) s42 t43 _ hk49)) ?_
                          refine px_blk (i' := 98) (L' := [some (.ref 28), some (.int (v4 + (1 : Int32))), some (.int y25), none]) (S' := [.int (-1 : Int32), .int (v4 + (1 : Int32)), .ref 28]) (w' := px_w K s47 t48) (q := []) 3 hM rfl trivial ?_
                          rcases px_bi_some h with ⟨v55, s52, t53, hk54, h⟩ | ⟨x56, s52, t53, hk54, h⟩
                          · refine px_E_call hM rfl rfl rfl rfl (px_E_mono (by decide) (e_M_nextOf_28 K N (v4 + (1 : Int32)) (-1 : Int32) s47 t48 _ hk54)) ?_
                            refine px_blk (i' := 100) (L' := [some (.ref 28), some (.int (v4 + (1 : Int32))), some (.int y25), some (.int v55)]) (S' := []) (w' := px_w K s52 t53) (q := []) 1 hM rfl trivial ?_
                            rcases px_lp_some h with ⟨i57, vs58, s59, t60, hl61, h⟩ | ⟨z62, hl61, h⟩
                            · by_cases hi63 : i57 = 132
                              · subst hi63
                                rw [if_pos rfl] at h
                                have h9 := px_v0_some h
                                clear h
                                obtain ⟨rfl, h⟩ := h9
                                refine px_E_le (px_leC_L _ _ (by simp [px_leC, px_le1, Value.category])) (e_l_M_land1_28_100 K N (v4 + (1 : Int32)) N v55 s52 t53 _ hl61 _ _ ?_)
                                show px_E px_ET px_P 6 48 132 [some (.ref 28), some (.int (v4 + (1 : Int32))), none, none] [] (px_w K s59 t60) _ _
                                refine px_blk (i' := 134) (L' := [some (.ref 28), some (.int (v4 + (1 : Int32))), none, none]) (S' := [.int (0 : Int32), .ref 28]) (w' := px_w K s59 t60) (q := []) 2 hM rfl trivial ?_
                                rcases px_bv_some h with ⟨s64, t65, hk66, h⟩ | ⟨x68, s64, t65, hk66, h⟩
                                · refine px_E_call hM rfl rfl rfl rfl (px_E_mono (by decide) (e_M_flush_28 K N (0 : Int32) s59 t60 _ hk66)) ?_
                                  refine px_blk (i' := 141) (L' := [some (.ref 28), some (.int (v4 + (1 : Int32))), none, none]) (S' := [.int (0 : Int32), .int (v4 + (1 : Int32)), .int (0 : Int32), .ref 43, .ref 28]) (w' := px_w K s64 t65) (q := []) 6 hM rfl trivial ?_
                                  rcases px_bv_some h with ⟨s69, t70, hk71, h⟩ | ⟨x73, s69, t70, hk71, h⟩
                                  · refine px_E_call hM rfl rfl rfl rfl (px_E_mono (by decide) (e_M_three_28_43 K N (0 : Int32) (v4 + (1 : Int32)) (0 : Int32) s64 t65 _ hk71)) ?_
                                    refine px_blk (i' := 148) (L' := [some (.ref 28), some (.int (v4 + (1 : Int32))), none, none]) (S' := [.int (0 : Int32), .ref 43, .int (1 : Int32), .int (0 : Int32), .ref 28]) (w' := px_w K s69 t70) (q := []) 6 hM rfl trivial ?_
                                    rcases px_bv_some h with ⟨s74, t75, hk76, h⟩ | ⟨x78, s74, t75, hk76, h⟩
                                    · refine px_E_call hM rfl rfl rfl rfl (px_E_mono (by decide) (e_M_write_28_43 K N (0 : Int32) (1 : Int32) (0 : Int32) s69 t70 _ hk76)) ?_
                                      refine px_blk (i' := 151) (L' := [some (.ref 28), some (.int (v4 + (1 : Int32))), none, none]) (S' := [.int (0 : Int32), .ref 28]) (w' := px_w K s74 t75) (q := []) 2 hM rfl trivial ?_
                                      rcases px_bv_some h with ⟨s79, t80, hk81, h⟩ | ⟨x83, s79, t80, hk81, h⟩
                                      · refine px_E_call hM rfl rfl rfl rfl (px_E_mono (by decide) (e_M_flush_28 K N (0 : Int32) s74 t75 _ hk81)) ?_
                                        refine px_blk (i' := 154) (L' := [some (.ref 28), some (.int (v4 + (1 : Int32))), none, some (.int (0 : Int32))]) (S' := []) (w' := px_w K s79 t80) (q := []) 2 hM rfl trivial ?_
                                        rcases px_lp_some h with ⟨i84, vs85, s86, t87, hl88, h⟩ | ⟨z89, hl88, h⟩
                                        · by_cases hi90 : i84 = 195
                                          · subst hi90
                                            rw [if_pos rfl] at h
                                            have h9 := px_v0_some h
                                            clear h
                                            obtain ⟨rfl, h⟩ := h9
                                            refine e_l_M_land1_28_154 K N (v4 + (1 : Int32)) N (0 : Int32) s79 t80 _ hl88 _ _ ?_
                                            show px_E px_ET px_P 6 48 195 [none, some (.int (v4 + (1 : Int32))), none, none] [] (px_w K s86 t87) _ _
                                            refine px_blk (i' := 196) (L' := [none, some (.int (v4 + (1 : Int32))), none, none]) (S' := [.int (v4 + (1 : Int32))]) (w' := px_w K s86 t87) (q := []) 1 hM rfl trivial ?_
                                            cases h
                                            exact px_E_ret hM rfl rfl rfl trivial
                                          · rw [if_neg hi90] at h
                                            cases h
                                        · cases h
                                          exact e_l_M_land1_28_154 K N (v4 + (1 : Int32)) N (0 : Int32) s79 t80 _ hl88 _ _ ⟨rfl, rfl⟩
                                      · cases h
                                    · cases h
                                  · cases h
                                · cases h
                              · rw [if_neg hi63] at h
                                cases h
                            · cases h
                              exact px_E_le (px_leC_L _ _ (by simp [px_leC, px_le1, Value.category])) (e_l_M_land1_28_100 K N (v4 + (1 : Int32)) N v55 s52 t53 _ hl61 _ _ ⟨rfl, rfl⟩)
                          · cases h
                        · cases h
                      · cases h
                    · cases h
                  · cases h
                · cases h
              · rw [if_neg hi26] at h
                cases h
            · cases h
              exact e_l_M_land1_28_30 K N (v4 + (1 : Int32)) N (0 : Int32) v17 s14 t15 _ hl23 _ _ ⟨rfl, rfl⟩
          · cases h
        · rw [if_neg hi13] at h
          cases h
      · cases h
        exact e_l_M_land1_28_15 K N (v4 + (1 : Int32)) (0 : Int32) N (0 : Int32) s1 t2 _ hl11 _ _ ⟨rfl, rfl⟩
    · rw [if_neg hc6] at h
      refine px_blk (i' := 10) (L' := [some (.ref 28), some (.int (v4 + (1 : Int32))), none, none]) (S' := [.int (0 : Int32)]) (w' := px_w K s1 t2) (q := []) 1 hM rfl trivial ?_
      cases h
      exact px_E_ret hM rfl rfl rfl trivial
  · cases h
noncomputable def l_M_records_28_33 (K : px_K) (N : Nat) (n : Nat) (u1 : Int32) (u2 : Int32) (u3 : Int32) (u4 : Int32) (u5 : Int32) (u6 : Int32) (u7 : Int32) (m8 : Int32) (s : px_S) (t : px_W) : Option px_LO := match n with
  | 0 => none
  | n + 1 => (if (16 : Int32) ≤ m8 then (some (.inl (43, [], s, t))) else (px_gd (vp_in m8 (K.2.2 43)) (px_let (sA s 43 m8.toNatClampNeg (0 : Int32)) (fun s3 => (l_M_records_28_33 K N n u1 u2 u3 u4 u5 u6 u7 (m8 + (1 : Int32)) s3 t)))))
def a_l_M_records_28_33 (K : px_K) (u1 : Int32) (u2 : Int32) (u3 : Int32) (u4 : Int32) (u5 : Int32) (u6 : Int32) (u7 : Int32) (z : px_LO) (o : Option Value ⊕ Nat) (w2 : px_W) : Prop := match z with
  | .inr (o', s', t') => o = o' ∧ w2 = px_w K s' t'
  | .inl (43, [], s', t') => px_E px_ET px_P 6 44 43 [some (.ref 28), some (.int u1), some (.int u2), some (.int u3), some (.int u4), some (.int u5), some (.int u6), some (.int u7), none] [] (px_w K s' t') o w2
  | _ => False
noncomputable def l_M_records_28_73 (K : px_K) (N : Nat) (n : Nat) (u1 : Int32) (u2 : Int32) (u3 : Int32) (u4 : Int32) (u6 : Int32) (u7 : Int32) (u8 : Int32) (m5 : Int32) (s : px_S) (t : px_W) : Option px_LO := match n with
  | 0 => none
  | n + 1 => (px_gd (vp_in m5 (K.2.2 36)) (if ((s.2.2.1 36) m5.toNatClampNeg) = u1 then (some (.inl (81, [m5], s, t))) else (l_M_records_28_73 K N n u1 u2 u3 u4 u6 u7 u8 (m5 + (1 : Int32)) s t)))
def a_l_M_records_28_73 (K : px_K) (u1 : Int32) (u2 : Int32) (u3 : Int32) (u4 : Int32) (u6 : Int32) (u7 : Int32) (u8 : Int32) (z : px_LO) (o : Option Value ⊕ Nat) (w2 : px_W) : Prop := match z with
  | .inr (o', s', t') => o = o' ∧ w2 = px_w K s' t'
  | .inl (81, [y5], s', t') => px_E px_ET px_P 6 44 81 [some (.ref 28), some (.int u1), some (.int u2), some (.int u3), some (.int u4), some (.int y5), some (.int u6), some (.int u7), some (.int u8)] [] (px_w K s' t') o w2
  | _ => False
noncomputable def l_M_records_28_70 (K : px_K) (N : Nat) (n : Nat) (u1 : Int32) (u2 : Int32) (u3 : Int32) (u4 : Int32) (u6 : Int32) (u7 : Int32) (m5 : Int32) (m8 : Int32) (s : px_S) (t : px_W) : Option px_LO := match n with
  | 0 => none
  | n + 1 => (if u6 ≤ m8 then (some (.inl (105, [m5], s, t))) else (px_lp (l_M_records_28_73 K N N u1 u2 u3 u4 u6 u7 m8 m5 s t) (fun i2 vs3 s4 t5 => (if i2 = 81 then (px_v1 vs3 (fun y8 => (px_gd (vp_in ((4 : Int32) + ((2 : Int32) * m8)) (K.2.2 43)) (px_let (sA s4 43 ((4 : Int32) + ((2 : Int32) * m8)).toNatClampNeg y8) (fun s11 => (px_gd ((vp_in y8 (K.2.2 35)) ∧ (vp_in ((5 : Int32) + ((2 : Int32) * m8)) (K.2.2 43))) (px_let (sA s11 43 ((5 : Int32) + ((2 : Int32) * m8)).toNatClampNeg ((s11.2.2.1 35) y8.toNatClampNeg)) (fun s15 => (l_M_records_28_70 K N n u1 u2 u3 u4 u6 u7 (y8 + (1 : Int32)) (m8 + (1 : Int32)) s15 t5))))))))) else none)) (fun z7 => some (.inr z7))))
def a_l_M_records_28_70 (K : px_K) (u1 : Int32) (u2 : Int32) (u3 : Int32) (u4 : Int32) (u6 : Int32) (u7 : Int32) (z : px_LO) (o : Option Value ⊕ Nat) (w2 : px_W) : Prop := match z with
  | .inr (o', s', t') => o = o' ∧ w2 = px_w K s' t'
  | .inl (105, [y5], s', t') => px_E px_ET px_P 6 44 105 [some (.ref 28), some (.int u1), some (.int u2), some (.int u3), some (.int u4), some (.int y5), some (.int u6), some (.int u7), none] [] (px_w K s' t') o w2
  | _ => False
noncomputable def l_M_records_28_8 (K : px_K) (N : Nat) (n : Nat) (u1 : Int32) (u2 : Int32) (u3 : Int32) (m4 : Int32) (m5 : Int32) (s : px_S) (t : px_W) : Option px_LO := match n with
  | 0 => none
  | n + 1 => (if u3 ≤ m4 then (some (.inl (145, [], s, t))) else (px_let (if (6 : Int32) ≤ (u3 - m4) then (6 : Int32) else (u3 - m4)) (fun v2 => (px_let (if ¬ (m4 + v2) = u3 then (0 : Int32) else (1 : Int32)) (fun v4 => (px_lp (l_M_records_28_33 K N N u1 u2 u3 m4 m5 v2 v4 (4 : Int32) s t) (fun i6 vs7 s8 t9 => (if i6 = 43 then (px_v0 vs7 (px_gd (vp_in (0 : Int32) (K.2.2 43)) (px_let (sA s8 43 (0 : Int32).toNatClampNeg (s8.1 34)) (fun s14 => (px_gd (vp_in (1 : Int32) (K.2.2 43)) (px_let (sA s14 43 (1 : Int32).toNatClampNeg u1) (fun s17 => (px_gd (vp_in (2 : Int32) (K.2.2 43)) (px_let (sA s17 43 (2 : Int32).toNatClampNeg (if v4 = 0 then (0 : Int32) else (1 : Int32))) (fun s20 => (px_gd (vp_in (3 : Int32) (K.2.2 43)) (px_let (sA s20 43 (3 : Int32).toNatClampNeg v2) (fun s23 => (px_lp (l_M_records_28_70 K N N u1 u2 u3 m4 v2 v4 m5 (0 : Int32) s23 t9) (fun i25 vs26 s27 t28 => (if i25 = 105 then (px_v1 vs26 (fun y31 => (if v4 = 0 then (px_bv (f_M_write_28_43 K N (1 : Int32) ((((25 : Int32) * (s27.1 33)) + (1 : Int32)) + (s27.1 35)) (0 : Int32) s27 t28) (fun s34 t35 => (if v4 = 0 then (px_let (sR s34 35 ((s34.1 35) + (1 : Int32))) (fun s40 => (l_M_records_28_8 K N n u1 u2 u3 (m4 + v2) y31 s40 t35))) else (if u2 = 0 then (px_let (sR s34 35 ((s34.1 35) + (1 : Int32))) (fun s43 => (l_M_records_28_8 K N n u1 u2 u3 (m4 + v2) y31 s43 t35))) else (px_bv (f_M_flush_28 K N (1 : Int32) s34 t35) (fun s45 t46 => (px_let (sR s45 35 ((s45.1 35) + (1 : Int32))) (fun s50 => (l_M_records_28_8 K N n u1 u2 u3 (m4 + v2) y31 s50 t46)))) (fun x49 s45 t46 => none))))) (fun x38 s34 t35 => none)) else (if u2 = 0 then (px_bv (f_M_write_28_43 K N (1 : Int32) ((((25 : Int32) * (s27.1 33)) + (1 : Int32)) + (s27.1 35)) (0 : Int32) s27 t28) (fun s53 t54 => (if v4 = 0 then (px_let (sR s53 35 ((s53.1 35) + (1 : Int32))) (fun s59 => (l_M_records_28_8 K N n u1 u2 u3 (m4 + v2) y31 s59 t54))) else (if u2 = 0 then (px_let (sR s53 35 ((s53.1 35) + (1 : Int32))) (fun s62 => (l_M_records_28_8 K N n u1 u2 u3 (m4 + v2) y31 s62 t54))) else (px_bv (f_M_flush_28 K N (1 : Int32) s53 t54) (fun s64 t65 => (px_let (sR s64 35 ((s64.1 35) + (1 : Int32))) (fun s69 => (l_M_records_28_8 K N n u1 u2 u3 (m4 + v2) y31 s69 t65)))) (fun x68 s64 t65 => none))))) (fun x57 s53 t54 => none)) else (px_bv (f_M_flush_28 K N (1 : Int32) s27 t28) (fun s71 t72 => (px_bv (f_M_write_28_43 K N (1 : Int32) ((((25 : Int32) * (s71.1 33)) + (1 : Int32)) + (s71.1 35)) (0 : Int32) s71 t72) (fun s76 t77 => (if v4 = 0 then (px_let (sR s76 35 ((s76.1 35) + (1 : Int32))) (fun s82 => (l_M_records_28_8 K N n u1 u2 u3 (m4 + v2) y31 s82 t77))) else (if u2 = 0 then (px_let (sR s76 35 ((s76.1 35) + (1 : Int32))) (fun s85 => (l_M_records_28_8 K N n u1 u2 u3 (m4 + v2) y31 s85 t77))) else (px_bv (f_M_flush_28 K N (1 : Int32) s76 t77) (fun s87 t88 => (px_let (sR s87 35 ((s87.1 35) + (1 : Int32))) (fun s92 => (l_M_records_28_8 K N n u1 u2 u3 (m4 + v2) y31 s92 t88)))) (fun x91 s87 t88 => none))))) (fun x80 s76 t77 => none))) (fun x75 s71 t72 => none)))))) else none)) (fun z30 => some (.inr z30)))))))))))))))) else none)) (fun z11 => some (.inr z11))))))))
def a_l_M_records_28_8 (K : px_K) (u1 : Int32) (u2 : Int32) (u3 : Int32) (z : px_LO) (o : Option Value ⊕ Nat) (w2 : px_W) : Prop := match z with
  | .inr (o', s', t') => o = o' ∧ w2 = px_w K s' t'
  | .inl (145, [], s', t') => px_E px_ET px_P 6 44 145 [none, none, none, none, none, none, none, none, none] [] (px_w K s' t') o w2
  | _ => False
set_option maxRecDepth 100000 in
theorem e_l_M_records_28_33 (K : px_K) (N : Nat) (u1 : Int32) (u2 : Int32) (u3 : Int32) (u4 : Int32) (u5 : Int32) (u6 : Int32) (u7 : Int32) : ∀ (n : Nat) (m8 : Int32) (s : px_S) (t : px_W) (z : px_LO), l_M_records_28_33 K N n u1 u2 u3 u4 u5 u6 u7 m8 s t = some z → ∀ (o : Option Value ⊕ Nat) (w2 : px_W), a_l_M_records_28_33 K u1 u2 u3 u4 u5 u6 u7 z o w2 → px_E px_ET px_P 6 44 33 [some (.ref 28), some (.int u1), some (.int u2), some (.int u3), some (.int u4), some (.int u5), some (.int u6), some (.int u7), some (.int m8)] [] (px_w K s t) o w2 := by
  have hM : px_P[44]? = some pm_M_records := rfl
  intro n
  induction n with
  | zero => intro m8 s t z h; cases h
  | succ n ih =>
    intro m8 s t z h o w2 ha
    unfold l_M_records_28_33 at h
    refine px_blkif (c := (16 : Int32) ≤ m8) (t := 43) (e := 36) (L' := [some (.ref 28), some (.int u1), some (.int u2), some (.int u3), some (.int u4), some (.int u5), some (.int u6), some (.int u7), some (.int m8)]) (S' := []) (w' := px_w K s t) (q := []) 3 hM rfl trivial (fun hc1 => ?_) (fun hc1 => ?_)
    · rw [if_pos hc1] at h
      cases h
      exact px_E_le (px_leC_L _ _ (by simp [px_leC, px_le1, Value.category])) ha
    · rw [if_neg hc1] at h
      obtain ⟨hq2, h⟩ := px_gd_some h
      refine px_blk (i' := 41) (L' := [some (.ref 28), some (.int u1), some (.int u2), some (.int u3), some (.int u4), some (.int u5), some (.int u6), some (.int u7), some (.int m8)]) (S' := []) (w' := px_w K (sA s 43 m8.toNatClampNeg (0 : Int32)) t) (q := [vp_in m8 (K.2.2 43)]) 5 hM rfl (show vp_in m8 (K.2.2 43) from hq2) ?_
      obtain ⟨s3, hs4, h⟩ := px_let_some h
      rw [← hs4]
      refine px_blk (i' := 33) (L' := [some (.ref 28), some (.int u1), some (.int u2), some (.int u3), some (.int u4), some (.int u5), some (.int u6), some (.int u7), some (.int (m8 + (1 : Int32)))]) (S' := []) (w' := px_w K s3 t) (q := []) 2 hM rfl trivial ?_
      exact ih (m8 + (1 : Int32)) s3 t z h o w2 ha
set_option maxRecDepth 100000 in
theorem e_l_M_records_28_73 (K : px_K) (N : Nat) (u1 : Int32) (u2 : Int32) (u3 : Int32) (u4 : Int32) (u6 : Int32) (u7 : Int32) (u8 : Int32) : ∀ (n : Nat) (m5 : Int32) (s : px_S) (t : px_W) (z : px_LO), l_M_records_28_73 K N n u1 u2 u3 u4 u6 u7 u8 m5 s t = some z → ∀ (o : Option Value ⊕ Nat) (w2 : px_W), a_l_M_records_28_73 K u1 u2 u3 u4 u6 u7 u8 z o w2 → px_E px_ET px_P 6 44 73 [some (.ref 28), some (.int u1), some (.int u2), some (.int u3), some (.int u4), some (.int m5), some (.int u6), some (.int u7), some (.int u8)] [] (px_w K s t) o w2 := by
  have hM : px_P[44]? = some pm_M_records := rfl
  intro n
  induction n with
  | zero => intro m5 s t z h; cases h
  | succ n ih =>
    intro m5 s t z h o w2 ha
    unfold l_M_records_28_73 at h
    obtain ⟨hq1, h⟩ := px_gd_some h
    refine px_blkif (c := ((s.2.2.1 36) m5.toNatClampNeg) = u1) (t := 81) (e := 79) (L' := [some (.ref 28), some (.int u1), some (.int u2), some (.int u3), some (.int u4), some (.int m5), some (.int u6), some (.int u7), some (.int u8)]) (S' := []) (w' := px_w K s t) (q := [vp_in m5 (K.2.2 36)]) 6 hM rfl (show vp_in m5 (K.2.2 36) from hq1) (fun hc2 => ?_) (fun hc2 => ?_)
    · rw [if_pos hc2] at h
      cases h
      exact px_E_le (px_leC_L _ _ (by simp [px_leC, px_le1, Value.category])) ha
    · rw [if_neg hc2] at h
      refine px_blk (i' := 73) (L' := [some (.ref 28), some (.int u1), some (.int u2), some (.int u3), some (.int u4), some (.int (m5 + (1 : Int32))), some (.int u6), some (.int u7), some (.int u8)]) (S' := []) (w' := px_w K s t) (q := []) 2 hM rfl trivial ?_
      exact ih (m5 + (1 : Int32)) s t z h o w2 ha
set_option maxRecDepth 100000 in
theorem e_l_M_records_28_70 (K : px_K) (N : Nat) (u1 : Int32) (u2 : Int32) (u3 : Int32) (u4 : Int32) (u6 : Int32) (u7 : Int32) : ∀ (n : Nat) (m5 : Int32) (m8 : Int32) (s : px_S) (t : px_W) (z : px_LO), l_M_records_28_70 K N n u1 u2 u3 u4 u6 u7 m5 m8 s t = some z → ∀ (o : Option Value ⊕ Nat) (w2 : px_W), a_l_M_records_28_70 K u1 u2 u3 u4 u6 u7 z o w2 → px_E px_ET px_P 6 44 70 [some (.ref 28), some (.int u1), some (.int u2), some (.int u3), some (.int u4), some (.int m5), some (.int u6), some (.int u7), some (.int m8)] [] (px_w K s t) o w2 := by
  have hM : px_P[44]? = some pm_M_records := rfl
  intro n
  induction n with
  | zero => intro m5 m8 s t z h; cases h
  | succ n ih =>
    intro m5 m8 s t z h o w2 ha
    unfold l_M_records_28_70 at h
    refine px_blkif (c := u6 ≤ m8) (t := 105) (e := 73) (L' := [some (.ref 28), some (.int u1), some (.int u2), some (.int u3), some (.int u4), some (.int m5), some (.int u6), some (.int u7), some (.int m8)]) (S' := []) (w' := px_w K s t) (q := []) 3 hM rfl trivial (fun hc1 => ?_) (fun hc1 => ?_)
    · rw [if_pos hc1] at h
      cases h
      exact px_E_le (px_leC_L _ _ (by simp [px_leC, px_le1, Value.category])) ha
    · rw [if_neg hc1] at h
      rcases px_lp_some h with ⟨i2, vs3, s4, t5, hl6, h⟩ | ⟨z7, hl6, h⟩
      · by_cases hi9 : i2 = 81
        · subst hi9
          rw [if_pos rfl] at h
          have h9 := px_v1_some h
          clear h
          obtain ⟨y8, rfl, h⟩ := h9
          refine e_l_M_records_28_73 K N u1 u2 u3 u4 u6 u7 m8 N m5 s t _ hl6 _ _ ?_
          show px_E px_ET px_P 6 44 81 [some (.ref 28), some (.int u1), some (.int u2), some (.int u3), some (.int u4), some (.int y8), some (.int u6), some (.int u7), some (.int m8)] [] (px_w K s4 t5) _ _
          obtain ⟨hq10, h⟩ := px_gd_some h
          refine px_blk (i' := 90) (L' := [some (.ref 28), some (.int u1), some (.int u2), some (.int u3), some (.int u4), some (.int y8), some (.int u6), some (.int u7), some (.int m8)]) (S' := []) (w' := px_w K (sA s4 43 ((4 : Int32) + ((2 : Int32) * m8)).toNatClampNeg y8) t5) (q := [vp_in ((4 : Int32) + ((2 : Int32) * m8)) (K.2.2 43)]) 9 hM rfl (show vp_in ((4 : Int32) + ((2 : Int32) * m8)) (K.2.2 43) from hq10) ?_
          obtain ⟨s11, hs12, h⟩ := px_let_some h
          rw [← hs12]
          obtain ⟨⟨hq13, hq14⟩, h⟩ := px_gd_some h
          refine px_blk (i' := 102) (L' := [some (.ref 28), some (.int u1), some (.int u2), some (.int u3), some (.int u4), some (.int y8), some (.int u6), some (.int u7), some (.int m8)]) (S' := []) (w' := px_w K (sA s11 43 ((5 : Int32) + ((2 : Int32) * m8)).toNatClampNeg ((s11.2.2.1 35) y8.toNatClampNeg)) t5) (q := [vp_in y8 (K.2.2 35), vp_in ((5 : Int32) + ((2 : Int32) * m8)) (K.2.2 43)]) 12 hM rfl (show (vp_in y8 (K.2.2 35)) ∧ (vp_in ((5 : Int32) + ((2 : Int32) * m8)) (K.2.2 43)) from ⟨hq13, hq14⟩) ?_
          obtain ⟨s15, hs16, h⟩ := px_let_some h
          rw [← hs16]
          refine px_blk (i' := 70) (L' := [some (.ref 28), some (.int u1), some (.int u2), some (.int u3), some (.int u4), some (.int (y8 + (1 : Int32))), some (.int u6), some (.int u7), some (.int (m8 + (1 : Int32)))]) (S' := []) (w' := px_w K s15 t5) (q := []) 3 hM rfl trivial ?_
          exact ih (y8 + (1 : Int32)) (m8 + (1 : Int32)) s15 t5 z h o w2 ha
        · rw [if_neg hi9] at h
          cases h
      · cases h
        obtain ⟨rfl, rfl⟩ := ha
        exact e_l_M_records_28_73 K N u1 u2 u3 u4 u6 u7 m8 N m5 s t _ hl6 _ _ ⟨rfl, rfl⟩
set_option maxRecDepth 100000 in
theorem e_l_M_records_28_8 (K : px_K) (N : Nat) (u1 : Int32) (u2 : Int32) (u3 : Int32) : ∀ (n : Nat) (m4 : Int32) (m5 : Int32) (s : px_S) (t : px_W) (z : px_LO), l_M_records_28_8 K N n u1 u2 u3 m4 m5 s t = some z → ∀ (o : Option Value ⊕ Nat) (w2 : px_W), a_l_M_records_28_8 K u1 u2 u3 z o w2 → px_E px_ET px_P 6 44 8 [some (.ref 28), some (.int u1), some (.int u2), some (.int u3), some (.int m4), some (.int m5), none, none, none] [] (px_w K s t) o w2 := by
  have hM : px_P[44]? = some pm_M_records := rfl
  intro n
  induction n with
  | zero => intro m4 m5 s t z h; cases h
  | succ n ih =>
    intro m4 m5 s t z h o w2 ha
    unfold l_M_records_28_8 at h
    refine px_blkif (c := u3 ≤ m4) (t := 145) (e := 11) (L' := [some (.ref 28), some (.int u1), some (.int u2), some (.int u3), some (.int m4), some (.int m5), none, none, none]) (S' := []) (w' := px_w K s t) (q := []) 3 hM rfl trivial (fun hc1 => ?_) (fun hc1 => ?_)
    · rw [if_pos hc1] at h
      cases h
      exact px_E_le (px_leC_L _ _ (by simp [px_leC, px_le1, Value.category])) ha
    · rw [if_neg hc1] at h
      refine px_blk (i' := 15) (L' := [some (.ref 28), some (.int u1), some (.int u2), some (.int u3), some (.int m4), some (.int m5), none, none, none]) (S' := [.int (6 : Int32), .int (u3 - m4)]) (w' := px_w K s t) (q := []) 4 hM rfl trivial ?_
      have hK : px_E px_ET px_P 6 44 21 [some (.ref 28), some (.int u1), some (.int u2), some (.int u3), some (.int m4), some (.int m5), none, none, none] [.int (if (6 : Int32) ≤ (u3 - m4) then (6 : Int32) else (u3 - m4))] (px_w K s t) o w2 := by
        refine px_blk (i' := 22) (L' := [some (.ref 28), some (.int u1), some (.int u2), some (.int u3), some (.int m4), some (.int m5), some (.int (if (6 : Int32) ≤ (u3 - m4) then (6 : Int32) else (u3 - m4))), none, none]) (S' := []) (w' := px_w K s t) (q := []) 1 hM rfl trivial ?_
        obtain ⟨v2, hv3, h⟩ := px_let_some h
        rw [← hv3]
        refine px_blk (i' := 26) (L' := [some (.ref 28), some (.int u1), some (.int u2), some (.int u3), some (.int m4), some (.int m5), some (.int v2), none, none]) (S' := [.int u3, .int (m4 + v2)]) (w' := px_w K s t) (q := []) 4 hM rfl trivial ?_
        have hK : px_E px_ET px_P 6 44 30 [some (.ref 28), some (.int u1), some (.int u2), some (.int u3), some (.int m4), some (.int m5), some (.int v2), none, none] [.int (if ¬ (m4 + v2) = u3 then (0 : Int32) else (1 : Int32))] (px_w K s t) o w2 := by
          refine px_blk (i' := 31) (L' := [some (.ref 28), some (.int u1), some (.int u2), some (.int u3), some (.int m4), some (.int m5), some (.int v2), some (.int (if ¬ (m4 + v2) = u3 then (0 : Int32) else (1 : Int32))), none]) (S' := []) (w' := px_w K s t) (q := []) 1 hM rfl trivial ?_
          obtain ⟨v4, hv5, h⟩ := px_let_some h
          rw [← hv5]
          refine px_blk (i' := 33) (L' := [some (.ref 28), some (.int u1), some (.int u2), some (.int u3), some (.int m4), some (.int m5), some (.int v2), some (.int v4), some (.int (4 : Int32))]) (S' := []) (w' := px_w K s t) (q := []) 2 hM rfl trivial ?_
          rcases px_lp_some h with ⟨i6, vs7, s8, t9, hl10, h⟩ | ⟨z11, hl10, h⟩
          · by_cases hi12 : i6 = 43
            · subst hi12
              rw [if_pos rfl] at h
              have h9 := px_v0_some h
              clear h
              obtain ⟨rfl, h⟩ := h9
              refine e_l_M_records_28_33 K N u1 u2 u3 m4 m5 v2 v4 N (4 : Int32) s t _ hl10 _ _ ?_
              show px_E px_ET px_P 6 44 43 [some (.ref 28), some (.int u1), some (.int u2), some (.int u3), some (.int m4), some (.int m5), some (.int v2), some (.int v4), none] [] (px_w K s8 t9) _ _
              obtain ⟨hq13, h⟩ := px_gd_some h
              refine px_blk (i' := 49) (L' := [some (.ref 28), some (.int u1), some (.int u2), some (.int u3), some (.int m4), some (.int m5), some (.int v2), some (.int v4), none]) (S' := []) (w' := px_w K (sA s8 43 (0 : Int32).toNatClampNeg (s8.1 34)) t9) (q := [vp_in (0 : Int32) (K.2.2 43)]) 6 hM rfl (show vp_in (0 : Int32) (K.2.2 43) from hq13) ?_
              obtain ⟨s14, hs15, h⟩ := px_let_some h
              rw [← hs15]
              obtain ⟨hq16, h⟩ := px_gd_some h
              refine px_blk (i' := 54) (L' := [some (.ref 28), some (.int u1), some (.int u2), some (.int u3), some (.int m4), some (.int m5), some (.int v2), some (.int v4), none]) (S' := []) (w' := px_w K (sA s14 43 (1 : Int32).toNatClampNeg u1) t9) (q := [vp_in (1 : Int32) (K.2.2 43)]) 5 hM rfl (show vp_in (1 : Int32) (K.2.2 43) from hq16) ?_
              obtain ⟨s17, hs18, h⟩ := px_let_some h
              rw [← hs18]
              refine px_blk (i' := 58) (L' := [some (.ref 28), some (.int u1), some (.int u2), some (.int u3), some (.int m4), some (.int m5), some (.int v2), some (.int v4), none]) (S' := [.int v4, .int (2 : Int32), .ref 43]) (w' := px_w K s17 t9) (q := []) 4 hM rfl trivial ?_
              have hK : px_E px_ET px_P 6 44 62 [some (.ref 28), some (.int u1), some (.int u2), some (.int u3), some (.int m4), some (.int m5), some (.int v2), some (.int v4), none] [.int (if v4 = 0 then (0 : Int32) else (1 : Int32)), .int (2 : Int32), .ref 43] (px_w K s17 t9) o w2 := by
                obtain ⟨hq19, h⟩ := px_gd_some h
                refine px_blk (i' := 63) (L' := [some (.ref 28), some (.int u1), some (.int u2), some (.int u3), some (.int m4), some (.int m5), some (.int v2), some (.int v4), none]) (S' := []) (w' := px_w K (sA s17 43 (2 : Int32).toNatClampNeg (if v4 = 0 then (0 : Int32) else (1 : Int32))) t9) (q := [vp_in (2 : Int32) (K.2.2 43)]) 1 hM rfl (show vp_in (2 : Int32) (K.2.2 43) from hq19) ?_
                obtain ⟨s20, hs21, h⟩ := px_let_some h
                rw [← hs21]
                obtain ⟨hq22, h⟩ := px_gd_some h
                refine px_blk (i' := 68) (L' := [some (.ref 28), some (.int u1), some (.int u2), some (.int u3), some (.int m4), some (.int m5), some (.int v2), some (.int v4), none]) (S' := []) (w' := px_w K (sA s20 43 (3 : Int32).toNatClampNeg v2) t9) (q := [vp_in (3 : Int32) (K.2.2 43)]) 5 hM rfl (show vp_in (3 : Int32) (K.2.2 43) from hq22) ?_
                obtain ⟨s23, hs24, h⟩ := px_let_some h
                rw [← hs24]
                refine px_blk (i' := 70) (L' := [some (.ref 28), some (.int u1), some (.int u2), some (.int u3), some (.int m4), some (.int m5), some (.int v2), some (.int v4), some (.int (0 : Int32))]) (S' := []) (w' := px_w K s23 t9) (q := []) 2 hM rfl trivial ?_
                rcases px_lp_some h with ⟨i25, vs26, s27, t28, hl29, h⟩ | ⟨z30, hl29, h⟩
                · by_cases hi32 : i25 = 105
                  · subst hi32
                    rw [if_pos rfl] at h
                    have h9 := px_v1_some h
                    clear h
                    obtain ⟨y31, rfl, h⟩ := h9
                    refine e_l_M_records_28_70 K N u1 u2 u3 m4 v2 v4 N m5 (0 : Int32) s23 t9 _ hl29 _ _ ?_
                    show px_E px_ET px_P 6 44 105 [some (.ref 28), some (.int u1), some (.int u2), some (.int u3), some (.int m4), some (.int y31), some (.int v2), some (.int v4), none] [] (px_w K s27 t28) _ _
                    refine px_blkif (c := v4 = 0) (t := 112) (e := 107) (L' := [some (.ref 28), some (.int u1), some (.int u2), some (.int u3), some (.int m4), some (.int y31), some (.int v2), some (.int v4), none]) (S' := []) (w' := px_w K s27 t28) (q := []) 2 hM rfl trivial (fun hc33 => ?_) (fun hc33 => ?_)
                    · rw [if_pos hc33] at h
                      refine px_blk (i' := 124) (L' := [some (.ref 28), some (.int u1), some (.int u2), some (.int u3), some (.int m4), some (.int y31), some (.int v2), some (.int v4), none]) (S' := [.ref 28, .int ((((25 : Int32) * (s27.1 33)) + (1 : Int32)) + (s27.1 35)), .int (1 : Int32), .ref 28]) (w' := px_w K s27 t28) (q := []) 12 hM rfl trivial ?_
                      refine px_blk (i' := 126) (L' := [some (.ref 28), some (.int u1), some (.int u2), some (.int u3), some (.int m4), some (.int y31), some (.int v2), some (.int v4), none]) (S' := [.int (0 : Int32), .ref 43, .int ((((25 : Int32) * (s27.1 33)) + (1 : Int32)) + (s27.1 35)), .int (1 : Int32), .ref 28]) (w' := px_w K s27 t28) (q := []) 2 hM rfl trivial ?_
                      rcases px_bv_some h with ⟨s34, t35, hk36, h⟩ | ⟨x38, s34, t35, hk36, h⟩
                      · refine px_E_call hM rfl rfl rfl rfl (px_E_mono (by decide) (e_M_write_28_43 K N (1 : Int32) ((((25 : Int32) * (s27.1 33)) + (1 : Int32)) + (s27.1 35)) (0 : Int32) s27 t28 _ hk36)) ?_
                        refine px_blkif (c := v4 = 0) (t := 134) (e := 129) (L' := [some (.ref 28), some (.int u1), some (.int u2), some (.int u3), some (.int m4), some (.int y31), some (.int v2), some (.int v4), none]) (S' := []) (w' := px_w K s34 t35) (q := []) 2 hM rfl trivial (fun hc39 => ?_) (fun hc39 => ?_)
                        · rw [if_pos hc39] at h
                          refine px_blk (i' := 140) (L' := [some (.ref 28), some (.int u1), some (.int u2), some (.int u3), some (.int m4), some (.int y31), some (.int v2), some (.int v4), none]) (S' := []) (w' := px_w K (sR s34 35 ((s34.1 35) + (1 : Int32))) t35) (q := []) 6 hM rfl trivial ?_
                          obtain ⟨s40, hs41, h⟩ := px_let_some h
                          rw [← hs41]
                          refine px_blk (i' := 8) (L' := [some (.ref 28), some (.int u1), some (.int u2), some (.int u3), some (.int (m4 + v2)), some (.int y31), some (.int v2), some (.int v4), none]) (S' := []) (w' := px_w K s40 t35) (q := []) 5 hM rfl trivial ?_
                          exact px_E_le (px_leC_L _ _ (by simp [px_leC, px_le1, Value.category])) (ih (m4 + v2) y31 s40 t35 z h o w2 ha)
                        · rw [if_neg hc39] at h
                          refine px_blkif (c := u2 = 0) (t := 134) (e := 131) (L' := [some (.ref 28), some (.int u1), some (.int u2), some (.int u3), some (.int m4), some (.int y31), some (.int v2), some (.int v4), none]) (S' := []) (w' := px_w K s34 t35) (q := []) 2 hM rfl trivial (fun hc42 => ?_) (fun hc42 => ?_)
                          · rw [if_pos hc42] at h
                            refine px_blk (i' := 140) (L' := [some (.ref 28), some (.int u1), some (.int u2), some (.int u3), some (.int m4), some (.int y31), some (.int v2), some (.int v4), none]) (S' := []) (w' := px_w K (sR s34 35 ((s34.1 35) + (1 : Int32))) t35) (q := []) 6 hM rfl trivial ?_
                            obtain ⟨s43, hs44, h⟩ := px_let_some h
                            rw [← hs44]
                            refine px_blk (i' := 8) (L' := [some (.ref 28), some (.int u1), some (.int u2), some (.int u3), some (.int (m4 + v2)), some (.int y31), some (.int v2), some (.int v4), none]) (S' := []) (w' := px_w K s43 t35) (q := []) 5 hM rfl trivial ?_
                            exact px_E_le (px_leC_L _ _ (by simp [px_leC, px_le1, Value.category])) (ih (m4 + v2) y31 s43 t35 z h o w2 ha)
                          · rw [if_neg hc42] at h
                            refine px_blk (i' := 133) (L' := [some (.ref 28), some (.int u1), some (.int u2), some (.int u3), some (.int m4), some (.int y31), some (.int v2), some (.int v4), none]) (S' := [.int (1 : Int32), .ref 28]) (w' := px_w K s34 t35) (q := []) 2 hM rfl trivial ?_
                            rcases px_bv_some h with ⟨s45, t46, hk47, h⟩ | ⟨x49, s45, t46, hk47, h⟩
                            · refine px_E_call hM rfl rfl rfl rfl (px_E_mono (by decide) (e_M_flush_28 K N (1 : Int32) s34 t35 _ hk47)) ?_
                              refine px_blk (i' := 140) (L' := [some (.ref 28), some (.int u1), some (.int u2), some (.int u3), some (.int m4), some (.int y31), some (.int v2), some (.int v4), none]) (S' := []) (w' := px_w K (sR s45 35 ((s45.1 35) + (1 : Int32))) t46) (q := []) 6 hM rfl trivial ?_
                              obtain ⟨s50, hs51, h⟩ := px_let_some h
                              rw [← hs51]
                              refine px_blk (i' := 8) (L' := [some (.ref 28), some (.int u1), some (.int u2), some (.int u3), some (.int (m4 + v2)), some (.int y31), some (.int v2), some (.int v4), none]) (S' := []) (w' := px_w K s50 t46) (q := []) 5 hM rfl trivial ?_
                              exact px_E_le (px_leC_L _ _ (by simp [px_leC, px_le1, Value.category])) (ih (m4 + v2) y31 s50 t46 z h o w2 ha)
                            · cases h
                      · cases h
                    · rw [if_neg hc33] at h
                      refine px_blkif (c := u2 = 0) (t := 112) (e := 109) (L' := [some (.ref 28), some (.int u1), some (.int u2), some (.int u3), some (.int m4), some (.int y31), some (.int v2), some (.int v4), none]) (S' := []) (w' := px_w K s27 t28) (q := []) 2 hM rfl trivial (fun hc52 => ?_) (fun hc52 => ?_)
                      · rw [if_pos hc52] at h
                        refine px_blk (i' := 124) (L' := [some (.ref 28), some (.int u1), some (.int u2), some (.int u3), some (.int m4), some (.int y31), some (.int v2), some (.int v4), none]) (S' := [.ref 28, .int ((((25 : Int32) * (s27.1 33)) + (1 : Int32)) + (s27.1 35)), .int (1 : Int32), .ref 28]) (w' := px_w K s27 t28) (q := []) 12 hM rfl trivial ?_
                        refine px_blk (i' := 126) (L' := [some (.ref 28), some (.int u1), some (.int u2), some (.int u3), some (.int m4), some (.int y31), some (.int v2), some (.int v4), none]) (S' := [.int (0 : Int32), .ref 43, .int ((((25 : Int32) * (s27.1 33)) + (1 : Int32)) + (s27.1 35)), .int (1 : Int32), .ref 28]) (w' := px_w K s27 t28) (q := []) 2 hM rfl trivial ?_
                        rcases px_bv_some h with ⟨s53, t54, hk55, h⟩ | ⟨x57, s53, t54, hk55, h⟩
                        · refine px_E_call hM rfl rfl rfl rfl (px_E_mono (by decide) (e_M_write_28_43 K N (1 : Int32) ((((25 : Int32) * (s27.1 33)) + (1 : Int32)) + (s27.1 35)) (0 : Int32) s27 t28 _ hk55)) ?_
                          refine px_blkif (c := v4 = 0) (t := 134) (e := 129) (L' := [some (.ref 28), some (.int u1), some (.int u2), some (.int u3), some (.int m4), some (.int y31), some (.int v2), some (.int v4), none]) (S' := []) (w' := px_w K s53 t54) (q := []) 2 hM rfl trivial (fun hc58 => ?_) (fun hc58 => ?_)
                          · rw [if_pos hc58] at h
                            refine px_blk (i' := 140) (L' := [some (.ref 28), some (.int u1), some (.int u2), some (.int u3), some (.int m4), some (.int y31), some (.int v2), some (.int v4), none]) (S' := []) (w' := px_w K (sR s53 35 ((s53.1 35) + (1 : Int32))) t54) (q := []) 6 hM rfl trivial ?_
                            obtain ⟨s59, hs60, h⟩ := px_let_some h
                            rw [← hs60]
                            refine px_blk (i' := 8) (L' := [some (.ref 28), some (.int u1), some (.int u2), some (.int u3), some (.int (m4 + v2)), some (.int y31), some (.int v2), some (.int v4), none]) (S' := []) (w' := px_w K s59 t54) (q := []) 5 hM rfl trivial ?_
                            exact px_E_le (px_leC_L _ _ (by simp [px_leC, px_le1, Value.category])) (ih (m4 + v2) y31 s59 t54 z h o w2 ha)
                          · rw [if_neg hc58] at h
                            refine px_blkif (c := u2 = 0) (t := 134) (e := 131) (L' := [some (.ref 28), some (.int u1), some (.int u2), some (.int u3), some (.int m4), some (.int y31), some (.int v2), some (.int v4), none]) (S' := []) (w' := px_w K s53 t54) (q := []) 2 hM rfl trivial (fun hc61 => ?_) (fun hc61 => ?_)
                            · rw [if_pos hc61] at h
                              refine px_blk (i' := 140) (L' := [some (.ref 28), some (.int u1), some (.int u2), some (.int u3), some (.int m4), some (.int y31), some (.int v2), some (.int v4), none]) (S' := []) (w' := px_w K (sR s53 35 ((s53.1 35) + (1 : Int32))) t54) (q := []) 6 hM rfl trivial ?_
                              obtain ⟨s62, hs63, h⟩ := px_let_some h
                              rw [← hs63]
                              refine px_blk (i' := 8) (L' := [some (.ref 28), some (.int u1), some (.int u2), some (.int u3), some (.int (m4 + v2)), some (.int y31), some (.int v2), some (.int v4), none]) (S' := []) (w' := px_w K s62 t54) (q := []) 5 hM rfl trivial ?_
                              exact px_E_le (px_leC_L _ _ (by simp [px_leC, px_le1, Value.category])) (ih (m4 + v2) y31 s62 t54 z h o w2 ha)
                            · rw [if_neg hc61] at h
                              refine px_blk (i' := 133) (L' := [some (.ref 28), some (.int u1), some (.int u2), some (.int u3), some (.int m4), some (.int y31), some (.int v2), some (.int v4), none]) (S' := [.int (1 : Int32), .ref 28]) (w' := px_w K s53 t54) (q := []) 2 hM rfl trivial ?_
                              rcases px_bv_some h with ⟨s64, t65, hk66, h⟩ | ⟨x68, s64, t65, hk66, h⟩
                              · refine px_E_call hM rfl rfl rfl rfl (px_E_mono (by decide) (e_M_flush_28 K N (1 : Int32) s53 t54 _ hk66)) ?_
                                refine px_blk (i' := 140) (L' := [some (.ref 28), some (.int u1), some (.int u2), some (.int u3), some (.int m4), some (.int y31), some (.int v2), some (.int v4), none]) (S' := []) (w' := px_w K (sR s64 35 ((s64.1 35) + (1 : Int32))) t65) (q := []) 6 hM rfl trivial ?_
                                obtain ⟨s69, hs70, h⟩ := px_let_some h
                                rw [← hs70]
                                refine px_blk (i' := 8) (L' := [some (.ref 28), some (.int u1), some (.int u2), some (.int u3), some (.int (m4 + v2)), some (.int y31), some (.int v2), some (.int v4), none]) (S' := []) (w' := px_w K s69 t65) (q := []) 5 hM rfl trivial ?_
                                exact px_E_le (px_leC_L _ _ (by simp [px_leC, px_le1, Value.category])) (ih (m4 + v2) y31 s69 t65 z h o w2 ha)
                              · cases h
                        · cases h
                      · rw [if_neg hc52] at h
                        refine px_blk (i' := 111) (L' := [some (.ref 28), some (.int u1), some (.int u2), some (.int u3), some (.int m4), some (.int y31), some (.int v2), some (.int v4), none]) (S' := [.int (1 : Int32), .ref 28]) (w' := px_w K s27 t28) (q := []) 2 hM rfl trivial ?_
                        rcases px_bv_some h with ⟨s71, t72, hk73, h⟩ | ⟨x75, s71, t72, hk73, h⟩
                        · refine px_E_call hM rfl rfl rfl rfl (px_E_mono (by decide) (e_M_flush_28 K N (1 : Int32) s27 t28 _ hk73)) ?_
                          refine px_blk (i' := 124) (L' := [some (.ref 28), some (.int u1), some (.int u2), some (.int u3), some (.int m4), some (.int y31), some (.int v2), some (.int v4), none]) (S' := [.ref 28, .int ((((25 : Int32) * (s71.1 33)) + (1 : Int32)) + (s71.1 35)), .int (1 : Int32), .ref 28]) (w' := px_w K s71 t72) (q := []) 12 hM rfl trivial ?_
                          refine px_blk (i' := 126) (L' := [some (.ref 28), some (.int u1), some (.int u2), some (.int u3), some (.int m4), some (.int y31), some (.int v2), some (.int v4), none]) (S' := [.int (0 : Int32), .ref 43, .int ((((25 : Int32) * (s71.1 33)) + (1 : Int32)) + (s71.1 35)), .int (1 : Int32), .ref 28]) (w' := px_w K s71 t72) (q := []) 2 hM rfl trivial ?_
                          rcases px_bv_some h with ⟨s76, t77, hk78, h⟩ | ⟨x80, s76, t77, hk78, h⟩
                          · refine px_E_call hM rfl rfl rfl rfl (px_E_mono (by decide) (e_M_write_28_43 K N (1 : Int32) ((((25 : Int32) * (s71.1 33)) + (1 : Int32)) + (s71.1 35)) (0 : Int32) s71 t72 _ hk78)) ?_
                            refine px_blkif (c := v4 = 0) (t := 134) (e := 129) (L' := [some (.ref 28), some (.int u1), some (.int u2), some (.int u3), some (.int m4), some (.int y31), some (.int v2), some (.int v4), none]) (S' := []) (w' := px_w K s76 t77) (q := []) 2 hM rfl trivial (fun hc81 => ?_) (fun hc81 => ?_)
                            · rw [if_pos hc81] at h
                              refine px_blk (i' := 140) (L' := [some (.ref 28), some (.int u1), some (.int u2), some (.int u3), some (.int m4), some (.int y31), some (.int v2), some (.int v4), none]) (S' := []) (w' := px_w K (sR s76 35 ((s76.1 35) + (1 : Int32))) t77) (q := []) 6 hM rfl trivial ?_
                              obtain ⟨s82, hs83, h⟩ := px_let_some h
                              rw [← hs83]
                              refine px_blk (i' := 8) (L' := [some (.ref 28), some (.int u1), some (.int u2), some (.int u3), some (.int (m4 + v2)), some (.int y31), some (.int v2), some (.int v4), none]) (S' := []) (w' := px_w K s82 t77) (q := []) 5 hM rfl trivial ?_
                              exact px_E_le (px_leC_L _ _ (by simp [px_leC, px_le1, Value.category])) (ih (m4 + v2) y31 s82 t77 z h o w2 ha)
                            · rw [if_neg hc81] at h
                              refine px_blkif (c := u2 = 0) (t := 134) (e := 131) (L' := [some (.ref 28), some (.int u1), some (.int u2), some (.int u3), some (.int m4), some (.int y31), some (.int v2), some (.int v4), none]) (S' := []) (w' := px_w K s76 t77) (q := []) 2 hM rfl trivial (fun hc84 => ?_) (fun hc84 => ?_)
                              · rw [if_pos hc84] at h
                                refine px_blk (i' := 140) (L' := [some (.ref 28), some (.int u1), some (.int u2), some (.int u3), some (.int m4), some (.int y31), some (.int v2), some (.int v4), none]) (S' := []) (w' := px_w K (sR s76 35 ((s76.1 35) + (1 : Int32))) t77) (q := []) 6 hM rfl trivial ?_
                                obtain ⟨s85, hs86, h⟩ := px_let_some h
                                rw [← hs86]
                                refine px_blk (i' := 8) (L' := [some (.ref 28), some (.int u1), some (.int u2), some (.int u3), some (.int (m4 + v2)), some (.int y31), some (.int v2), some (.int v4), none]) (S' := []) (w' := px_w K s85 t77) (q := []) 5 hM rfl trivial ?_
                                exact px_E_le (px_leC_L _ _ (by simp [px_leC, px_le1, Value.category])) (ih (m4 + v2) y31 s85 t77 z h o w2 ha)
                              · rw [if_neg hc84] at h
                                refine px_blk (i' := 133) (L' := [some (.ref 28), some (.int u1), some (.int u2), some (.int u3), some (.int m4), some (.int y31), some (.int v2), some (.int v4), none]) (S' := [.int (1 : Int32), .ref 28]) (w' := px_w K s76 t77) (q := []) 2 hM rfl trivial ?_
                                rcases px_bv_some h with ⟨s87, t88, hk89, h⟩ | ⟨x91, s87, t88, hk89, h⟩
                                · refine px_E_call hM rfl rfl rfl rfl (px_E_mono (by decide) (e_M_flush_28 K N (1 : Int32) s76 t77 _ hk89)) ?_
                                  refine px_blk (i' := 140) (L' := [some (.ref 28), some (.int u1), some (.int u2), some (.int u3), some (.int m4), some (.int y31), some (.int v2), some (.int v4), none]) (S' := []) (w' := px_w K (sR s87 35 ((s87.1 35) + (1 : Int32))) t88) (q := []) 6 hM rfl trivial ?_
                                  obtain ⟨s92, hs93, h⟩ := px_let_some h
                                  rw [← hs93]
                                  refine px_blk (i' := 8) (L' := [some (.ref 28), some (.int u1), some (.int u2), some (.int u3), some (.int (m4 + v2)), some (.int y31), some (.int v2), some (.int v4), none]) (S' := []) (w' := px_w K s92 t88) (q := []) 5 hM rfl trivial ?_
                                  exact px_E_le (px_leC_L _ _ (by simp [px_leC, px_le1, Value.category])) (ih (m4 + v2) y31 s92 t88 z h o w2 ha)
                                · cases h
                          · cases h
                        · cases h
                  · rw [if_neg hi32] at h
                    cases h
                · cases h
                  obtain ⟨rfl, rfl⟩ := ha
                  exact e_l_M_records_28_70 K N u1 u2 u3 m4 v2 v4 N m5 (0 : Int32) s23 t9 _ hl29 _ _ ⟨rfl, rfl⟩
              clear h
              refine px_blkif (c := v4 = 0) (t := 61) (e := 59) (L' := [some (.ref 28), some (.int u1), some (.int u2), some (.int u3), some (.int m4), some (.int m5), some (.int v2), some (.int v4), none]) (S' := [.int (2 : Int32), .ref 43]) (w' := px_w K s17 t9) (q := []) 1 hM rfl trivial (fun hc94 => ?_) (fun hc94 => ?_)
              · rw [if_pos hc94] at hK
                exact px_blk (i' := 62) (L' := [some (.ref 28), some (.int u1), some (.int u2), some (.int u3), some (.int m4), some (.int m5), some (.int v2), some (.int v4), none]) (S' := [.int (0 : Int32), .int (2 : Int32), .ref 43]) (w' := px_w K s17 t9) (q := []) 1 hM rfl trivial hK
              · rw [if_neg hc94] at hK
                exact px_blk (i' := 62) (L' := [some (.ref 28), some (.int u1), some (.int u2), some (.int u3), some (.int m4), some (.int m5), some (.int v2), some (.int v4), none]) (S' := [.int (1 : Int32), .int (2 : Int32), .ref 43]) (w' := px_w K s17 t9) (q := []) 2 hM rfl trivial hK
            · rw [if_neg hi12] at h
              cases h
          · cases h
            obtain ⟨rfl, rfl⟩ := ha
            exact e_l_M_records_28_33 K N u1 u2 u3 m4 m5 v2 v4 N (4 : Int32) s t _ hl10 _ _ ⟨rfl, rfl⟩
        clear h
        refine px_blkif (c := ¬ (m4 + v2) = u3) (t := 29) (e := 27) (L' := [some (.ref 28), some (.int u1), some (.int u2), some (.int u3), some (.int m4), some (.int m5), some (.int v2), none, none]) (S' := []) (w' := px_w K s t) (q := []) 1 hM rfl trivial (fun hc95 => ?_) (fun hc95 => ?_)
        · rw [if_pos hc95] at hK
          exact px_blk (i' := 30) (L' := [some (.ref 28), some (.int u1), some (.int u2), some (.int u3), some (.int m4), some (.int m5), some (.int v2), none, none]) (S' := [.int (0 : Int32)]) (w' := px_w K s t) (q := []) 1 hM rfl trivial hK
        · rw [if_neg hc95] at hK
          exact px_blk (i' := 30) (L' := [some (.ref 28), some (.int u1), some (.int u2), some (.int u3), some (.int m4), some (.int m5), some (.int v2), none, none]) (S' := [.int (1 : Int32)]) (w' := px_w K s t) (q := []) 2 hM rfl trivial hK
      clear h
      refine px_blkif (c := (6 : Int32) ≤ (u3 - m4)) (t := 20) (e := 16) (L' := [some (.ref 28), some (.int u1), some (.int u2), some (.int u3), some (.int m4), some (.int m5), none, none, none]) (S' := []) (w' := px_w K s t) (q := []) 1 hM rfl trivial (fun hc96 => ?_) (fun hc96 => ?_)
      · rw [if_pos hc96] at hK
        exact px_blk (i' := 21) (L' := [some (.ref 28), some (.int u1), some (.int u2), some (.int u3), some (.int m4), some (.int m5), none, none, none]) (S' := [.int (6 : Int32)]) (w' := px_w K s t) (q := []) 1 hM rfl trivial hK
      · rw [if_neg hc96] at hK
        exact px_blk (i' := 21) (L' := [some (.ref 28), some (.int u1), some (.int u2), some (.int u3), some (.int m4), some (.int m5), none, none, none]) (S' := [.int (u3 - m4)]) (w' := px_w K s t) (q := []) 4 hM rfl trivial hK
noncomputable def f_M_records_28 (K : px_K) (N : Nat) (a0 : Int32) (a1 : Int32) (s : px_S) (t : px_W) : Option px_Res :=
  (px_bi (f_M_dirtyOf_28 K N a0 s t) (fun v4 s1 t2 => (px_lp (l_M_records_28_8 K N N a0 a1 v4 (0 : Int32) (0 : Int32) s1 t2) (fun i6 vs7 s8 t9 => (if i6 = 145 then (px_v0 vs7 (some (.inl none, s8, t9))) else none)) (fun z11 => some z11))) (fun x5 s1 t2 => none))
set_option maxRecDepth 100000 in
theorem e_M_records_28 (K : px_K) (N : Nat) (a0 : Int32) (a1 : Int32) (s : px_S) (t : px_W) (r : px_Res) (h : f_M_records_28 K N a0 a1 s t = some r) : px_E px_ET px_P 6 44 0 (px_ent 9 [.ref 28, .int a0, .int a1]) [] (px_w K s t) r.1 (px_w K r.2.1 r.2.2) := by
  have hM : px_P[44]? = some pm_M_records := rfl
  unfold f_M_records_28 at h
  refine px_blk (i' := 2) (L' := [some (.ref 28), some (.int a0), some (.int a1), none, none, none, none, none, none]) (S' := [.int a0, .ref 28]) (w' := px_w K s t) (q := []) 2 hM rfl trivial ?_
  rcases px_bi_some h with ⟨v4, s1, t2, hk3, h⟩ | ⟨x5, s1, t2, hk3, h⟩
  · refine px_E_call hM rfl rfl rfl rfl (px_E_mono (by decide) (e_M_dirtyOf_28 K N a0 s t _ hk3)) ?_
    refine px_blk (i' := 8) (L' := [some (.ref 28), some (.int a0), some (.int a1), some (.int v4), some (.int (0 : Int32)), some (.int (0 : Int32)), none, none, none]) (S' := []) (w' := px_w K s1 t2) (q := []) 5 hM rfl trivial ?_
    rcases px_lp_some h with ⟨i6, vs7, s8, t9, hl10, h⟩ | ⟨z11, hl10, h⟩
    · by_cases hi12 : i6 = 145
      · subst hi12
        rw [if_pos rfl] at h
        have h9 := px_v0_some h
        clear h
        obtain ⟨rfl, h⟩ := h9
        refine e_l_M_records_28_8 K N a0 a1 v4 N (0 : Int32) (0 : Int32) s1 t2 _ hl10 _ _ ?_
        show px_E px_ET px_P 6 44 145 [none, none, none, none, none, none, none, none, none] [] (px_w K s8 t9) _ _
        cases h
        exact px_E_ret hM rfl rfl rfl trivial
      · rw [if_neg hi12] at h
        cases h
    · cases h
      exact e_l_M_records_28_8 K N a0 a1 v4 N (0 : Int32) (0 : Int32) s1 t2 _ hl10 _ _ ⟨rfl, rfl⟩
  · cases h
noncomputable def l_M_changeHalves_28_20 (K : px_K) (N : Nat) (n : Nat) (m1 : Int32) (s : px_S) (t : px_W) : Option px_LO := match n with
  | 0 => none
  | n + 1 => (if (s.1 32) ≤ m1 then (some (.inl (30, [], s, t))) else (px_bv (f_M_records_28 K N m1 (0 : Int32) s t) (fun s2 t3 => (l_M_changeHalves_28_20 K N n (m1 + (1 : Int32)) s2 t3)) (fun x6 s2 t3 => none)))
def a_l_M_changeHalves_28_20 (K : px_K) (z : px_LO) (o : Option Value ⊕ Nat) (w2 : px_W) : Prop := match z with
  | .inr (o', s', t') => o = o' ∧ w2 = px_w K s' t'
  | .inl (30, [], s', t') => px_E px_ET px_P 7 46 30 [some (.ref 28), none] [] (px_w K s' t') o w2
  | _ => False
set_option maxRecDepth 100000 in
theorem e_l_M_changeHalves_28_20 (K : px_K) (N : Nat) : ∀ (n : Nat) (m1 : Int32) (s : px_S) (t : px_W) (z : px_LO), l_M_changeHalves_28_20 K N n m1 s t = some z → ∀ (o : Option Value ⊕ Nat) (w2 : px_W), a_l_M_changeHalves_28_20 K z o w2 → px_E px_ET px_P 7 46 20 [some (.ref 28), some (.int m1)] [] (px_w K s t) o w2 := by
  have hM : px_P[46]? = some pm_M_changeHalves := rfl
  intro n
  induction n with
  | zero => intro m1 s t z h; cases h
  | succ n ih =>
    intro m1 s t z h o w2 ha
    unfold l_M_changeHalves_28_20 at h
    refine px_blkif (c := (s.1 32) ≤ m1) (t := 30) (e := 24) (L' := [some (.ref 28), some (.int m1)]) (S' := []) (w' := px_w K s t) (q := []) 4 hM rfl trivial (fun hc1 => ?_) (fun hc1 => ?_)
    · rw [if_pos hc1] at h
      cases h
      exact px_E_le (px_leC_L _ _ (by simp [px_leC, px_le1, Value.category])) ha
    · rw [if_neg hc1] at h
      refine px_blk (i' := 27) (L' := [some (.ref 28), some (.int m1)]) (S' := [.int (0 : Int32), .int m1, .ref 28]) (w' := px_w K s t) (q := []) 3 hM rfl trivial ?_
      rcases px_bv_some h with ⟨s2, t3, hk4, h⟩ | ⟨x6, s2, t3, hk4, h⟩
      · refine px_E_call hM rfl rfl rfl rfl (px_E_mono (by decide) (e_M_records_28 K N m1 (0 : Int32) s t _ hk4)) ?_
        refine px_blk (i' := 20) (L' := [some (.ref 28), some (.int (m1 + (1 : Int32)))]) (S' := []) (w' := px_w K s2 t3) (q := []) 2 hM rfl trivial ?_
        exact ih (m1 + (1 : Int32)) s2 t3 z h o w2 ha
      · cases h
noncomputable def f_M_changeHalves_28 (K : px_K) (N : Nat) (s : px_S) (t : px_W) : Option px_Res :=
  (px_let (sR s 34 ((s.1 34) + (1 : Int32))) (fun s1 => (px_let (sR s1 33 ((1 : Int32) - (s1.1 33))) (fun s3 => (px_let (sR s3 35 (0 : Int32)) (fun s5 => (px_bi (f_M_landed_28 K N s5 t) (fun v10 s7 t8 => (px_let (v10 + (1 : Int32)) (fun v12 => (px_lp (l_M_changeHalves_28_20 K N N v12 s7 t8) (fun i14 vs15 s16 t17 => (if i14 = 30 then (px_v0 vs15 (px_bv (f_M_flush_28 K N (1 : Int32) s16 t17) (fun s21 t22 => (px_bi (f_M_read_28 K N (0 : Int32) (0 : Int32) (0 : Int32) s21 t22) (fun v29 s26 t27 => (px_bv (f_M_three_28_43 K N (s21.1 34) v29 (0 : Int32) s26 t27) (fun s31 t32 => (px_bv (f_M_write_28_43 K N (1 : Int32) ((25 : Int32) * (s31.1 33)) (0 : Int32) s31 t32) (fun s36 t37 => (px_bv (f_M_flush_28 K N (1 : Int32) s36 t37) (fun s41 t42 => (some (.inl none, s41, t42))) (fun x45 s41 t42 => none))) (fun x40 s36 t37 => none))) (fun x35 s31 t32 => none))) (fun x30 s26 t27 => none))) (fun x25 s21 t22 => none))) else none)) (fun z19 => some z19))))) (fun x11 s7 t8 => none))))))))
set_option maxRecDepth 100000 in
theorem e_M_changeHalves_28 (K : px_K) (N : Nat) (s : px_S) (t : px_W) (r : px_Res) (h : f_M_changeHalves_28 K N s t = some r) : px_E px_ET px_P 7 46 0 (px_ent 2 [.ref 28]) [] (px_w K s t) r.1 (px_w K r.2.1 r.2.2) := by
  have hM : px_P[46]? = some pm_M_changeHalves := rfl
  unfold f_M_changeHalves_28 at h
  refine px_blk (i' := 6) (L' := [some (.ref 28), none]) (S' := []) (w' := px_w K (sR s 34 ((s.1 34) + (1 : Int32))) t) (q := []) 6 hM rfl trivial ?_
  obtain ⟨s1, hs2, h⟩ := px_let_some h
  rw [← hs2]
  refine px_blk (i' := 12) (L' := [some (.ref 28), none]) (S' := []) (w' := px_w K (sR s1 33 ((1 : Int32) - (s1.1 33))) t) (q := []) 6 hM rfl trivial ?_
  obtain ⟨s3, hs4, h⟩ := px_let_some h
  rw [← hs4]
  refine px_blk (i' := 15) (L' := [some (.ref 28), none]) (S' := []) (w' := px_w K (sR s3 35 (0 : Int32)) t) (q := []) 3 hM rfl trivial ?_
  obtain ⟨s5, hs6, h⟩ := px_let_some h
  rw [← hs6]
  refine px_blk (i' := 16) (L' := [some (.ref 28), none]) (S' := [.ref 28]) (w' := px_w K s5 t) (q := []) 1 hM rfl trivial ?_
  rcases px_bi_some h with ⟨v10, s7, t8, hk9, h⟩ | ⟨x11, s7, t8, hk9, h⟩
  · refine px_E_call hM rfl rfl rfl rfl (px_E_mono (by decide) (e_M_landed_28 K N s5 t _ hk9)) ?_
    refine px_blk (i' := 20) (L' := [some (.ref 28), some (.int (v10 + (1 : Int32)))]) (S' := []) (w' := px_w K s7 t8) (q := []) 3 hM rfl trivial ?_
    obtain ⟨v12, hv13, h⟩ := px_let_some h
    rw [← hv13]
    rcases px_lp_some h with ⟨i14, vs15, s16, t17, hl18, h⟩ | ⟨z19, hl18, h⟩
    · by_cases hi20 : i14 = 30
      · subst hi20
        rw [if_pos rfl] at h
        have h9 := px_v0_some h
        clear h
        obtain ⟨rfl, h⟩ := h9
        refine e_l_M_changeHalves_28_20 K N N v12 s7 t8 _ hl18 _ _ ?_
        show px_E px_ET px_P 7 46 30 [some (.ref 28), none] [] (px_w K s16 t17) _ _
        refine px_blk (i' := 32) (L' := [some (.ref 28), none]) (S' := [.int (1 : Int32), .ref 28]) (w' := px_w K s16 t17) (q := []) 2 hM rfl trivial ?_
        rcases px_bv_some h with ⟨s21, t22, hk23, h⟩ | ⟨x25, s21, t22, hk23, h⟩
        · refine px_E_call hM rfl rfl rfl rfl (px_E_mono (by decide) (e_M_flush_28 K N (1 : Int32) s16 t17 _ hk23)) ?_
          refine px_blk (i' := 42) (L' := [some (.ref 28), none]) (S' := [.int (0 : Int32), .int (0 : Int32), .int (0 : Int32), .ref 28, .int (s21.1 34), .ref 43, .ref 28]) (w' := px_w K s21 t22) (q := []) 9 hM rfl trivial ?_
          rcases px_bi_some h with ⟨v29, s26, t27, hk28, h⟩ | ⟨x30, s26, t27, hk28, h⟩
          · refine px_E_call hM rfl rfl rfl rfl (px_E_mono (by decide) (e_M_read_28 K N (0 : Int32) (0 : Int32) (0 : Int32) s21 t22 _ hk28)) ?_
            refine px_blk (i' := 44) (L' := [some (.ref 28), none]) (S' := [.int (0 : Int32), .int v29, .int (s21.1 34), .ref 43, .ref 28]) (w' := px_w K s26 t27) (q := []) 1 hM rfl trivial ?_
            rcases px_bv_some h with ⟨s31, t32, hk33, h⟩ | ⟨x35, s31, t32, hk33, h⟩
            · refine px_E_call hM rfl rfl rfl rfl (px_E_mono (by decide) (e_M_three_28_43 K N (s21.1 34) v29 (0 : Int32) s26 t27 _ hk33)) ?_
              refine px_blk (i' := 54) (L' := [some (.ref 28), none]) (S' := [.int (0 : Int32), .ref 43, .int ((25 : Int32) * (s31.1 33)), .int (1 : Int32), .ref 28]) (w' := px_w K s31 t32) (q := []) 9 hM rfl trivial ?_
              rcases px_bv_some h with ⟨s36, t37, hk38, h⟩ | ⟨x40, s36, t37, hk38, h⟩
              · refine px_E_call hM rfl rfl rfl rfl (px_E_mono (by decide) (e_M_write_28_43 K N (1 : Int32) ((25 : Int32) * (s31.1 33)) (0 : Int32) s31 t32 _ hk38)) ?_
                refine px_blk (i' := 57) (L' := [some (.ref 28), none]) (S' := [.int (1 : Int32), .ref 28]) (w' := px_w K s36 t37) (q := []) 2 hM rfl trivial ?_
                rcases px_bv_some h with ⟨s41, t42, hk43, h⟩ | ⟨x45, s41, t42, hk43, h⟩
                · refine px_E_call hM rfl rfl rfl rfl (px_E_mono (by decide) (e_M_flush_28 K N (1 : Int32) s36 t37 _ hk43)) ?_
                  cases h
                  exact px_E_ret hM rfl rfl rfl trivial
                · cases h
              · cases h
            · cases h
          · cases h
        · cases h
      · rw [if_neg hi20] at h
        cases h
    · cases h
      exact e_l_M_changeHalves_28_20 K N N v12 s7 t8 _ hl18 _ _ ⟨rfl, rfl⟩
  · cases h
noncomputable def l_M_close_28_8 (K : px_K) (N : Nat) (n : Nat) (u1 : Int32) (s : px_S) (t : px_W) : Option px_LO := match n with
  | 0 => none
  | n + 1 => (if (s.1 29) = 0 then (some (.inl (25, [], s, t))) else (px_bi (f_M_landed_28 K N s t) (fun v5 s2 t3 => (if (((s.1 32) - (1 : Int32)) - v5) < (s2.1 28) then (some (.inl (25, [], s2, t3))) else (px_bi (f_M_land1_28 K N s2 t3) (fun v11 s8 t9 => (l_M_close_28_8 K N n u1 s8 t9)) (fun x12 s8 t9 => none)))) (fun x6 s2 t3 => none)))
def a_l_M_close_28_8 (K : px_K) (u1 : Int32) (z : px_LO) (o : Option Value ⊕ Nat) (w2 : px_W) : Prop := match z with
  | .inr (o', s', t') => o = o' ∧ w2 = px_w K s' t'
  | .inl (25, [], s', t') => px_E px_ET px_P 8 45 25 [some (.ref 28), some (.int u1), none] [] (px_w K s' t') o w2
  | _ => False
set_option maxRecDepth 100000 in
theorem e_l_M_close_28_8 (K : px_K) (N : Nat) (u1 : Int32) : ∀ (n : Nat) (s : px_S) (t : px_W) (z : px_LO), l_M_close_28_8 K N n u1 s t = some z → ∀ (o : Option Value ⊕ Nat) (w2 : px_W), a_l_M_close_28_8 K u1 z o w2 → px_E px_ET px_P 8 45 8 [some (.ref 28), some (.int u1), none] [] (px_w K s t) o w2 := by
  have hM : px_P[45]? = some pm_M_close := rfl
  intro n
  induction n with
  | zero => intro s t z h; cases h
  | succ n ih =>
    intro s t z h o w2 ha
    unfold l_M_close_28_8 at h
    refine px_blkif (c := (s.1 29) = 0) (t := 25) (e := 11) (L' := [some (.ref 28), some (.int u1), none]) (S' := []) (w' := px_w K s t) (q := []) 3 hM rfl trivial (fun hc1 => ?_) (fun hc1 => ?_)
    · rw [if_pos hc1] at h
      cases h
      exact px_E_le (px_leC_L _ _ (by simp [px_leC, px_le1, Value.category])) ha
    · rw [if_neg hc1] at h
      refine px_blk (i' := 16) (L' := [some (.ref 28), some (.int u1), none]) (S' := [.ref 28, .int ((s.1 32) - (1 : Int32))]) (w' := px_w K s t) (q := []) 5 hM rfl trivial ?_
      rcases px_bi_some h with ⟨v5, s2, t3, hk4, h⟩ | ⟨x6, s2, t3, hk4, h⟩
      · refine px_E_call hM rfl rfl rfl rfl (px_E_mono (by decide) (e_M_landed_28 K N s t _ hk4)) ?_
        refine px_blkif (c := (((s.1 32) - (1 : Int32)) - v5) < (s2.1 28)) (t := 25) (e := 21) (L' := [some (.ref 28), some (.int u1), none]) (S' := []) (w' := px_w K s2 t3) (q := []) 4 hM rfl trivial (fun hc7 => ?_) (fun hc7 => ?_)
        · rw [if_pos hc7] at h
          cases h
          exact px_E_le (px_leC_L _ _ (by simp [px_leC, px_le1, Value.category])) ha
        · rw [if_neg hc7] at h
          refine px_blk (i' := 22) (L' := [some (.ref 28), some (.int u1), none]) (S' := [.ref 28]) (w' := px_w K s2 t3) (q := []) 1 hM rfl trivial ?_
          rcases px_bi_some h with ⟨v11, s8, t9, hk10, h⟩ | ⟨x12, s8, t9, hk10, h⟩
          · refine px_E_call hM rfl rfl rfl rfl (px_E_mono (by decide) (e_M_land1_28 K N s2 t3 _ hk10)) ?_
            refine px_blk (i' := 8) (L' := [some (.ref 28), some (.int u1), some (.int v11)]) (S' := []) (w' := px_w K s8 t9) (q := []) 2 hM rfl trivial ?_
            exact px_E_le (px_leC_L _ _ (by simp [px_leC, px_le1, Value.category])) (ih s8 t9 z h o w2 ha)
          · cases h
      · cases h
noncomputable def f_M_close_28 (K : px_K) (N : Nat) (s : px_S) (t : px_W) : Option px_Res :=
  (px_bi (f_M_dirtyOf_28 K N (s.1 32) s t) (fun v4 s1 t2 => (if ¬ v4 = 0 then (px_lp (l_M_close_28_8 K N N v4 s1 t2) (fun i7 vs8 s9 t10 => (if i7 = 25 then (px_v0 vs8 (if ¬ (s9.1 29) = 0 then (if ((v4 + (5 : Int32)) / (6 : Int32)) ≤ ((24 : Int32) - (s9.1 35)) then (px_bv (f_M_records_28 K N (s9.1 32) (1 : Int32) s9 t10) (fun s16 t17 => (px_let (sR s16 32 ((s16.1 32) + (1 : Int32))) (fun s21 => (some (.inl none, s21, t17))))) (fun x20 s16 t17 => none)) else (px_bv (f_M_changeHalves_28 K N s9 t10) (fun s23 t24 => (px_bv (f_M_records_28 K N (s23.1 32) (1 : Int32) s23 t24) (fun s28 t29 => (px_let (sR s28 32 ((s28.1 32) + (1 : Int32))) (fun s33 => (some (.inl none, s33, t29))))) (fun x32 s28 t29 => none))) (fun x27 s23 t24 => none))) else (some (.inl none, s9, t10)))) else none)) (fun z12 => some z12)) else (some (.inl none, s1, t2)))) (fun x5 s1 t2 => none))
set_option maxRecDepth 100000 in
theorem e_M_close_28 (K : px_K) (N : Nat) (s : px_S) (t : px_W) (r : px_Res) (h : f_M_close_28 K N s t = some r) : px_E px_ET px_P 8 45 0 (px_ent 3 [.ref 28]) [] (px_w K s t) r.1 (px_w K r.2.1 r.2.2) := by
  have hM : px_P[45]? = some pm_M_close := rfl
  unfold f_M_close_28 at h
  refine px_blk (i' := 3) (L' := [some (.ref 28), none, none]) (S' := [.int (s.1 32), .ref 28]) (w' := px_w K s t) (q := []) 3 hM rfl trivial ?_
  rcases px_bi_some h with ⟨v4, s1, t2, hk3, h⟩ | ⟨x5, s1, t2, hk3, h⟩
  · refine px_E_call hM rfl rfl rfl rfl (px_E_mono (by decide) (e_M_dirtyOf_28 K N (s.1 32) s t _ hk3)) ?_
    refine px_blkif (c := ¬ v4 = 0) (t := 8) (e := 7) (L' := [some (.ref 28), some (.int v4), none]) (S' := []) (w' := px_w K s1 t2) (q := []) 3 hM rfl trivial (fun hc6 => ?_) (fun hc6 => ?_)
    · rw [if_pos hc6] at h
      rcases px_lp_some h with ⟨i7, vs8, s9, t10, hl11, h⟩ | ⟨z12, hl11, h⟩
      · by_cases hi13 : i7 = 25
        · subst hi13
          rw [if_pos rfl] at h
          have h9 := px_v0_some h
          clear h
          obtain ⟨rfl, h⟩ := h9
          refine e_l_M_close_28_8 K N v4 N s1 t2 _ hl11 _ _ ?_
          show px_E px_ET px_P 8 45 25 [some (.ref 28), some (.int v4), none] [] (px_w K s9 t10) _ _
          refine px_blkif (c := ¬ (s9.1 29) = 0) (t := 29) (e := 28) (L' := [some (.ref 28), some (.int v4), none]) (S' := []) (w' := px_w K s9 t10) (q := []) 3 hM rfl trivial (fun hc14 => ?_) (fun hc14 => ?_)
          · rw [if_pos hc14] at h
            refine px_blkif (c := ((v4 + (5 : Int32)) / (6 : Int32)) ≤ ((24 : Int32) - (s9.1 35))) (t := 41) (e := 39) (L' := [some (.ref 28), some (.int v4), none]) (S' := []) (w' := px_w K s9 t10) (q := [¬ (6 : Int32) = 0]) 10 hM rfl (show ¬ (6 : Int32) = 0 from (by decide)) (fun hc15 => ?_) (fun hc15 => ?_)
            · rw [if_pos hc15] at h
              refine px_blk (i' := 45) (L' := [some (.ref 28), some (.int v4), none]) (S' := [.int (1 : Int32), .int (s9.1 32), .ref 28]) (w' := px_w K s9 t10) (q := []) 4 hM rfl trivial ?_
              rcases px_bv_some h with ⟨s16, t17, hk18, h⟩ | ⟨x20, s16, t17, hk18, h⟩
              · refine px_E_call hM rfl rfl rfl rfl (px_E_mono (by decide) (e_M_records_28 K N (s9.1 32) (1 : Int32) s9 t10 _ hk18)) ?_
                refine px_blk (i' := 52) (L' := [some (.ref 28), some (.int v4), none]) (S' := []) (w' := px_w K (sR s16 32 ((s16.1 32) + (1 : Int32))) t17) (q := []) 6 hM rfl trivial ?_
                obtain ⟨s21, hs22, h⟩ := px_let_some h
                rw [← hs22]
                cases h
                exact px_E_ret hM rfl rfl rfl trivial
              · cases h
            · rw [if_neg hc15] at h
              refine px_blk (i' := 40) (L' := [some (.ref 28), some (.int v4), none]) (S' := [.ref 28]) (w' := px_w K s9 t10) (q := []) 1 hM rfl trivial ?_
              rcases px_bv_some h with ⟨s23, t24, hk25, h⟩ | ⟨x27, s23, t24, hk25, h⟩
              · refine px_E_call hM rfl rfl rfl rfl (px_E_mono (by decide) (e_M_changeHalves_28 K N s9 t10 _ hk25)) ?_
                refine px_blk (i' := 45) (L' := [some (.ref 28), some (.int v4), none]) (S' := [.int (1 : Int32), .int (s23.1 32), .ref 28]) (w' := px_w K s23 t24) (q := []) 4 hM rfl trivial ?_
                rcases px_bv_some h with ⟨s28, t29, hk30, h⟩ | ⟨x32, s28, t29, hk30, h⟩
                · refine px_E_call hM rfl rfl rfl rfl (px_E_mono (by decide) (e_M_records_28 K N (s23.1 32) (1 : Int32) s23 t24 _ hk30)) ?_
                  refine px_blk (i' := 52) (L' := [some (.ref 28), some (.int v4), none]) (S' := []) (w' := px_w K (sR s28 32 ((s28.1 32) + (1 : Int32))) t29) (q := []) 6 hM rfl trivial ?_
                  obtain ⟨s33, hs34, h⟩ := px_let_some h
                  rw [← hs34]
                  cases h
                  exact px_E_ret hM rfl rfl rfl trivial
                · cases h
              · cases h
          · rw [if_neg hc14] at h
            cases h
            exact px_E_ret hM rfl rfl rfl trivial
        · rw [if_neg hi13] at h
          cases h
      · cases h
        exact e_l_M_close_28_8 K N v4 N s1 t2 _ hl11 _ _ ⟨rfl, rfl⟩
    · rw [if_neg hc6] at h
      cases h
      exact px_E_ret hM rfl rfl rfl trivial
  · cases h
noncomputable def f_M_flushVolume_28 (K : px_K) (N : Nat) (s : px_S) (t : px_W) : Option px_Res :=
  (if (s.1 31) = 0 then (px_bv (f_M_flush_28 K N (0 : Int32) s t) (fun s2 t3 => (some (.inl none, s2, t3))) (fun x6 s2 t3 => none)) else (px_bv (f_M_close_28 K N s t) (fun s7 t8 => (some (.inl none, s7, t8))) (fun x11 s7 t8 => none)))
set_option maxRecDepth 100000 in
theorem e_M_flushVolume_28 (K : px_K) (N : Nat) (s : px_S) (t : px_W) (r : px_Res) (h : f_M_flushVolume_28 K N s t = some r) : px_E px_ET px_P 9 43 0 (px_ent 1 [.ref 28]) [] (px_w K s t) r.1 (px_w K r.2.1 r.2.2) := by
  have hM : px_P[43]? = some pm_M_flushVolume := rfl
  unfold f_M_flushVolume_28 at h
  refine px_blkif (c := (s.1 31) = 0) (t := 6) (e := 3) (L' := [some (.ref 28)]) (S' := []) (w' := px_w K s t) (q := []) 3 hM rfl trivial (fun hc1 => ?_) (fun hc1 => ?_)
  · rw [if_pos hc1] at h
    refine px_blk (i' := 8) (L' := [some (.ref 28)]) (S' := [.int (0 : Int32), .ref 28]) (w' := px_w K s t) (q := []) 2 hM rfl trivial ?_
    rcases px_bv_some h with ⟨s2, t3, hk4, h⟩ | ⟨x6, s2, t3, hk4, h⟩
    · refine px_E_call hM rfl rfl rfl rfl (px_E_mono (by decide) (e_M_flush_28 K N (0 : Int32) s t _ hk4)) ?_
      cases h
      exact px_E_ret hM rfl rfl rfl trivial
    · cases h
  · rw [if_neg hc1] at h
    refine px_blk (i' := 4) (L' := [some (.ref 28)]) (S' := [.ref 28]) (w' := px_w K s t) (q := []) 1 hM rfl trivial ?_
    rcases px_bv_some h with ⟨s7, t8, hk9, h⟩ | ⟨x11, s7, t8, hk9, h⟩
    · refine px_E_call hM rfl rfl rfl rfl (px_E_mono (by decide) (e_M_close_28 K N s t _ hk9)) ?_
      refine px_blk (i' := 9) (L' := [some (.ref 28)]) (S' := []) (w' := px_w K s7 t8) (q := []) 1 hM rfl trivial ?_
      cases h
      exact px_E_ret hM rfl rfl rfl trivial
    · cases h
noncomputable def f_M_word_28 (K : px_K) (N : Nat) (a0 : Int32) (a1 : Int32) (s : px_S) (t : px_W) : Option px_Res :=
  (px_gd (vp_in (((16 : Int32) * a0) + a1) (K.2.2 39)) (some (.inl (some (.int ((s.2.2.1 39) (((16 : Int32) * a0) + a1).toNatClampNeg))), s, t)))
set_option maxRecDepth 100000 in
theorem e_M_word_28 (K : px_K) (N : Nat) (a0 : Int32) (a1 : Int32) (s : px_S) (t : px_W) (r : px_Res) (h : f_M_word_28 K N a0 a1 s t = some r) : px_E px_ET px_P 1 49 0 (px_ent 3 [.ref 28, .int a0, .int a1]) [] (px_w K s t) r.1 (px_w K r.2.1 r.2.2) := by
  have hM : px_P[49]? = some pm_M_word := rfl
  unfold f_M_word_28 at h
  obtain ⟨hq1, h⟩ := px_gd_some h
  refine px_blk (i' := 8) (L' := [some (.ref 28), some (.int a0), some (.int a1)]) (S' := [.int ((s.2.2.1 39) (((16 : Int32) * a0) + a1).toNatClampNeg)]) (w' := px_w K s t) (q := [vp_in (((16 : Int32) * a0) + a1) (K.2.2 39)]) 8 hM rfl (show vp_in (((16 : Int32) * a0) + a1) (K.2.2 39) from hq1) ?_
  cases h
  exact px_E_ret hM rfl rfl rfl trivial
noncomputable def f_M_tell_28 (K : px_K) (N : Nat) (a0 : Int32) (a1 : Int32) (a2 : Int32) (s : px_S) (t : px_W) : Option px_Res :=
  (px_gd (vp_in (((16 : Int32) * a0) + a1) (K.2.2 39)) (px_let (sA s 39 (((16 : Int32) * a0) + a1).toNatClampNeg a2) (fun s2 => (px_gd (vp_in a0 (K.2.2 41)) (px_let (sA s2 41 a0.toNatClampNeg (1 : Int32)) (fun s5 => (some (.inl none, s5, t))))))))
set_option maxRecDepth 100000 in
theorem e_M_tell_28 (K : px_K) (N : Nat) (a0 : Int32) (a1 : Int32) (a2 : Int32) (s : px_S) (t : px_W) (r : px_Res) (h : f_M_tell_28 K N a0 a1 a2 s t = some r) : px_E px_ET px_P 1 50 0 (px_ent 4 [.ref 28, .int a0, .int a1, .int a2]) [] (px_w K s t) r.1 (px_w K r.2.1 r.2.2) := by
  have hM : px_P[50]? = some pm_M_tell := rfl
  unfold f_M_tell_28 at h
  obtain ⟨hq1, h⟩ := px_gd_some h
  refine px_blk (i' := 9) (L' := [some (.ref 28), some (.int a0), some (.int a1), some (.int a2)]) (S' := []) (w' := px_w K (sA s 39 (((16 : Int32) * a0) + a1).toNatClampNeg a2) t) (q := [vp_in (((16 : Int32) * a0) + a1) (K.2.2 39)]) 9 hM rfl (show vp_in (((16 : Int32) * a0) + a1) (K.2.2 39) from hq1) ?_
  obtain ⟨s2, hs3, h⟩ := px_let_some h
  rw [← hs3]
  obtain ⟨hq4, h⟩ := px_gd_some h
  refine px_blk (i' := 14) (L' := [some (.ref 28), some (.int a0), some (.int a1), some (.int a2)]) (S' := []) (w' := px_w K (sA s2 41 a0.toNatClampNeg (1 : Int32)) t) (q := [vp_in a0 (K.2.2 41), (1 : Int32) = 0 ∨ (1 : Int32) = 1]) 5 hM rfl (show (vp_in a0 (K.2.2 41)) ∧ ((1 : Int32) = 0 ∨ (1 : Int32) = 1) from ⟨hq4, Or.inr rfl⟩) ?_
  obtain ⟨s5, hs6, h⟩ := px_let_some h
  rw [← hs6]
  cases h
  exact px_E_ret hM rfl rfl rfl trivial
noncomputable def f_M_ofInode_28 (K : px_K) (N : Nat) (a0 : Int32) (a1 : Int32) (s : px_S) (t : px_W) : Option px_Res :=
  (px_bi (f_M_word_28 K N ((30 : Int32) + (a0 / (2 : Int32))) (((8 : Int32) * (a0 - a0 / (2 : Int32) * (2 : Int32))) + a1) s t) (fun v4 s1 t2 => (some (.inl (some (.int v4)), s1, t2))) (fun x5 s1 t2 => none))
set_option maxRecDepth 100000 in
theorem e_M_ofInode_28 (K : px_K) (N : Nat) (a0 : Int32) (a1 : Int32) (s : px_S) (t : px_W) (r : px_Res) (h : f_M_ofInode_28 K N a0 a1 s t = some r) : px_E px_ET px_P 2 51 0 (px_ent 3 [.ref 28, .int a0, .int a1]) [] (px_w K s t) r.1 (px_w K r.2.1 r.2.2) := by
  have hM : px_P[51]? = some pm_M_ofInode := rfl
  unfold f_M_ofInode_28 at h
  refine px_blk (i' := 12) (L' := [some (.ref 28), some (.int a0), some (.int a1)]) (S' := [.int a1, .int ((8 : Int32) * (a0 - a0 / (2 : Int32) * (2 : Int32))), .int ((30 : Int32) + (a0 / (2 : Int32))), .ref 28]) (w' := px_w K s t) (q := [¬ (2 : Int32) = 0, ¬ (2 : Int32) = 0]) 12 hM rfl (show (¬ (2 : Int32) = 0) ∧ (¬ (2 : Int32) = 0) from ⟨(by decide), (by decide)⟩) ?_
  refine px_blk (i' := 13) (L' := [some (.ref 28), some (.int a0), some (.int a1)]) (S' := [.int (((8 : Int32) * (a0 - a0 / (2 : Int32) * (2 : Int32))) + a1), .int ((30 : Int32) + (a0 / (2 : Int32))), .ref 28]) (w' := px_w K s t) (q := []) 1 hM rfl trivial ?_
  rcases px_bi_some h with ⟨v4, s1, t2, hk3, h⟩ | ⟨x5, s1, t2, hk3, h⟩
  · refine px_E_call hM rfl rfl rfl rfl (px_E_mono (by decide) (e_M_word_28 K N ((30 : Int32) + (a0 / (2 : Int32))) (((8 : Int32) * (a0 - a0 / (2 : Int32) * (2 : Int32))) + a1) s t _ hk3)) ?_
    cases h
    exact px_E_ret hM rfl rfl rfl trivial
  · cases h
noncomputable def f_M_tellInode_28 (K : px_K) (N : Nat) (a0 : Int32) (a1 : Int32) (a2 : Int32) (s : px_S) (t : px_W) : Option px_Res :=
  (px_bv (f_M_tell_28 K N ((30 : Int32) + (a0 / (2 : Int32))) (((8 : Int32) * (a0 - a0 / (2 : Int32) * (2 : Int32))) + a1) a2 s t) (fun s1 t2 => (some (.inl none, s1, t2))) (fun x5 s1 t2 => none))
set_option maxRecDepth 100000 in
theorem e_M_tellInode_28 (K : px_K) (N : Nat) (a0 : Int32) (a1 : Int32) (a2 : Int32) (s : px_S) (t : px_W) (r : px_Res) (h : f_M_tellInode_28 K N a0 a1 a2 s t = some r) : px_E px_ET px_P 2 52 0 (px_ent 4 [.ref 28, .int a0, .int a1, .int a2]) [] (px_w K s t) r.1 (px_w K r.2.1 r.2.2) := by
  have hM : px_P[52]? = some pm_M_tellInode := rfl
  unfold f_M_tellInode_28 at h
  refine px_blk (i' := 12) (L' := [some (.ref 28), some (.int a0), some (.int a1), some (.int a2)]) (S' := [.int a1, .int ((8 : Int32) * (a0 - a0 / (2 : Int32) * (2 : Int32))), .int ((30 : Int32) + (a0 / (2 : Int32))), .ref 28]) (w' := px_w K s t) (q := [¬ (2 : Int32) = 0, ¬ (2 : Int32) = 0]) 12 hM rfl (show (¬ (2 : Int32) = 0) ∧ (¬ (2 : Int32) = 0) from ⟨(by decide), (by decide)⟩) ?_
  refine px_blk (i' := 14) (L' := [some (.ref 28), some (.int a0), some (.int a1), some (.int a2)]) (S' := [.int a2, .int (((8 : Int32) * (a0 - a0 / (2 : Int32) * (2 : Int32))) + a1), .int ((30 : Int32) + (a0 / (2 : Int32))), .ref 28]) (w' := px_w K s t) (q := []) 2 hM rfl trivial ?_
  rcases px_bv_some h with ⟨s1, t2, hk3, h⟩ | ⟨x5, s1, t2, hk3, h⟩
  · refine px_E_call hM rfl rfl rfl rfl (px_E_mono (by decide) (e_M_tell_28 K N ((30 : Int32) + (a0 / (2 : Int32))) (((8 : Int32) * (a0 - a0 / (2 : Int32) * (2 : Int32))) + a1) a2 s t _ hk3)) ?_
    cases h
    exact px_E_ret hM rfl rfl rfl trivial
  · cases h
noncomputable def f_M_isKind_28 (K : px_K) (N : Nat) (a0 : Int32) (a1 : Int32) (s : px_S) (t : px_W) : Option px_Res :=
  (if a0 < 0 then (some (.inl (some (.int (0 : Int32))), s, t)) else (if (24 : Int32) ≤ a0 then (some (.inl (some (.int (0 : Int32))), s, t)) else (px_bi (f_M_ofInode_28 K N a0 (0 : Int32) s t) (fun v6 s3 t4 => (some (.inl (some (.int (if ¬ v6 = a1 then (0 : Int32) else (1 : Int32)))), s3, t4))) (fun x7 s3 t4 => none))))
set_option maxRecDepth 100000 in
theorem e_M_isKind_28 (K : px_K) (N : Nat) (a0 : Int32) (a1 : Int32) (s : px_S) (t : px_W) (r : px_Res) (h : f_M_isKind_28 K N a0 a1 s t = some r) : px_E px_ET px_P 3 53 0 (px_ent 3 [.ref 28, .int a0, .int a1]) [] (px_w K s t) r.1 (px_w K r.2.1 r.2.2) := by
  have hM : px_P[53]? = some pm_M_isKind := rfl
  unfold f_M_isKind_28 at h
  refine px_blkif (c := a0 < 0) (t := 13) (e := 2) (L' := [some (.ref 28), some (.int a0), some (.int a1)]) (S' := []) (w' := px_w K s t) (q := []) 2 hM rfl trivial (fun hc1 => ?_) (fun hc1 => ?_)
  · rw [if_pos hc1] at h
    refine px_blk (i' := 14) (L' := [some (.ref 28), some (.int a0), some (.int a1)]) (S' := [.int (0 : Int32)]) (w' := px_w K s t) (q := []) 1 hM rfl trivial ?_
    cases h
    exact px_E_ret hM rfl rfl rfl (show (0 : Int32) = 0 ∨ (0 : Int32) = 1 from Or.inl rfl)
  · rw [if_neg hc1] at h
    refine px_blkif (c := (24 : Int32) ≤ a0) (t := 13) (e := 5) (L' := [some (.ref 28), some (.int a0), some (.int a1)]) (S' := []) (w' := px_w K s t) (q := []) 3 hM rfl trivial (fun hc2 => ?_) (fun hc2 => ?_)
    · rw [if_pos hc2] at h
      refine px_blk (i' := 14) (L' := [some (.ref 28), some (.int a0), some (.int a1)]) (S' := [.int (0 : Int32)]) (w' := px_w K s t) (q := []) 1 hM rfl trivial ?_
      cases h
      exact px_E_ret hM rfl rfl rfl (show (0 : Int32) = 0 ∨ (0 : Int32) = 1 from Or.inl rfl)
    · rw [if_neg hc2] at h
      refine px_blk (i' := 8) (L' := [some (.ref 28), some (.int a0), some (.int a1)]) (S' := [.int (0 : Int32), .int a0, .ref 28]) (w' := px_w K s t) (q := []) 3 hM rfl trivial ?_
      rcases px_bi_some h with ⟨v6, s3, t4, hk5, h⟩ | ⟨x7, s3, t4, hk5, h⟩
      · refine px_E_call hM rfl rfl rfl rfl (px_E_mono (by decide) (e_M_ofInode_28 K N a0 (0 : Int32) s t _ hk5)) ?_
        refine px_blk (i' := 10) (L' := [some (.ref 28), some (.int a0), some (.int a1)]) (S' := [.int a1, .int v6]) (w' := px_w K s3 t4) (q := []) 1 hM rfl trivial ?_
        have hK : px_E px_ET px_P 3 53 14 [some (.ref 28), some (.int a0), some (.int a1)] [.int (if ¬ v6 = a1 then (0 : Int32) else (1 : Int32))] (px_w K s3 t4) r.1 (px_w K r.2.1 r.2.2) := by
          cases h
          exact px_E_ret hM rfl rfl rfl (show (if ¬ v6 = a1 then (0 : Int32) else (1 : Int32)) = 0 ∨ (if ¬ v6 = a1 then (0 : Int32) else (1 : Int32)) = 1 from (by split <;> simp))
        clear h
        refine px_blkif (c := ¬ v6 = a1) (t := 13) (e := 11) (L' := [some (.ref 28), some (.int a0), some (.int a1)]) (S' := []) (w' := px_w K s3 t4) (q := []) 1 hM rfl trivial (fun hc8 => ?_) (fun hc8 => ?_)
        · rw [if_pos hc8] at hK
          exact px_blk (i' := 14) (L' := [some (.ref 28), some (.int a0), some (.int a1)]) (S' := [.int (0 : Int32)]) (w' := px_w K s3 t4) (q := []) 1 hM rfl trivial hK
        · rw [if_neg hc8] at hK
          exact px_blk (i' := 14) (L' := [some (.ref 28), some (.int a0), some (.int a1)]) (S' := [.int (1 : Int32)]) (w' := px_w K s3 t4) (q := []) 2 hM rfl trivial hK
      · cases h
noncomputable def f_M_isUsed_28 (K : px_K) (N : Nat) (a0 : Int32) (s : px_S) (t : px_W) : Option px_Res :=
  (px_bi (f_M_word_28 K N (29 : Int32) ((a0 - (42 : Int32)) / (32 : Int32)) s t) (fun v4 s1 t2 => (some (.inl (some (.int (if ¬ ((v4 >>> (((a0 - (42 : Int32)) - (a0 - (42 : Int32)) / (32 : Int32) * (32 : Int32)) &&& 31)) &&& (1 : Int32)) = (1 : Int32) then (0 : Int32) else (1 : Int32)))), s1, t2))) (fun x5 s1 t2 => none))
set_option maxRecDepth 100000 in
theorem e_M_isUsed_28 (K : px_K) (N : Nat) (a0 : Int32) (s : px_S) (t : px_W) (r : px_Res) (h : f_M_isUsed_28 K N a0 s t = some r) : px_E px_ET px_P 2 54 0 (px_ent 2 [.ref 28, .int a0]) [] (px_w K s t) r.1 (px_w K r.2.1 r.2.2) := by
  have hM : px_P[54]? = some pm_M_isUsed := rfl
  unfold f_M_isUsed_28 at h
  refine px_blk (i' := 7) (L' := [some (.ref 28), some (.int a0)]) (S' := [.int ((a0 - (42 : Int32)) / (32 : Int32)), .int (29 : Int32), .ref 28]) (w' := px_w K s t) (q := [¬ (32 : Int32) = 0]) 7 hM rfl (show ¬ (32 : Int32) = 0 from (by decide)) ?_
  rcases px_bi_some h with ⟨v4, s1, t2, hk3, h⟩ | ⟨x5, s1, t2, hk3, h⟩
  · refine px_E_call hM rfl rfl rfl rfl (px_E_mono (by decide) (e_M_word_28 K N (29 : Int32) ((a0 - (42 : Int32)) / (32 : Int32)) s t _ hk3)) ?_
    refine px_blk (i' := 17) (L' := [some (.ref 28), some (.int a0)]) (S' := [.int (1 : Int32), .int ((v4 >>> (((a0 - (42 : Int32)) - (a0 - (42 : Int32)) / (32 : Int32) * (32 : Int32)) &&& 31)) &&& (1 : Int32))]) (w' := px_w K s1 t2) (q := [¬ (32 : Int32) = 0]) 9 hM rfl (show ¬ (32 : Int32) = 0 from (by decide)) ?_
    have hK : px_E px_ET px_P 2 54 21 [some (.ref 28), some (.int a0)] [.int (if ¬ ((v4 >>> (((a0 - (42 : Int32)) - (a0 - (42 : Int32)) / (32 : Int32) * (32 : Int32)) &&& 31)) &&& (1 : Int32)) = (1 : Int32) then (0 : Int32) else (1 : Int32))] (px_w K s1 t2) r.1 (px_w K r.2.1 r.2.2) := by
      cases h
      exact px_E_ret hM rfl rfl rfl (show (if ¬ ((v4 >>> (((a0 - (42 : Int32)) - (a0 - (42 : Int32)) / (32 : Int32) * (32 : Int32)) &&& 31)) &&& (1 : Int32)) = (1 : Int32) then (0 : Int32) else (1 : Int32)) = 0 ∨ (if ¬ ((v4 >>> (((a0 - (42 : Int32)) - (a0 - (42 : Int32)) / (32 : Int32) * (32 : Int32)) &&& 31)) &&& (1 : Int32)) = (1 : Int32) then (0 : Int32) else (1 : Int32)) = 1 from (by split <;> simp))
    clear h
    refine px_blkif (c := ¬ ((v4 >>> (((a0 - (42 : Int32)) - (a0 - (42 : Int32)) / (32 : Int32) * (32 : Int32)) &&& 31)) &&& (1 : Int32)) = (1 : Int32)) (t := 20) (e := 18) (L' := [some (.ref 28), some (.int a0)]) (S' := []) (w' := px_w K s1 t2) (q := []) 1 hM rfl trivial (fun hc6 => ?_) (fun hc6 => ?_)
    · rw [if_pos hc6] at hK
      exact px_blk (i' := 21) (L' := [some (.ref 28), some (.int a0)]) (S' := [.int (0 : Int32)]) (w' := px_w K s1 t2) (q := []) 1 hM rfl trivial hK
    · rw [if_neg hc6] at hK
      exact px_blk (i' := 21) (L' := [some (.ref 28), some (.int a0)]) (S' := [.int (1 : Int32)]) (w' := px_w K s1 t2) (q := []) 2 hM rfl trivial hK
  · cases h
noncomputable def l_M_left_28_4 (K : px_K) (N : Nat) (n : Nat) (m1 : Int32) (m2 : Int32) (s : px_S) (t : px_W) : Option px_LO := match n with
  | 0 => none
  | n + 1 => (if (106 : Int32) ≤ m2 then (some (.inl (19, [m1], s, t))) else (px_bi (f_M_isUsed_28 K N m2 s t) (fun v5 s2 t3 => (px_let (m1 + (if v5 = 0 then (1 : Int32) else (0 : Int32))) (fun v7 => (l_M_left_28_4 K N n v7 (m2 + (1 : Int32)) s2 t3)))) (fun x6 s2 t3 => none)))
def a_l_M_left_28_4 (K : px_K) (z : px_LO) (o : Option Value ⊕ Nat) (w2 : px_W) : Prop := match z with
  | .inr (o', s', t') => o = o' ∧ w2 = px_w K s' t'
  | .inl (19, [y1], s', t') => px_E px_ET px_P 3 55 19 [none, some (.int y1), none] [] (px_w K s' t') o w2
  | _ => False
set_option maxRecDepth 100000 in
theorem e_l_M_left_28_4 (K : px_K) (N : Nat) : ∀ (n : Nat) (m1 : Int32) (m2 : Int32) (s : px_S) (t : px_W) (z : px_LO), l_M_left_28_4 K N n m1 m2 s t = some z → ∀ (o : Option Value ⊕ Nat) (w2 : px_W), a_l_M_left_28_4 K z o w2 → px_E px_ET px_P 3 55 4 [some (.ref 28), some (.int m1), some (.int m2)] [] (px_w K s t) o w2 := by
  have hM : px_P[55]? = some pm_M_left := rfl
  intro n
  induction n with
  | zero => intro m1 m2 s t z h; cases h
  | succ n ih =>
    intro m1 m2 s t z h o w2 ha
    unfold l_M_left_28_4 at h
    refine px_blkif (c := (106 : Int32) ≤ m2) (t := 19) (e := 7) (L' := [some (.ref 28), some (.int m1), some (.int m2)]) (S' := []) (w' := px_w K s t) (q := []) 3 hM rfl trivial (fun hc1 => ?_) (fun hc1 => ?_)
    · rw [if_pos hc1] at h
      cases h
      exact px_E_le (px_leC_L _ _ (by simp [px_leC, px_le1, Value.category])) ha
    · rw [if_neg hc1] at h
      refine px_blk (i' := 10) (L' := [some (.ref 28), some (.int m1), some (.int m2)]) (S' := [.int m2, .ref 28, .int m1]) (w' := px_w K s t) (q := []) 3 hM rfl trivial ?_
      rcases px_bi_some h with ⟨v5, s2, t3, hk4, h⟩ | ⟨x6, s2, t3, hk4, h⟩
      · refine px_E_call hM rfl rfl rfl rfl (px_E_mono (by decide) (e_M_isUsed_28 K N m2 s t _ hk4)) ?_
        have hK : px_E px_ET px_P 3 55 15 [some (.ref 28), some (.int m1), some (.int m2)] [.int (if v5 = 0 then (1 : Int32) else (0 : Int32)), .int m1] (px_w K s2 t3) o w2 := by
          refine px_blk (i' := 17) (L' := [some (.ref 28), some (.int (m1 + (if v5 = 0 then (1 : Int32) else (0 : Int32)))), some (.int m2)]) (S' := []) (w' := px_w K s2 t3) (q := []) 2 hM rfl trivial ?_
          obtain ⟨v7, hv8, h⟩ := px_let_some h
          rw [← hv8]
          refine px_blk (i' := 4) (L' := [some (.ref 28), some (.int v7), some (.int (m2 + (1 : Int32)))]) (S' := []) (w' := px_w K s2 t3) (q := []) 2 hM rfl trivial ?_
          exact ih v7 (m2 + (1 : Int32)) s2 t3 z h o w2 ha
        clear h
        refine px_blkif (c := v5 = 0) (t := 14) (e := 12) (L' := [some (.ref 28), some (.int m1), some (.int m2)]) (S' := [.int m1]) (w' := px_w K s2 t3) (q := []) 1 hM rfl trivial (fun hc9 => ?_) (fun hc9 => ?_)
        · rw [if_pos hc9] at hK
          exact px_blk (i' := 15) (L' := [some (.ref 28), some (.int m1), some (.int m2)]) (S' := [.int (1 : Int32), .int m1]) (w' := px_w K s2 t3) (q := []) 1 hM rfl trivial hK
        · rw [if_neg hc9] at hK
          exact px_blk (i' := 15) (L' := [some (.ref 28), some (.int m1), some (.int m2)]) (S' := [.int (0 : Int32), .int m1]) (w' := px_w K s2 t3) (q := []) 2 hM rfl trivial hK
      · cases h
noncomputable def f_M_left_28 (K : px_K) (N : Nat) (s : px_S) (t : px_W) : Option px_Res :=
  (px_lp (l_M_left_28_4 K N N (0 : Int32) (42 : Int32) s t) (fun i1 vs2 s3 t4 => (if i1 = 19 then (px_v1 vs2 (fun y7 => (some (.inl (some (.int y7)), s3, t4)))) else none)) (fun z6 => some z6))
set_option maxRecDepth 100000 in
theorem e_M_left_28 (K : px_K) (N : Nat) (s : px_S) (t : px_W) (r : px_Res) (h : f_M_left_28 K N s t = some r) : px_E px_ET px_P 3 55 0 (px_ent 3 [.ref 28]) [] (px_w K s t) r.1 (px_w K r.2.1 r.2.2) := by
  have hM : px_P[55]? = some pm_M_left := rfl
  unfold f_M_left_28 at h
  refine px_blk (i' := 4) (L' := [some (.ref 28), some (.int (0 : Int32)), some (.int (42 : Int32))]) (S' := []) (w' := px_w K s t) (q := []) 4 hM rfl trivial ?_
  rcases px_lp_some h with ⟨i1, vs2, s3, t4, hl5, h⟩ | ⟨z6, hl5, h⟩
  · by_cases hi8 : i1 = 19
    · subst hi8
      rw [if_pos rfl] at h
      have h9 := px_v1_some h
      clear h
      obtain ⟨y7, rfl, h⟩ := h9
      refine e_l_M_left_28_4 K N N (0 : Int32) (42 : Int32) s t _ hl5 _ _ ?_
      show px_E px_ET px_P 3 55 19 [none, some (.int y7), none] [] (px_w K s3 t4) _ _
      refine px_blk (i' := 20) (L' := [none, some (.int y7), none]) (S' := [.int y7]) (w' := px_w K s3 t4) (q := []) 1 hM rfl trivial ?_
      cases h
      exact px_E_ret hM rfl rfl rfl trivial
    · rw [if_neg hi8] at h
      cases h
  · cases h
    exact e_l_M_left_28_4 K N N (0 : Int32) (42 : Int32) s t _ hl5 _ _ ⟨rfl, rfl⟩
