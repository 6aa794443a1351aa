/-! THE METHODS AS FUNCTIONS (by program). -/
noncomputable def f_V_flushAll_13 (K : px_K) (N : Nat) (s : px_S) (t : px_W) : Option px_Res :=
  (if (s.1 12) = 0 then (px_bv (f_D_flush_3 K N s t) (fun s2 t3 => (some (.inl none, s2, t3))) (fun x6 s2 t3 => (some (.inr x6, s2, t3)))) else (px_bv (f_V_close_13 K N s t) (fun s7 t8 => (some (.inl none, s7, t8))) (fun x11 s7 t8 => (some (.inr x11, s7, t8)))))
set_option maxRecDepth 100000 in
theorem e_V_flushAll_13 (K : px_K) (N : Nat) (s : px_S) (t : px_W) (r : px_Res) (h : f_V_flushAll_13 K N s t = some r) : px_E px_ET px_P 12 188 0 (px_ent 1 [.ref 13]) [] (px_w K s t) r.1 (px_w K r.2.1 r.2.2) := by
  have hM : px_P[188]? = some pm_V_flushAll := rfl
  unfold f_V_flushAll_13 at h
  refine px_blkif (c := (s.1 12) = 0) (t := 6) (e := 3) (L' := [some (.ref 13)]) (S' := []) (w' := px_w K s t) (q := []) 3 hM rfl trivial (fun hc1 => ?_) (fun hc1 => ?_)
  · rw [if_pos hc1] at h
    refine px_blk (i' := 8) (L' := [some (.ref 13)]) (S' := [.ref 3]) (w' := px_w K s t) (q := []) 2 hM rfl trivial ?_
    rcases px_bv_some h with ⟨s2, t3, hk4, h⟩ | ⟨x6, s2, t3, hk4, h⟩
    · refine px_E_call hM rfl rfl rfl rfl (px_E_mono (by decide) (e_D_flush_3 K N s t _ hk4)) ?_
      cases h
      exact px_E_ret hM rfl rfl rfl trivial
    · cases h
      exact px_E_callT hM rfl rfl rfl rfl (px_E_mono (by decide) (e_D_flush_3 K N s t _ hk4)) rfl
  · rw [if_neg hc1] at h
    refine px_blk (i' := 4) (L' := [some (.ref 13)]) (S' := [.ref 13]) (w' := px_w K s t) (q := []) 1 hM rfl trivial ?_
    rcases px_bv_some h with ⟨s7, t8, hk9, h⟩ | ⟨x11, s7, t8, hk9, h⟩
    · refine px_E_call hM rfl rfl rfl rfl (px_E_mono (by decide) (e_V_close_13 K N s t _ hk9)) ?_
      refine px_blk (i' := 9) (L' := [some (.ref 13)]) (S' := []) (w' := px_w K s7 t8) (q := []) 1 hM rfl trivial ?_
      cases h
      exact px_E_ret hM rfl rfl rfl trivial
    · cases h
      exact px_E_callT hM rfl rfl rfl rfl (px_E_mono (by decide) (e_V_close_13 K N s t _ hk9)) rfl
noncomputable def f_T_setKept_22 (K : px_K) (N : Nat) (a0 : Int32) (s : px_S) (t : px_W) : Option px_Res :=
  (px_gd (vp_in a0 (K.2.2 26)) (if ¬ ((s.2.2.1 26) a0.toNatClampNeg) = 0 then (some (.inl none, s, t)) else (px_gd (vp_in a0 (K.2.2 26)) (px_let (sA s 26 a0.toNatClampNeg (1 : Int32)) (fun s4 => (px_let (sR s4 22 ((s4.1 22) + (1 : Int32))) (fun s6 => (some (.inl none, s6, t)))))))))
set_option maxRecDepth 100000 in
theorem e_T_setKept_22 (K : px_K) (N : Nat) (a0 : Int32) (s : px_S) (t : px_W) (r : px_Res) (h : f_T_setKept_22 K N a0 s t = some r) : px_E px_ET px_P 1 172 0 (px_ent 2 [.ref 22, .int a0]) [] (px_w K s t) r.1 (px_w K r.2.1 r.2.2) := by
  have hM : px_P[172]? = some pm_T_setKept := rfl
  unfold f_T_setKept_22 at h
  obtain ⟨hq1, h⟩ := px_gd_some h
  refine px_blkif (c := ¬ ((s.2.2.1 26) a0.toNatClampNeg) = 0) (t := 16) (e := 5) (L' := [some (.ref 22), some (.int a0)]) (S' := []) (w' := px_w K s t) (q := [vp_in a0 (K.2.2 26)]) 5 hM rfl (show vp_in a0 (K.2.2 26) from hq1) (fun hc2 => ?_) (fun hc2 => ?_)
  · rw [if_pos hc2] at h
    cases h
    exact px_E_ret hM rfl rfl rfl trivial
  · rw [if_neg hc2] at h
    obtain ⟨hq3, h⟩ := px_gd_some h
    refine px_blk (i' := 10) (L' := [some (.ref 22), some (.int a0)]) (S' := []) (w' := px_w K (sA s 26 a0.toNatClampNeg (1 : Int32)) t) (q := [vp_in a0 (K.2.2 26), (1 : Int32) = 0 ∨ (1 : Int32) = 1]) 5 hM rfl (show (vp_in a0 (K.2.2 26)) ∧ ((1 : Int32) = 0 ∨ (1 : Int32) = 1) from ⟨hq3, Or.inr rfl⟩) ?_
    obtain ⟨s4, hs5, h⟩ := px_let_some h
    rw [← hs5]
    refine px_blk (i' := 16) (L' := [some (.ref 22), some (.int a0)]) (S' := []) (w' := px_w K (sR s4 22 ((s4.1 22) + (1 : Int32))) t) (q := []) 6 hM rfl trivial ?_
    obtain ⟨s6, hs7, h⟩ := px_let_some h
    rw [← hs7]
    cases h
    exact px_E_ret hM rfl rfl rfl trivial
noncomputable def l_T_changeNone_22_2 (K : px_K) (N : Nat) (n : Nat) (m1 : Int32) (s : px_S) (t : px_W) : Option px_LO := match n with
  | 0 => none
  | n + 1 => (if (106 : Int32) ≤ m1 then (some (.inl (12, [], s, t))) else (px_gd (vp_in m1 (K.2.2 25)) (px_let (sA s 25 m1.toNatClampNeg (0 : Int32)) (fun s3 => (l_T_changeNone_22_2 K N n (m1 + (1 : Int32)) s3 t)))))
def a_l_T_changeNone_22_2 (K : px_K) (z : px_LO) (o : Option Value ⊕ Nat) (w2 : px_W) : Prop := match z with
  | .inr (o', s', t') => o = o' ∧ w2 = px_w K s' t'
  | .inl (12, [], s', t') => px_E px_ET px_P 1 175 12 [some (.ref 22), none] [] (px_w K s' t') o w2
  | _ => False
set_option maxRecDepth 100000 in
theorem e_l_T_changeNone_22_2 (K : px_K) (N : Nat) : ∀ (n : Nat) (m1 : Int32) (s : px_S) (t : px_W) (z : px_LO), l_T_changeNone_22_2 K N n m1 s t = some z → ∀ (o : Option Value ⊕ Nat) (w2 : px_W), a_l_T_changeNone_22_2 K z o w2 → px_E px_ET px_P 1 175 2 [some (.ref 22), some (.int m1)] [] (px_w K s t) o w2 := by
  have hM : px_P[175]? = some pm_T_changeNone := rfl
  intro n
  induction n with
  | zero => intro m1 s t z h; cases h
  | succ n ih =>
    intro m1 s t z h o w2 ha
    unfold l_T_changeNone_22_2 at h
    refine px_blkif (c := (106 : Int32) ≤ m1) (t := 12) (e := 5) (L' := [some (.ref 22), some (.int m1)]) (S' := []) (w' := px_w K s t) (q := []) 3 hM rfl trivial (fun hc1 => ?_) (fun hc1 => ?_)
    · rw [if_pos hc1] at h
      cases h
      exact px_E_le (px_leC_L _ _ (by simp [px_leC, px_le1, Value.category])) ha
    · rw [if_neg hc1] at h
      obtain ⟨hq2, h⟩ := px_gd_some h
      refine px_blk (i' := 10) (L' := [some (.ref 22), some (.int m1)]) (S' := []) (w' := px_w K (sA s 25 m1.toNatClampNeg (0 : Int32)) t) (q := [vp_in m1 (K.2.2 25), (0 : Int32) = 0 ∨ (0 : Int32) = 1]) 5 hM rfl (show (vp_in m1 (K.2.2 25)) ∧ ((0 : Int32) = 0 ∨ (0 : Int32) = 1) from ⟨hq2, Or.inl rfl⟩) ?_
      obtain ⟨s3, hs4, h⟩ := px_let_some h
      rw [← hs4]
      refine px_blk (i' := 2) (L' := [some (.ref 22), some (.int (m1 + (1 : Int32)))]) (S' := []) (w' := px_w K s3 t) (q := []) 2 hM rfl trivial ?_
      exact ih (m1 + (1 : Int32)) s3 t z h o w2 ha
noncomputable def f_T_changeNone_22 (K : px_K) (N : Nat) (s : px_S) (t : px_W) : Option px_Res :=
  (px_lp (l_T_changeNone_22_2 K N N (0 : Int32) s t) (fun i1 vs2 s3 t4 => (if i1 = 12 then (px_v0 vs2 (px_let (sR s3 21 (0 : Int32)) (fun s8 => (some (.inl none, s8, t4))))) else none)) (fun z6 => some z6))
set_option maxRecDepth 100000 in
theorem e_T_changeNone_22 (K : px_K) (N : Nat) (s : px_S) (t : px_W) (r : px_Res) (h : f_T_changeNone_22 K N s t = some r) : px_E px_ET px_P 1 175 0 (px_ent 2 [.ref 22]) [] (px_w K s t) r.1 (px_w K r.2.1 r.2.2) := by
  have hM : px_P[175]? = some pm_T_changeNone := rfl
  unfold f_T_changeNone_22 at h
  refine px_blk (i' := 2) (L' := [some (.ref 22), some (.int (0 : Int32))]) (S' := []) (w' := px_w K s t) (q := []) 2 hM rfl trivial ?_
  rcases px_lp_some h with ⟨i1, vs2, s3, t4, hl5, h⟩ | ⟨z6, hl5, h⟩
  · by_cases hi7 : i1 = 12
    · subst hi7
      rw [if_pos rfl] at h
      have h9 := px_v0_some h
      clear h
      obtain ⟨rfl, h⟩ := h9
      refine e_l_T_changeNone_22_2 K N N (0 : Int32) s t _ hl5 _ _ ?_
      show px_E px_ET px_P 1 175 12 [some (.ref 22), none] [] (px_w K s3 t4) _ _
      refine px_blk (i' := 15) (L' := [some (.ref 22), none]) (S' := []) (w' := px_w K (sR s3 21 (0 : Int32)) t4) (q := []) 3 hM rfl trivial ?_
      obtain ⟨s8, hs9, h⟩ := px_let_some h
      rw [← hs9]
      cases h
      exact px_E_ret hM rfl rfl rfl trivial
    · rw [if_neg hi7] at h
      cases h
  · cases h
    exact e_l_T_changeNone_22_2 K N N (0 : Int32) s t _ hl5 _ _ ⟨rfl, rfl⟩
noncomputable def l_T_keepChanged_22_2 (K : px_K) (N : Nat) (n : Nat) (m1 : Int32) (s : px_S) (t : px_W) : Option px_LO := match n with
  | 0 => none
  | n + 1 => (if (106 : Int32) ≤ m1 then (some (.inl (27, [], s, t))) else (px_gd (vp_in m1 (K.2.2 25)) (if ((s.2.2.1 25) m1.toNatClampNeg) = 0 then (l_T_keepChanged_22_2 K N n (m1 + (1 : Int32)) s t) else (px_gd (¬ (m1 * (16 : Int32)) < 0 ∧ ¬ (m1 * (16 : Int32)) < 0 ∧ ¬ (16 : Int32) < 0 ∧ (m1 * (16 : Int32)).toNatClampNeg + (16 : Int32).toNatClampNeg ≤ K.2.2 23 ∧ (m1 * (16 : Int32)).toNatClampNeg + (16 : Int32).toNatClampNeg ≤ K.2.2 24) (px_let (sF s 24 (va_cpy (s.2.2.1 23) (s.2.2.1 24) (m1 * (16 : Int32)).toNatClampNeg (m1 * (16 : Int32)).toNatClampNeg (16 : Int32).toNatClampNeg)) (fun s5 => (px_bv (f_T_setKept_22 K N m1 s5 t) (fun s7 t8 => (l_T_keepChanged_22_2 K N n (m1 + (1 : Int32)) s7 t8)) (fun x11 s7 t8 => none))))))))
def a_l_T_keepChanged_22_2 (K : px_K) (z : px_LO) (o : Option Value ⊕ Nat) (w2 : px_W) : Prop := match z with
  | .inr (o', s', t') => o = o' ∧ w2 = px_w K s' t'
  | .inl (27, [], s', t') => px_E px_ET px_P 2 171 27 [some (.ref 22), none] [] (px_w K s' t') o w2
  | _ => False
set_option maxRecDepth 100000 in
theorem e_l_T_keepChanged_22_2 (K : px_K) (N : Nat) : ∀ (n : Nat) (m1 : Int32) (s : px_S) (t : px_W) (z : px_LO), l_T_keepChanged_22_2 K N n m1 s t = some z → ∀ (o : Option Value ⊕ Nat) (w2 : px_W), a_l_T_keepChanged_22_2 K z o w2 → px_E px_ET px_P 2 171 2 [some (.ref 22), some (.int m1)] [] (px_w K s t) o w2 := by
  have hM : px_P[171]? = some pm_T_keepChanged := rfl
  intro n
  induction n with
  | zero => intro m1 s t z h; cases h
  | succ n ih =>
    intro m1 s t z h o w2 ha
    unfold l_T_keepChanged_22_2 at h
    refine px_blkif (c := (106 : Int32) ≤ m1) (t := 27) (e := 5) (L' := [some (.ref 22), some (.int m1)]) (S' := []) (w' := px_w K s t) (q := []) 3 hM rfl trivial (fun hc1 => ?_) (fun hc1 => ?_)
    · rw [if_pos hc1] at h
      cases h
      exact px_E_le (px_leC_L _ _ (by simp [px_leC, px_le1, Value.category])) ha
    · rw [if_neg hc1] at h
      obtain ⟨hq2, h⟩ := px_gd_some h
      refine px_blkif (c := ((s.2.2.1 25) m1.toNatClampNeg) = 0) (t := 25) (e := 10) (L' := [some (.ref 22), some (.int m1)]) (S' := []) (w' := px_w K s t) (q := [vp_in m1 (K.2.2 25)]) 5 hM rfl (show vp_in m1 (K.2.2 25) from hq2) (fun hc3 => ?_) (fun hc3 => ?_)
      · rw [if_pos hc3] at h
        refine px_blk (i' := 2) (L' := [some (.ref 22), some (.int (m1 + (1 : Int32)))]) (S' := []) (w' := px_w K s t) (q := []) 2 hM rfl trivial ?_
        exact ih (m1 + (1 : Int32)) s t z h o w2 ha
      · rw [if_neg hc3] at h
        obtain ⟨hq4, h⟩ := px_gd_some h
        refine px_blk (i' := 22) (L' := [some (.ref 22), some (.int m1)]) (S' := []) (w' := px_w K (sF s 24 (va_cpy (s.2.2.1 23) (s.2.2.1 24) (m1 * (16 : Int32)).toNatClampNeg (m1 * (16 : Int32)).toNatClampNeg (16 : Int32).toNatClampNeg)) t) (q := [¬ (m1 * (16 : Int32)) < 0 ∧ ¬ (m1 * (16 : Int32)) < 0 ∧ ¬ (16 : Int32) < 0 ∧ (m1 * (16 : Int32)).toNatClampNeg + (16 : Int32).toNatClampNeg ≤ K.2.2 23 ∧ (m1 * (16 : Int32)).toNatClampNeg + (16 : Int32).toNatClampNeg ≤ K.2.2 24]) 12 hM rfl (show ¬ (m1 * (16 : Int32)) < 0 ∧ ¬ (m1 * (16 : Int32)) < 0 ∧ ¬ (16 : Int32) < 0 ∧ (m1 * (16 : Int32)).toNatClampNeg + (16 : Int32).toNatClampNeg ≤ K.2.2 23 ∧ (m1 * (16 : Int32)).toNatClampNeg + (16 : Int32).toNatClampNeg ≤ K.2.2 24 from hq4) ?_
        obtain ⟨s5, hs6, h⟩ := px_let_some h
        rw [← hs6]
        refine px_blk (i' := 24) (L' := [some (.ref 22), some (.int m1)]) (S' := [.int m1, .ref 22]) (w' := px_w K s5 t) (q := []) 2 hM rfl trivial ?_
        rcases px_bv_some h with ⟨s7, t8, hk9, h⟩ | ⟨x11, s7, t8, hk9, h⟩
        · refine px_E_call hM rfl rfl rfl rfl (px_E_mono (by decide) (e_T_setKept_22 K N m1 s5 t _ hk9)) ?_
          refine px_blk (i' := 2) (L' := [some (.ref 22), some (.int (m1 + (1 : Int32)))]) (S' := []) (w' := px_w K s7 t8) (q := []) 2 hM rfl trivial ?_
          exact ih (m1 + (1 : Int32)) s7 t8 z h o w2 ha
        · cases h
noncomputable def f_T_keepChanged_22 (K : px_K) (N : Nat) (s : px_S) (t : px_W) : Option px_Res :=
  (px_lp (l_T_keepChanged_22_2 K N N (0 : Int32) s t) (fun i1 vs2 s3 t4 => (if i1 = 27 then (px_v0 vs2 (px_bv (f_T_changeNone_22 K N s3 t4) (fun s8 t9 => (some (.inl none, s8, t9))) (fun x12 s8 t9 => none))) else none)) (fun z6 => some z6))
set_option maxRecDepth 100000 in
theorem e_T_keepChanged_22 (K : px_K) (N : Nat) (s : px_S) (t : px_W) (r : px_Res) (h : f_T_keepChanged_22 K N s t = some r) : px_E px_ET px_P 2 171 0 (px_ent 2 [.ref 22]) [] (px_w K s t) r.1 (px_w K r.2.1 r.2.2) := by
  have hM : px_P[171]? = some pm_T_keepChanged := rfl
  unfold f_T_keepChanged_22 at h
  refine px_blk (i' := 2) (L' := [some (.ref 22), some (.int (0 : Int32))]) (S' := []) (w' := px_w K s t) (q := []) 2 hM rfl trivial ?_
  rcases px_lp_some h with ⟨i1, vs2, s3, t4, hl5, h⟩ | ⟨z6, hl5, h⟩
  · by_cases hi7 : i1 = 27
    · subst hi7
      rw [if_pos rfl] at h
      have h9 := px_v0_some h
      clear h
      obtain ⟨rfl, h⟩ := h9
      refine e_l_T_keepChanged_22_2 K N N (0 : Int32) s t _ hl5 _ _ ?_
      show px_E px_ET px_P 2 171 27 [some (.ref 22), none] [] (px_w K s3 t4) _ _
      refine px_blk (i' := 28) (L' := [some (.ref 22), none]) (S' := [.ref 22]) (w' := px_w K s3 t4) (q := []) 1 hM rfl trivial ?_
      rcases px_bv_some h with ⟨s8, t9, hk10, h⟩ | ⟨x12, s8, t9, hk10, h⟩
      · refine px_E_call hM rfl rfl rfl rfl (px_E_mono (by decide) (e_T_changeNone_22 K N s3 t4 _ hk10)) ?_
        cases h
        exact px_E_ret hM rfl rfl rfl trivial
      · cases h
    · rw [if_neg hi7] at h
      cases h
  · cases h
    exact e_l_T_keepChanged_22_2 K N N (0 : Int32) s t _ hl5 _ _ ⟨rfl, rfl⟩
noncomputable def f_D_put_8_24 (K : px_K) (N : Nat) (a0 : Int32) (a1 : Int32) (s : px_S) (t : px_W) : Option px_Res :=
  (px_bi (f_D_has_8 K N a0 s t) (fun v4 s1 t2 => (if v4 = 0 then (some (.inl none, s1, t2)) else (if a1 < 0 then (some (.inl none, s1, t2)) else (if a1 ≤ ((Int32.ofNat (K.2.2 24)) - (16 : Int32)) then (px_let (sQ s1 0 ((s1.2.1 0) + (1 : Int64))) (fun s9 => (if ¬ (lg_cmp (s9.2.1 0) (s9.2.1 1)) = 0 then (if ¬ (s9.1 8) = (64 : Int32) then (px_let (((s9.1 7) + (s9.1 8)) - ((s9.1 7) + (s9.1 8)) / (64 : Int32) * (64 : Int32)) (fun v13 => (px_gd (vp_in v13 (K.2.2 9)) (px_let (sA s9 9 v13.toNatClampNeg a0) (fun s16 => (px_gd (¬ a1 < 0 ∧ ¬ (v13 * (16 : Int32)) < 0 ∧ ¬ (16 : Int32) < 0 ∧ a1.toNatClampNeg + (16 : Int32).toNatClampNeg ≤ K.2.2 24 ∧ (v13 * (16 : Int32)).toNatClampNeg + (16 : Int32).toNatClampNeg ≤ K.2.2 10) (px_let (sF s16 10 (va_cpy (s16.2.2.1 24) (s16.2.2.1 10) a1.toNatClampNeg (v13 * (16 : Int32)).toNatClampNeg (16 : Int32).toNatClampNeg)) (fun s19 => (px_gd (¬ a1 < 0 ∧ ¬ (a0 * (16 : Int32)) < 0 ∧ ¬ (16 : Int32) < 0 ∧ a1.toNatClampNeg + (16 : Int32).toNatClampNeg ≤ K.2.2 24 ∧ (a0 * (16 : Int32)).toNatClampNeg + (16 : Int32).toNatClampNeg ≤ K.2.2 11) (px_let (sF s19 11 (va_cpy (s19.2.2.1 24) (s19.2.2.1 11) a1.toNatClampNeg (a0 * (16 : Int32)).toNatClampNeg (16 : Int32).toNatClampNeg)) (fun s22 => (px_let (sR s22 8 ((s22.1 8) + (1 : Int32))) (fun s24 => (px_let (sR s24 9 ((s24.1 9) + (1 : Int32))) (fun s26 => (some (.inl none, s26, t2))))))))))))))))) else (px_gd ((vp_in (s9.1 7) (K.2.2 9)) ∧ (¬ ((s9.1 7) * (16 : Int32)) < 0 ∧ ¬ (((s9.2.2.1 9) (s9.1 7).toNatClampNeg) * (16 : Int32)) < 0 ∧ ¬ (16 : Int32) < 0 ∧ ((s9.1 7) * (16 : Int32)).toNatClampNeg + (16 : Int32).toNatClampNeg ≤ K.2.2 10 ∧ (((s9.2.2.1 9) (s9.1 7).toNatClampNeg) * (16 : Int32)).toNatClampNeg + (16 : Int32).toNatClampNeg ≤ K.2.2 12)) (px_let (sF s9 12 (va_cpy (s9.2.2.1 10) (s9.2.2.1 12) ((s9.1 7) * (16 : Int32)).toNatClampNeg (((s9.2.2.1 9) (s9.1 7).toNatClampNeg) * (16 : Int32)).toNatClampNeg (16 : Int32).toNatClampNeg)) (fun s30 => (px_let (sR s30 7 (((s30.1 7) + (1 : Int32)) - ((s30.1 7) + (1 : Int32)) / (64 : Int32) * (64 : Int32))) (fun s32 => (px_let (sR s32 8 ((s32.1 8) - (1 : Int32))) (fun s34 => (px_let (((s34.1 7) + (s34.1 8)) - ((s34.1 7) + (s34.1 8)) / (64 : Int32) * (64 : Int32)) (fun v36 => (px_gd (vp_in v36 (K.2.2 9)) (px_let (sA s34 9 v36.toNatClampNeg a0) (fun s39 => (px_gd (¬ a1 < 0 ∧ ¬ (v36 * (16 : Int32)) < 0 ∧ ¬ (16 : Int32) < 0 ∧ a1.toNatClampNeg + (16 : Int32).toNatClampNeg ≤ K.2.2 24 ∧ (v36 * (16 : Int32)).toNatClampNeg + (16 : Int32).toNatClampNeg ≤ K.2.2 10) (px_let (sF s39 10 (va_cpy (s39.2.2.1 24) (s39.2.2.1 10) a1.toNatClampNeg (v36 * (16 : Int32)).toNatClampNeg (16 : Int32).toNatClampNeg)) (fun s42 => (px_gd (¬ a1 < 0 ∧ ¬ (a0 * (16 : Int32)) < 0 ∧ ¬ (16 : Int32) < 0 ∧ a1.toNatClampNeg + (16 : Int32).toNatClampNeg ≤ K.2.2 24 ∧ (a0 * (16 : Int32)).toNatClampNeg + (16 : Int32).toNatClampNeg ≤ K.2.2 11) (px_let (sF s42 11 (va_cpy (s42.2.2.1 24) (s42.2.2.1 11) a1.toNatClampNeg (a0 * (16 : Int32)).toNatClampNeg (16 : Int32).toNatClampNeg)) (fun s45 => (px_let (sR s45 8 ((s45.1 8) + (1 : Int32))) (fun s47 => (px_let (sR s47 9 ((s47.1 9) + (1 : Int32))) (fun s49 => (some (.inl none, s49, t2))))))))))))))))))))))))) else (some (.inr (t2.length + 47), s9, t2 ++ [px_exc 7]))))) else (some (.inl none, s1, t2)))))) (fun x5 s1 t2 => none))
set_option maxRecDepth 100000 in
theorem e_D_put_8_24 (K : px_K) (N : Nat) (a0 : Int32) (a1 : Int32) (s : px_S) (t : px_W) (r : px_Res) (h : f_D_put_8_24 K N a0 a1 s t = some r) : px_E px_ET px_P 9 113 0 (px_ent 5 [.ref 8, .int a0, .ref 24, .int a1]) [] (px_w K s t) r.1 (px_w K r.2.1 r.2.2) := by
  have hM : px_P[113]? = some pm_D_put := rfl
  unfold f_D_put_8_24 at h
  refine px_blk (i' := 2) (L' := [some (.ref 8), some (.int a0), some (.ref 24), some (.int a1), none]) (S' := [.int a0, .ref 8]) (w' := px_w K s t) (q := []) 2 hM rfl trivial ?_
  rcases px_bi_some h with ⟨v4, s1, t2, hk3, h⟩ | ⟨x5, s1, t2, hk3, h⟩
  · refine px_E_call hM rfl rfl rfl rfl (px_E_mono (by decide) (e_D_has_8 K N a0 s t _ hk3)) ?_
    refine px_blkif (c := v4 = 0) (t := 12) (e := 4) (L' := [some (.ref 8), some (.int a0), some (.ref 24), some (.int a1), none]) (S' := []) (w' := px_w K s1 t2) (q := []) 1 hM rfl trivial (fun hc6 => ?_) (fun hc6 => ?_)
    · rw [if_pos hc6] at h
      cases h
      exact px_E_ret hM rfl rfl rfl trivial
    · rw [if_neg hc6] at h
      refine px_blkif (c := a1 < 0) (t := 12) (e := 6) (L' := [some (.ref 8), some (.int a0), some (.ref 24), some (.int a1), none]) (S' := []) (w' := px_w K s1 t2) (q := []) 2 hM rfl trivial (fun hc7 => ?_) (fun hc7 => ?_)
      · rw [if_pos hc7] at h
        cases h
        exact px_E_ret hM rfl rfl rfl trivial
      · rw [if_neg hc7] at h
        refine px_blkif (c := a1 ≤ ((Int32.ofNat (K.2.2 24)) - (16 : Int32))) (t := 13) (e := 12) (L' := [some (.ref 8), some (.int a0), some (.ref 24), some (.int a1), none]) (S' := []) (w' := px_w K s1 t2) (q := []) 6 hM rfl trivial (fun hc8 => ?_) (fun hc8 => ?_)
        · rw [if_pos hc8] at h
          refine px_blk (i' := 20) (L' := [some (.ref 8), some (.int a0), some (.ref 24), some (.int a1), none]) (S' := []) (w' := px_w K (sQ s1 0 ((s1.2.1 0) + (1 : Int64))) t2) (q := []) 7 hM rfl trivial ?_
          obtain ⟨s9, hs10, h⟩ := px_let_some h
          rw [← hs10]
          refine px_blkif (c := ¬ (lg_cmp (s9.2.1 0) (s9.2.1 1)) = 0) (t := 29) (e := 28) (L' := [some (.ref 8), some (.int a0), some (.ref 24), some (.int a1), none]) (S' := []) (w' := px_w K s9 t2) (q := []) 8 hM rfl trivial (fun hc11 => ?_) (fun hc11 => ?_)
          · rw [if_pos hc11] at h
            refine px_blkif (c := ¬ (s9.1 8) = (64 : Int32)) (t := 64) (e := 33) (L' := [some (.ref 8), some (.int a0), some (.ref 24), some (.int a1), none]) (S' := []) (w' := px_w K s9 t2) (q := []) 4 hM rfl trivial (fun hc12 => ?_) (fun hc12 => ?_)
            · rw [if_pos hc12] at h
              refine px_blk (i' := 72) (L' := [some (.ref 8), some (.int a0), some (.ref 24), some (.int a1), some (.int (((s9.1 7) + (s9.1 8)) - ((s9.1 7) + (s9.1 8)) / (64 : Int32) * (64 : Int32)))]) (S' := []) (w' := px_w K s9 t2) (q := [¬ (64 : Int32) = 0]) 8 hM rfl (show ¬ (64 : Int32) = 0 from (by decide)) ?_
              obtain ⟨v13, hv14, h⟩ := px_let_some h
              rw [← hv14]
              obtain ⟨hq15, h⟩ := px_gd_some h
              refine px_blk (i' := 77) (L' := [some (.ref 8), some (.int a0), some (.ref 24), some (.int a1), some (.int v13)]) (S' := []) (w' := px_w K (sA s9 9 v13.toNatClampNeg a0) t2) (q := [vp_in v13 (K.2.2 9)]) 5 hM rfl (show vp_in v13 (K.2.2 9) from hq15) ?_
              obtain ⟨s16, hs17, h⟩ := px_let_some h
              rw [← hs17]
              obtain ⟨hq18, h⟩ := px_gd_some h
              refine px_blk (i' := 86) (L' := [some (.ref 8), some (.int a0), some (.ref 24), some (.int a1), some (.int v13)]) (S' := []) (w' := px_w K (sF s16 10 (va_cpy (s16.2.2.1 24) (s16.2.2.1 10) a1.toNatClampNeg (v13 * (16 : Int32)).toNatClampNeg (16 : Int32).toNatClampNeg)) t2) (q := [¬ a1 < 0 ∧ ¬ (v13 * (16 : Int32)) < 0 ∧ ¬ (16 : Int32) < 0 ∧ a1.toNatClampNeg + (16 : Int32).toNatClampNeg ≤ K.2.2 24 ∧ (v13 * (16 : Int32)).toNatClampNeg + (16 : Int32).toNatClampNeg ≤ K.2.2 10]) 9 hM rfl (show ¬ a1 < 0 ∧ ¬ (v13 * (16 : Int32)) < 0 ∧ ¬ (16 : Int32) < 0 ∧ a1.toNatClampNeg + (16 : Int32).toNatClampNeg ≤ K.2.2 24 ∧ (v13 * (16 : Int32)).toNatClampNeg + (16 : Int32).toNatClampNeg ≤ K.2.2 10 from hq18) ?_
              obtain ⟨s19, hs20, h⟩ := px_let_some h
              rw [← hs20]
              obtain ⟨hq21, h⟩ := px_gd_some h
              refine px_blk (i' := 95) (L' := [some (.ref 8), some (.int a0), some (.ref 24), some (.int a1), some (.int v13)]) (S' := []) (w' := px_w K (sF s19 11 (va_cpy (s19.2.2.1 24) (s19.2.2.1 11) a1.toNatClampNeg (a0 * (16 : Int32)).toNatClampNeg (16 : Int32).toNatClampNeg)) t2) (q := [¬ a1 < 0 ∧ ¬ (a0 * (16 : Int32)) < 0 ∧ ¬ (16 : Int32) < 0 ∧ a1.toNatClampNeg + (16 : Int32).toNatClampNeg ≤ K.2.2 24 ∧ (a0 * (16 : Int32)).toNatClampNeg + (16 : Int32).toNatClampNeg ≤ K.2.2 11]) 9 hM rfl (show ¬ a1 < 0 ∧ ¬ (a0 * (16 : Int32)) < 0 ∧ ¬ (16 : Int32) < 0 ∧ a1.toNatClampNeg + (16 : Int32).toNatClampNeg ≤ K.2.2 24 ∧ (a0 * (16 : Int32)).toNatClampNeg + (16 : Int32).toNatClampNeg ≤ K.2.2 11 from hq21) ?_
              obtain ⟨s22, hs23, h⟩ := px_let_some h
              rw [← hs23]
              refine px_blk (i' := 101) (L' := [some (.ref 8), some (.int a0), some (.ref 24), some (.int a1), some (.int v13)]) (S' := []) (w' := px_w K (sR s22 8 ((s22.1 8) + (1 : Int32))) t2) (q := []) 6 hM rfl trivial ?_
              obtain ⟨s24, hs25, h⟩ := px_let_some h
              rw [← hs25]
              refine px_blk (i' := 107) (L' := [some (.ref 8), some (.int a0), some (.ref 24), some (.int a1), some (.int v13)]) (S' := []) (w' := px_w K (sR s24 9 ((s24.1 9) + (1 : Int32))) t2) (q := []) 6 hM rfl trivial ?_
              obtain ⟨s26, hs27, h⟩ := px_let_some h
              rw [← hs27]
              cases h
              exact px_E_ret hM rfl rfl rfl trivial
            · rw [if_neg hc12] at h
              refine px_blk (i' := 45) (L' := [some (.ref 8), some (.int a0), some (.ref 24), some (.int a1), none]) (S' := [.int (s9.1 7), .ref 9, .ref 12, .int ((s9.1 7) * (16 : Int32)), .ref 10]) (w' := px_w K s9 t2) (q := []) 12 hM rfl trivial ?_
              obtain ⟨⟨hq28, hq29⟩, h⟩ := px_gd_some h
              refine px_blk (i' := 50) (L' := [some (.ref 8), some (.int a0), some (.ref 24), some (.int a1), none]) (S' := []) (w' := px_w K (sF s9 12 (va_cpy (s9.2.2.1 10) (s9.2.2.1 12) ((s9.1 7) * (16 : Int32)).toNatClampNeg (((s9.2.2.1 9) (s9.1 7).toNatClampNeg) * (16 : Int32)).toNatClampNeg (16 : Int32).toNatClampNeg)) t2) (q := [vp_in (s9.1 7) (K.2.2 9), ¬ ((s9.1 7) * (16 : Int32)) < 0 ∧ ¬ (((s9.2.2.1 9) (s9.1 7).toNatClampNeg) * (16 : Int32)) < 0 ∧ ¬ (16 : Int32) < 0 ∧ ((s9.1 7) * (16 : Int32)).toNatClampNeg + (16 : Int32).toNatClampNeg ≤ K.2.2 10 ∧ (((s9.2.2.1 9) (s9.1 7).toNatClampNeg) * (16 : Int32)).toNatClampNeg + (16 : Int32).toNatClampNeg ≤ K.2.2 12]) 5 hM rfl (show (vp_in (s9.1 7) (K.2.2 9)) ∧ (¬ ((s9.1 7) * (16 : Int32)) < 0 ∧ ¬ (((s9.2.2.1 9) (s9.1 7).toNatClampNeg) * (16 : Int32)) < 0 ∧ ¬ (16 : Int32) < 0 ∧ ((s9.1 7) * (16 : Int32)).toNatClampNeg + (16 : Int32).toNatClampNeg ≤ K.2.2 10 ∧ (((s9.2.2.1 9) (s9.1 7).toNatClampNeg) * (16 : Int32)).toNatClampNeg + (16 : Int32).toNatClampNeg ≤ K.2.2 12) from ⟨hq28, hq29⟩) ?_
              obtain ⟨s30, hs31, h⟩ := px_let_some h
              rw [← hs31]
              refine px_blk (i' := 58) (L' := [some (.ref 8), some (.int a0), some (.ref 24), some (.int a1), none]) (S' := []) (w' := px_w K (sR s30 7 (((s30.1 7) + (1 : Int32)) - ((s30.1 7) + (1 : Int32)) / (64 : Int32) * (64 : Int32))) t2) (q := [¬ (64 : Int32) = 0]) 8 hM rfl (show ¬ (64 : Int32) = 0 from (by decide)) ?_
              obtain ⟨s32, hs33, h⟩ := px_let_some h
              rw [← hs33]
              refine px_blk (i' := 64) (L' := [some (.ref 8), some (.int a0), some (.ref 24), some (.int a1), none]) (S' := []) (w' := px_w K (sR s32 8 ((s32.1 8) - (1 : Int32))) t2) (q := []) 6 hM rfl trivial ?_
              obtain ⟨s34, hs35, h⟩ := px_let_some h
              rw [← hs35]
              refine px_blk (i' := 72) (L' := [some (.ref 8), some (.int a0), some (.ref 24), some (.int a1), some (.int (((s34.1 7) + (s34.1 8)) - ((s34.1 7) + (s34.1 8)) / (64 : Int32) * (64 : Int32)))]) (S' := []) (w' := px_w K s34 t2) (q := [¬ (64 : Int32) = 0]) 8 hM rfl (show ¬ (64 : Int32) = 0 from (by decide)) ?_
              obtain ⟨v36, hv37, h⟩ := px_let_some h
              rw [← hv37]
              obtain ⟨hq38, h⟩ := px_gd_some h
              refine px_blk (i' := 77) (L' := [some (.ref 8), some (.int a0), some (.ref 24), some (.int a1), some (.int v36)]) (S' := []) (w' := px_w K (sA s34 9 v36.toNatClampNeg a0) t2) (q := [vp_in v36 (K.2.2 9)]) 5 hM rfl (show vp_in v36 (K.2.2 9) from hq38) ?_
              obtain ⟨s39, hs40, h⟩ := px_let_some h
              rw [← hs40]
              obtain ⟨hq41, h⟩ := px_gd_some h
              refine px_blk (i' := 86) (L' := [some (.ref 8), some (.int a0), some (.ref 24), some (.int a1), some (.int v36)]) (S' := []) (w' := px_w K (sF s39 10 (va_cpy (s39.2.2.1 24) (s39.2.2.1 10) a1.toNatClampNeg (v36 * (16 : Int32)).toNatClampNeg (16 : Int32).toNatClampNeg)) t2) (q := [¬ a1 < 0 ∧ ¬ (v36 * (16 : Int32)) < 0 ∧ ¬ (16 : Int32) < 0 ∧ a1.toNatClampNeg + (16 : Int32).toNatClampNeg ≤ K.2.2 24 ∧ (v36 * (16 : Int32)).toNatClampNeg + (16 : Int32).toNatClampNeg ≤ K.2.2 10]) 9 hM rfl (show ¬ a1 < 0 ∧ ¬ (v36 * (16 : Int32)) < 0 ∧ ¬ (16 : Int32) < 0 ∧ a1.toNatClampNeg + (16 : Int32).toNatClampNeg ≤ K.2.2 24 ∧ (v36 * (16 : Int32)).toNatClampNeg + (16 : Int32).toNatClampNeg ≤ K.2.2 10 from hq41) ?_
              obtain ⟨s42, hs43, h⟩ := px_let_some h
              rw [← hs43]
              obtain ⟨hq44, h⟩ := px_gd_some h
              refine px_blk (i' := 95) (L' := [some (.ref 8), some (.int a0), some (.ref 24), some (.int a1), some (.int v36)]) (S' := []) (w' := px_w K (sF s42 11 (va_cpy (s42.2.2.1 24) (s42.2.2.1 11) a1.toNatClampNeg (a0 * (16 : Int32)).toNatClampNeg (16 : Int32).toNatClampNeg)) t2) (q := [¬ a1 < 0 ∧ ¬ (a0 * (16 : Int32)) < 0 ∧ ¬ (16 : Int32) < 0 ∧ a1.toNatClampNeg + (16 : Int32).toNatClampNeg ≤ K.2.2 24 ∧ (a0 * (16 : Int32)).toNatClampNeg + (16 : Int32).toNatClampNeg ≤ K.2.2 11]) 9 hM rfl (show ¬ a1 < 0 ∧ ¬ (a0 * (16 : Int32)) < 0 ∧ ¬ (16 : Int32) < 0 ∧ a1.toNatClampNeg + (16 : Int32).toNatClampNeg ≤ K.2.2 24 ∧ (a0 * (16 : Int32)).toNatClampNeg + (16 : Int32).toNatClampNeg ≤ K.2.2 11 from hq44) ?_
              obtain ⟨s45, hs46, h⟩ := px_let_some h
              rw [← hs46]
              refine px_blk (i' := 101) (L' := [some (.ref 8), some (.int a0), some (.ref 24), some (.int a1), some (.int v36)]) (S' := []) (w' := px_w K (sR s45 8 ((s45.1 8) + (1 : Int32))) t2) (q := []) 6 hM rfl trivial ?_
              obtain ⟨s47, hs48, h⟩ := px_let_some h
              rw [← hs48]
              refine px_blk (i' := 107) (L' := [some (.ref 8), some (.int a0), some (.ref 24), some (.int a1), some (.int v36)]) (S' := []) (w' := px_w K (sR s47 9 ((s47.1 9) + (1 : Int32))) t2) (q := []) 6 hM rfl trivial ?_
              obtain ⟨s49, hs50, h⟩ := px_let_some h
              rw [← hs50]
              cases h
              exact px_E_ret hM rfl rfl rfl trivial
          · rw [if_neg hc11] at h
            cases h
            exact px_E_throw2 hM rfl rfl (by decide) (by decide) rfl rfl
        · rw [if_neg hc8] at h
          cases h
          exact px_E_ret hM rfl rfl rfl trivial
  · cases h
noncomputable def f_D_put_3_24 (K : px_K) (N : Nat) (a0 : Int32) (a1 : Int32) (s : px_S) (t : px_W) : Option px_Res :=
  (px_bi (f_D_has_3 K N a0 s t) (fun v4 s1 t2 => (if v4 = 0 then (some (.inl none, s1, t2)) else (if a1 < 0 then (some (.inl none, s1, t2)) else (if a1 ≤ ((Int32.ofNat (K.2.2 24)) - (16 : Int32)) then (px_let (sQ s1 0 ((s1.2.1 0) + (1 : Int64))) (fun s9 => (if ¬ (lg_cmp (s9.2.1 0) (s9.2.1 1)) = 0 then (if ¬ (s9.1 3) = (64 : Int32) then (px_let (((s9.1 2) + (s9.1 3)) - ((s9.1 2) + (s9.1 3)) / (64 : Int32) * (64 : Int32)) (fun v13 => (px_gd (vp_in v13 (K.2.2 4)) (px_let (sA s9 4 v13.toNatClampNeg a0) (fun s16 => (px_gd (¬ a1 < 0 ∧ ¬ (v13 * (16 : Int32)) < 0 ∧ ¬ (16 : Int32) < 0 ∧ a1.toNatClampNeg + (16 : Int32).toNatClampNeg ≤ K.2.2 24 ∧ (v13 * (16 : Int32)).toNatClampNeg + (16 : Int32).toNatClampNeg ≤ K.2.2 5) (px_let (sF s16 5 (va_cpy (s16.2.2.1 24) (s16.2.2.1 5) a1.toNatClampNeg (v13 * (16 : Int32)).toNatClampNeg (16 : Int32).toNatClampNeg)) (fun s19 => (px_gd (¬ a1 < 0 ∧ ¬ (a0 * (16 : Int32)) < 0 ∧ ¬ (16 : Int32) < 0 ∧ a1.toNatClampNeg + (16 : Int32).toNatClampNeg ≤ K.2.2 24 ∧ (a0 * (16 : Int32)).toNatClampNeg + (16 : Int32).toNatClampNeg ≤ K.2.2 6) (px_let (sF s19 6 (va_cpy (s19.2.2.1 24) (s19.2.2.1 6) a1.toNatClampNeg (a0 * (16 : Int32)).toNatClampNeg (16 : Int32).toNatClampNeg)) (fun s22 => (px_let (sR s22 3 ((s22.1 3) + (1 : Int32))) (fun s24 => (px_let (sR s24 4 ((s24.1 4) + (1 : Int32))) (fun s26 => (some (.inl none, s26, t2))))))))))))))))) else (px_gd ((vp_in (s9.1 2) (K.2.2 4)) ∧ (¬ ((s9.1 2) * (16 : Int32)) < 0 ∧ ¬ (((s9.2.2.1 4) (s9.1 2).toNatClampNeg) * (16 : Int32)) < 0 ∧ ¬ (16 : Int32) < 0 ∧ ((s9.1 2) * (16 : Int32)).toNatClampNeg + (16 : Int32).toNatClampNeg ≤ K.2.2 5 ∧ (((s9.2.2.1 4) (s9.1 2).toNatClampNeg) * (16 : Int32)).toNatClampNeg + (16 : Int32).toNatClampNeg ≤ K.2.2 7)) (px_let (sF s9 7 (va_cpy (s9.2.2.1 5) (s9.2.2.1 7) ((s9.1 2) * (16 : Int32)).toNatClampNeg (((s9.2.2.1 4) (s9.1 2).toNatClampNeg) * (16 : Int32)).toNatClampNeg (16 : Int32).toNatClampNeg)) (fun s30 => (px_let (sR s30 2 (((s30.1 2) + (1 : Int32)) - ((s30.1 2) + (1 : Int32)) / (64 : Int32) * (64 : Int32))) (fun s32 => (px_let (sR s32 3 ((s32.1 3) - (1 : Int32))) (fun s34 => (px_let (((s34.1 2) + (s34.1 3)) - ((s34.1 2) + (s34.1 3)) / (64 : Int32) * (64 : Int32)) (fun v36 => (px_gd (vp_in v36 (K.2.2 4)) (px_let (sA s34 4 v36.toNatClampNeg a0) (fun s39 => (px_gd (¬ a1 < 0 ∧ ¬ (v36 * (16 : Int32)) < 0 ∧ ¬ (16 : Int32) < 0 ∧ a1.toNatClampNeg + (16 : Int32).toNatClampNeg ≤ K.2.2 24 ∧ (v36 * (16 : Int32)).toNatClampNeg + (16 : Int32).toNatClampNeg ≤ K.2.2 5) (px_let (sF s39 5 (va_cpy (s39.2.2.1 24) (s39.2.2.1 5) a1.toNatClampNeg (v36 * (16 : Int32)).toNatClampNeg (16 : Int32).toNatClampNeg)) (fun s42 => (px_gd (¬ a1 < 0 ∧ ¬ (a0 * (16 : Int32)) < 0 ∧ ¬ (16 : Int32) < 0 ∧ a1.toNatClampNeg + (16 : Int32).toNatClampNeg ≤ K.2.2 24 ∧ (a0 * (16 : Int32)).toNatClampNeg + (16 : Int32).toNatClampNeg ≤ K.2.2 6) (px_let (sF s42 6 (va_cpy (s42.2.2.1 24) (s42.2.2.1 6) a1.toNatClampNeg (a0 * (16 : Int32)).toNatClampNeg (16 : Int32).toNatClampNeg)) (fun s45 => (px_let (sR s45 3 ((s45.1 3) + (1 : Int32))) (fun s47 => (px_let (sR s47 4 ((s47.1 4) + (1 : Int32))) (fun s49 => (some (.inl none, s49, t2))))))))))))))))))))))))) else (some (.inr (t2.length + 47), s9, t2 ++ [px_exc 7]))))) else (some (.inl none, s1, t2)))))) (fun x5 s1 t2 => none))
set_option maxRecDepth 100000 in
theorem e_D_put_3_24 (K : px_K) (N : Nat) (a0 : Int32) (a1 : Int32) (s : px_S) (t : px_W) (r : px_Res) (h : f_D_put_3_24 K N a0 a1 s t = some r) : px_E px_ET px_P 9 113 0 (px_ent 5 [.ref 3, .int a0, .ref 24, .int a1]) [] (px_w K s t) r.1 (px_w K r.2.1 r.2.2) := by
  have hM : px_P[113]? = some pm_D_put := rfl
  unfold f_D_put_3_24 at h
  refine px_blk (i' := 2) (L' := [some (.ref 3), some (.int a0), some (.ref 24), some (.int a1), none]) (S' := [.int a0, .ref 3]) (w' := px_w K s t) (q := []) 2 hM rfl trivial ?_
  rcases px_bi_some h with ⟨v4, s1, t2, hk3, h⟩ | ⟨x5, s1, t2, hk3, h⟩
  · refine px_E_call hM rfl rfl rfl rfl (px_E_mono (by decide) (e_D_has_3 K N a0 s t _ hk3)) ?_
    refine px_blkif (c := v4 = 0) (t := 12) (e := 4) (L' := [some (.ref 3), some (.int a0), some (.ref 24), some (.int a1), none]) (S' := []) (w' := px_w K s1 t2) (q := []) 1 hM rfl trivial (fun hc6 => ?_) (fun hc6 => ?_)
    · rw [if_pos hc6] at h
      cases h
      exact px_E_ret hM rfl rfl rfl trivial
    · rw [if_neg hc6] at h
      refine px_blkif (c := a1 < 0) (t := 12) (e := 6) (L' := [some (.ref 3), some (.int a0), some (.ref 24), some (.int a1), none]) (S' := []) (w' := px_w K s1 t2) (q := []) 2 hM rfl trivial (fun hc7 => ?_) (fun hc7 => ?_)
      · rw [if_pos hc7] at h
        cases h
        exact px_E_ret hM rfl rfl rfl trivial
      · rw [if_neg hc7] at h
        refine px_blkif (c := a1 ≤ ((Int32.ofNat (K.2.2 24)) - (16 : Int32))) (t := 13) (e := 12) (L' := [some (.ref 3), some (.int a0), some (.ref 24), some (.int a1), none]) (S' := []) (w' := px_w K s1 t2) (q := []) 6 hM rfl trivial (fun hc8 => ?_) (fun hc8 => ?_)
        · rw [if_pos hc8] at h
          refine px_blk (i' := 20) (L' := [some (.ref 3), some (.int a0), some (.ref 24), some (.int a1), none]) (S' := []) (w' := px_w K (sQ s1 0 ((s1.2.1 0) + (1 : Int64))) t2) (q := []) 7 hM rfl trivial ?_
          obtain ⟨s9, hs10, h⟩ := px_let_some h
          rw [← hs10]
          refine px_blkif (c := ¬ (lg_cmp (s9.2.1 0) (s9.2.1 1)) = 0) (t := 29) (e := 28) (L' := [some (.ref 3), some (.int a0), some (.ref 24), some (.int a1), none]) (S' := []) (w' := px_w K s9 t2) (q := []) 8 hM rfl trivial (fun hc11 => ?_) (fun hc11 => ?_)
          · rw [if_pos hc11] at h
            refine px_blkif (c := ¬ (s9.1 3) = (64 : Int32)) (t := 64) (e := 33) (L' := [some (.ref 3), some (.int a0), some (.ref 24), some (.int a1), none]) (S' := []) (w' := px_w K s9 t2) (q := []) 4 hM rfl trivial (fun hc12 => ?_) (fun hc12 => ?_)
            · rw [if_pos hc12] at h
              refine px_blk (i' := 72) (L' := [some (.ref 3), some (.int a0), some (.ref 24), some (.int a1), some (.int (((s9.1 2) + (s9.1 3)) - ((s9.1 2) + (s9.1 3)) / (64 : Int32) * (64 : Int32)))]) (S' := []) (w' := px_w K s9 t2) (q := [¬ (64 : Int32) = 0]) 8 hM rfl (show ¬ (64 : Int32) = 0 from (by decide)) ?_
              obtain ⟨v13, hv14, h⟩ := px_let_some h
              rw [← hv14]
              obtain ⟨hq15, h⟩ := px_gd_some h
              refine px_blk (i' := 77) (L' := [some (.ref 3), some (.int a0), some (.ref 24), some (.int a1), some (.int v13)]) (S' := []) (w' := px_w K (sA s9 4 v13.toNatClampNeg a0) t2) (q := [vp_in v13 (K.2.2 4)]) 5 hM rfl (show vp_in v13 (K.2.2 4) from hq15) ?_
              obtain ⟨s16, hs17, h⟩ := px_let_some h
              rw [← hs17]
              obtain ⟨hq18, h⟩ := px_gd_some h
              refine px_blk (i' := 86) (L' := [some (.ref 3), some (.int a0), some (.ref 24), some (.int a1), some (.int v13)]) (S' := []) (w' := px_w K (sF s16 5 (va_cpy (s16.2.2.1 24) (s16.2.2.1 5) a1.toNatClampNeg (v13 * (16 : Int32)).toNatClampNeg (16 : Int32).toNatClampNeg)) t2) (q := [¬ a1 < 0 ∧ ¬ (v13 * (16 : Int32)) < 0 ∧ ¬ (16 : Int32) < 0 ∧ a1.toNatClampNeg + (16 : Int32).toNatClampNeg ≤ K.2.2 24 ∧ (v13 * (16 : Int32)).toNatClampNeg + (16 : Int32).toNatClampNeg ≤ K.2.2 5]) 9 hM rfl (show ¬ a1 < 0 ∧ ¬ (v13 * (16 : Int32)) < 0 ∧ ¬ (16 : Int32) < 0 ∧ a1.toNatClampNeg + (16 : Int32).toNatClampNeg ≤ K.2.2 24 ∧ (v13 * (16 : Int32)).toNatClampNeg + (16 : Int32).toNatClampNeg ≤ K.2.2 5 from hq18) ?_
              obtain ⟨s19, hs20, h⟩ := px_let_some h
              rw [← hs20]
              obtain ⟨hq21, h⟩ := px_gd_some h
              refine px_blk (i' := 95) (L' := [some (.ref 3), some (.int a0), some (.ref 24), some (.int a1), some (.int v13)]) (S' := []) (w' := px_w K (sF s19 6 (va_cpy (s19.2.2.1 24) (s19.2.2.1 6) a1.toNatClampNeg (a0 * (16 : Int32)).toNatClampNeg (16 : Int32).toNatClampNeg)) t2) (q := [¬ a1 < 0 ∧ ¬ (a0 * (16 : Int32)) < 0 ∧ ¬ (16 : Int32) < 0 ∧ a1.toNatClampNeg + (16 : Int32).toNatClampNeg ≤ K.2.2 24 ∧ (a0 * (16 : Int32)).toNatClampNeg + (16 : Int32).toNatClampNeg ≤ K.2.2 6]) 9 hM rfl (show ¬ a1 < 0 ∧ ¬ (a0 * (16 : Int32)) < 0 ∧ ¬ (16 : Int32) < 0 ∧ a1.toNatClampNeg + (16 : Int32).toNatClampNeg ≤ K.2.2 24 ∧ (a0 * (16 : Int32)).toNatClampNeg + (16 : Int32).toNatClampNeg ≤ K.2.2 6 from hq21) ?_
              obtain ⟨s22, hs23, h⟩ := px_let_some h
              rw [← hs23]
              refine px_blk (i' := 101) (L' := [some (.ref 3), some (.int a0), some (.ref 24), some (.int a1), some (.int v13)]) (S' := []) (w' := px_w K (sR s22 3 ((s22.1 3) + (1 : Int32))) t2) (q := []) 6 hM rfl trivial ?_
              obtain ⟨s24, hs25, h⟩ := px_let_some h
              rw [← hs25]
              refine px_blk (i' := 107) (L' := [some (.ref 3), some (.int a0), some (.ref 24), some (.int a1), some (.int v13)]) (S' := []) (w' := px_w K (sR s24 4 ((s24.1 4) + (1 : Int32))) t2) (q := []) 6 hM rfl trivial ?_
              obtain ⟨s26, hs27, h⟩ := px_let_some h
              rw [← hs27]
              cases h
              exact px_E_ret hM rfl rfl rfl trivial
            · rw [if_neg hc12] at h
              refine px_blk (i' := 45) (L' := [some (.ref 3), some (.int a0), some (.ref 24), some (.int a1), none]) (S' := [.int (s9.1 2), .ref 4, .ref 7, .int ((s9.1 2) * (16 : Int32)), .ref 5]) (w' := px_w K s9 t2) (q := []) 12 hM rfl trivial ?_
              obtain ⟨⟨hq28, hq29⟩, h⟩ := px_gd_some h
              refine px_blk (i' := 50) (L' := [some (.ref 3), some (.int a0), some (.ref 24), some (.int a1), none]) (S' := []) (w' := px_w K (sF s9 7 (va_cpy (s9.2.2.1 5) (s9.2.2.1 7) ((s9.1 2) * (16 : Int32)).toNatClampNeg (((s9.2.2.1 4) (s9.1 2).toNatClampNeg) * (16 : Int32)).toNatClampNeg (16 : Int32).toNatClampNeg)) t2) (q := [vp_in (s9.1 2) (K.2.2 4), ¬ ((s9.1 2) * (16 : Int32)) < 0 ∧ ¬ (((s9.2.2.1 4) (s9.1 2).toNatClampNeg) * (16 : Int32)) < 0 ∧ ¬ (16 : Int32) < 0 ∧ ((s9.1 2) * (16 : Int32)).toNatClampNeg + (16 : Int32).toNatClampNeg ≤ K.2.2 5 ∧ (((s9.2.2.1 4) (s9.1 2).toNatClampNeg) * (16 : Int32)).toNatClampNeg + (16 : Int32).toNatClampNeg ≤ K.2.2 7]) 5 hM rfl (show (vp_in (s9.1 2) (K.2.2 4)) ∧ (¬ ((s9.1 2) * (16 : Int32)) < 0 ∧ ¬ (((s9.2.2.1 4) (s9.1 2).toNatClampNeg) * (16 : Int32)) < 0 ∧ ¬ (16 : Int32) < 0 ∧ ((s9.1 2) * (16 : Int32)).toNatClampNeg + (16 : Int32).toNatClampNeg ≤ K.2.2 5 ∧ (((s9.2.2.1 4) (s9.1 2).toNatClampNeg) * (16 : Int32)).toNatClampNeg + (16 : Int32).toNatClampNeg ≤ K.2.2 7) from ⟨hq28, hq29⟩) ?_
              obtain ⟨s30, hs31, h⟩ := px_let_some h
              rw [← hs31]
              refine px_blk (i' := 58) (L' := [some (.ref 3), some (.int a0), some (.ref 24), some (.int a1), none]) (S' := []) (w' := px_w K (sR s30 2 (((s30.1 2) + (1 : Int32)) - ((s30.1 2) + (1 : Int32)) / (64 : Int32) * (64 : Int32))) t2) (q := [¬ (64 : Int32) = 0]) 8 hM rfl (show ¬ (64 : Int32) = 0 from (by decide)) ?_
              obtain ⟨s32, hs33, h⟩ := px_let_some h
              rw [← hs33]
              refine px_blk (i' := 64) (L' := [some (.ref 3), some (.int a0), some (.ref 24), some (.int a1), none]) (S' := []) (w' := px_w K (sR s32 3 ((s32.1 3) - (1 : Int32))) t2) (q := []) 6 hM rfl trivial ?_
              obtain ⟨s34, hs35, h⟩ := px_let_some h
              rw [← hs35]
              refine px_blk (i' := 72) (L' := [some (.ref 3), some (.int a0), some (.ref 24), some (.int a1), some (.int (((s34.1 2) + (s34.1 3)) - ((s34.1 2) + (s34.1 3)) / (64 : Int32) * (64 : Int32)))]) (S' := []) (w' := px_w K s34 t2) (q := [¬ (64 : Int32) = 0]) 8 hM rfl (show ¬ (64 : Int32) = 0 from (by decide)) ?_
              obtain ⟨v36, hv37, h⟩ := px_let_some h
              rw [← hv37]
              obtain ⟨hq38, h⟩ := px_gd_some h
              refine px_blk (i' := 77) (L' := [some (.ref 3), some (.int a0), some (.ref 24), some (.int a1), some (.int v36)]) (S' := []) (w' := px_w K (sA s34 4 v36.toNatClampNeg a0) t2) (q := [vp_in v36 (K.2.2 4)]) 5 hM rfl (show vp_in v36 (K.2.2 4) from hq38) ?_
              obtain ⟨s39, hs40, h⟩ := px_let_some h
              rw [← hs40]
              obtain ⟨hq41, h⟩ := px_gd_some h
              refine px_blk (i' := 86) (L' := [some (.ref 3), some (.int a0), some (.ref 24), some (.int a1), some (.int v36)]) (S' := []) (w' := px_w K (sF s39 5 (va_cpy (s39.2.2.1 24) (s39.2.2.1 5) a1.toNatClampNeg (v36 * (16 : Int32)).toNatClampNeg (16 : Int32).toNatClampNeg)) t2) (q := [¬ a1 < 0 ∧ ¬ (v36 * (16 : Int32)) < 0 ∧ ¬ (16 : Int32) < 0 ∧ a1.toNatClampNeg + (16 : Int32).toNatClampNeg ≤ K.2.2 24 ∧ (v36 * (16 : Int32)).toNatClampNeg + (16 : Int32).toNatClampNeg ≤ K.2.2 5]) 9 hM rfl (show ¬ a1 < 0 ∧ ¬ (v36 * (16 : Int32)) < 0 ∧ ¬ (16 : Int32) < 0 ∧ a1.toNatClampNeg + (16 : Int32).toNatClampNeg ≤ K.2.2 24 ∧ (v36 * (16 : Int32)).toNatClampNeg + (16 : Int32).toNatClampNeg ≤ K.2.2 5 from hq41) ?_
              obtain ⟨s42, hs43, h⟩ := px_let_some h
              rw [← hs43]
              obtain ⟨hq44, h⟩ := px_gd_some h
              refine px_blk (i' := 95) (L' := [some (.ref 3), some (.int a0), some (.ref 24), some (.int a1), some (.int v36)]) (S' := []) (w' := px_w K (sF s42 6 (va_cpy (s42.2.2.1 24) (s42.2.2.1 6) a1.toNatClampNeg (a0 * (16 : Int32)).toNatClampNeg (16 : Int32).toNatClampNeg)) t2) (q := [¬ a1 < 0 ∧ ¬ (a0 * (16 : Int32)) < 0 ∧ ¬ (16 : Int32) < 0 ∧ a1.toNatClampNeg + (16 : Int32).toNatClampNeg ≤ K.2.2 24 ∧ (a0 * (16 : Int32)).toNatClampNeg + (16 : Int32).toNatClampNeg ≤ K.2.2 6]) 9 hM rfl (show ¬ a1 < 0 ∧ ¬ (a0 * (16 : Int32)) < 0 ∧ ¬ (16 : Int32) < 0 ∧ a1.toNatClampNeg + (16 : Int32).toNatClampNeg ≤ K.2.2 24 ∧ (a0 * (16 : Int32)).toNatClampNeg + (16 : Int32).toNatClampNeg ≤ K.2.2 6 from hq44) ?_
              obtain ⟨s45, hs46, h⟩ := px_let_some h
              rw [← hs46]
              refine px_blk (i' := 101) (L' := [some (.ref 3), some (.int a0), some (.ref 24), some (.int a1), some (.int v36)]) (S' := []) (w' := px_w K (sR s45 3 ((s45.1 3) + (1 : Int32))) t2) (q := []) 6 hM rfl trivial ?_
              obtain ⟨s47, hs48, h⟩ := px_let_some h
              rw [← hs48]
              refine px_blk (i' := 107) (L' := [some (.ref 3), some (.int a0), some (.ref 24), some (.int a1), some (.int v36)]) (S' := []) (w' := px_w K (sR s47 4 ((s47.1 4) + (1 : Int32))) t2) (q := []) 6 hM rfl trivial ?_
              obtain ⟨s49, hs50, h⟩ := px_let_some h
              rw [← hs50]
              cases h
              exact px_E_ret hM rfl rfl rfl trivial
          · rw [if_neg hc11] at h
            cases h
            exact px_E_throw2 hM rfl rfl (by decide) (by decide) rfl rfl
        · rw [if_neg hc8] at h
          cases h
          exact px_E_ret hM rfl rfl rfl trivial
  · cases h
noncomputable def l_V_store_13_24_46 (K : px_K) (N : Nat) (n : Nat) (u1 : Int32) (u3 : Int32) (m4 : Int32) (m5 : Int32) (s : px_S) (t : px_W) : Option px_LO := match n with
  | 0 => none
  | n + 1 => (if (1000 : Int32) ≤ m5 then (some (.inl (74, [m4], s, t))) else (if 0 ≤ m4 then (some (.inl (74, [m4], s, t))) else (px_gd (¬ (s.1 18) = 0) (px_bi (f_S_hasClosed_14 K N (u1 - u1 / (s.1 18) * (s.1 18)) (s.1 16) s t) (fun v7 s4 t5 => (if ¬ v7 = 0 then (px_bi (f_V_landOldest_13 K N s4 t5) (fun v13 s10 t11 => (px_bi (f_S_toWrite_14 K N u1 s10 t11) (fun v18 s15 t16 => (l_V_store_13_24_46 K N n u1 u3 v18 (m5 + (1 : Int32)) s15 t16)) (fun x19 s15 t16 => none))) (fun x14 s10 t11 => (some (.inr (.inr x14, s10, t11))))) else (px_bv (f_V_close_13 K N s4 t5) (fun s20 t21 => (px_bi (f_V_landOldest_13 K N s20 t21) (fun v28 s25 t26 => (px_bi (f_S_toWrite_14 K N u1 s25 t26) (fun v33 s30 t31 => (l_V_store_13_24_46 K N n u1 u3 v33 (m5 + (1 : Int32)) s30 t31)) (fun x34 s30 t31 => none))) (fun x29 s25 t26 => (some (.inr (.inr x29, s25, t26)))))) (fun x24 s20 t21 => (some (.inr (.inr x24, s20, t21))))))) (fun x8 s4 t5 => none)))))
def a_l_V_store_13_24_46 (K : px_K) (u1 : Int32) (u3 : Int32) (z : px_LO) (o : Option Value ⊕ Nat) (w2 : px_W) : Prop := match z with
  | .inr (o', s', t') => o = o' ∧ w2 = px_w K s' t'
  | .inl (74, [y4], s', t') => px_E px_ET px_P 12 187 74 [some (.ref 13), some (.int u1), some (.ref 24), some (.int u3), some (.int y4), none] [] (px_w K s' t') o w2
  | _ => False
set_option maxRecDepth 100000 in
theorem e_l_V_store_13_24_46 (K : px_K) (N : Nat) (u1 : Int32) (u3 : Int32) : ∀ (n : Nat) (m4 : Int32) (m5 : Int32) (s : px_S) (t : px_W) (z : px_LO), l_V_store_13_24_46 K N n u1 u3 m4 m5 s t = some z → ∀ (o : Option Value ⊕ Nat) (w2 : px_W), a_l_V_store_13_24_46 K u1 u3 z o w2 → px_E px_ET px_P 12 187 46 [some (.ref 13), some (.int u1), some (.ref 24), some (.int u3), some (.int m4), some (.int m5)] [] (px_w K s t) o w2 := by
  have hM : px_P[187]? = some pm_V_store := rfl
  intro n
  induction n with
  | zero => intro m4 m5 s t z h; cases h
  | succ n ih =>
    intro m4 m5 s t z h o w2 ha
    unfold l_V_store_13_24_46 at h
    refine px_blkif (c := (1000 : Int32) ≤ m5) (t := 74) (e := 49) (L' := [some (.ref 13), some (.int u1), some (.ref 24), some (.int u3), some (.int m4), some (.int m5)]) (S' := []) (w' := px_w K s t) (q := []) 3 hM rfl trivial (fun hc1 => ?_) (fun hc1 => ?_)
    · rw [if_pos hc1] at h
      cases h
      exact px_E_le (px_leC_L _ _ (by simp [px_leC, px_le1, Value.category])) ha
    · rw [if_neg hc1] at h
      refine px_blkif (c := 0 ≤ m4) (t := 74) (e := 51) (L' := [some (.ref 13), some (.int u1), some (.ref 24), some (.int u3), some (.int m4), some (.int m5)]) (S' := []) (w' := px_w K s t) (q := []) 2 hM rfl trivial (fun hc2 => ?_) (fun hc2 => ?_)
      · rw [if_pos hc2] at h
        cases h
        exact px_E_le (px_leC_L _ _ (by simp [px_leC, px_le1, Value.category])) ha
      · rw [if_neg hc2] at h
        obtain ⟨hq3, h⟩ := px_gd_some h
        refine px_blk (i' := 60) (L' := [some (.ref 13), some (.int u1), some (.ref 24), some (.int u3), some (.int m4), some (.int m5)]) (S' := [.int (s.1 16), .int (u1 - u1 / (s.1 18) * (s.1 18)), .ref 14]) (w' := px_w K s t) (q := [¬ (s.1 18) = 0]) 9 hM rfl (show ¬ (s.1 18) = 0 from hq3) ?_
        rcases px_bi_some h with ⟨v7, s4, t5, hk6, h⟩ | ⟨x8, s4, t5, hk6, h⟩
        · refine px_E_call hM rfl rfl rfl rfl (px_E_mono (by decide) (e_S_hasClosed_14 K N (u1 - u1 / (s.1 18) * (s.1 18)) (s.1 16) s t _ hk6)) ?_
          refine px_blkif (c := ¬ v7 = 0) (t := 64) (e := 62) (L' := [some (.ref 13), some (.int u1), some (.ref 24), some (.int u3), some (.int m4), some (.int m5)]) (S' := []) (w' := px_w K s4 t5) (q := []) 1 hM rfl trivial (fun hc9 => ?_) (fun hc9 => ?_)
          · rw [if_pos hc9] at h
            refine px_blk (i' := 65) (L' := [some (.ref 13), some (.int u1), some (.ref 24), some (.int u3), some (.int m4), some (.int m5)]) (S' := [.ref 13]) (w' := px_w K s4 t5) (q := []) 1 hM rfl trivial ?_
            rcases px_bi_some h with ⟨v13, s10, t11, hk12, h⟩ | ⟨x14, s10, t11, hk12, h⟩
            · refine px_E_call hM rfl rfl rfl rfl (px_E_mono (by decide) (e_V_landOldest_13 K N s4 t5 _ hk12)) ?_
              refine px_blk (i' := 70) (L' := [some (.ref 13), some (.int u1), some (.ref 24), some (.int u3), some (.int m4), some (.int m5)]) (S' := [.int u1, .ref 14]) (w' := px_w K s10 t11) (q := []) 4 hM rfl trivial ?_
              rcases px_bi_some h with ⟨v18, s15, t16, hk17, h⟩ | ⟨x19, s15, t16, hk17, h⟩
              · refine px_E_call hM rfl rfl rfl rfl (px_E_mono (by decide) (e_S_toWrite_14 K N u1 s10 t11 _ hk17)) ?_
                refine px_blk (i' := 46) (L' := [some (.ref 13), some (.int u1), some (.ref 24), some (.int u3), some (.int v18), some (.int (m5 + (1 : Int32)))]) (S' := []) (w' := px_w K s15 t16) (q := []) 3 hM rfl trivial ?_
                exact ih v18 (m5 + (1 : Int32)) s15 t16 z h o w2 ha
              · cases h
            · cases h
              obtain ⟨rfl, rfl⟩ := ha
              exact px_E_callT hM rfl rfl rfl rfl (px_E_mono (by decide) (e_V_landOldest_13 K N s4 t5 _ hk12)) rfl
          · rw [if_neg hc9] at h
            refine px_blk (i' := 63) (L' := [some (.ref 13), some (.int u1), some (.ref 24), some (.int u3), some (.int m4), some (.int m5)]) (S' := [.ref 13]) (w' := px_w K s4 t5) (q := []) 1 hM rfl trivial ?_
            rcases px_bv_some h with ⟨s20, t21, hk22, h⟩ | ⟨x24, s20, t21, hk22, h⟩
            · refine px_E_call hM rfl rfl rfl rfl (px_E_mono (by decide) (e_V_close_13 K N s4 t5 _ hk22)) ?_
              refine px_blk (i' := 65) (L' := [some (.ref 13), some (.int u1), some (.ref 24), some (.int u3), some (.int m4), some (.int m5)]) (S' := [.ref 13]) (w' := px_w K s20 t21) (q := []) 1 hM rfl trivial ?_
              rcases px_bi_some h with ⟨v28, s25, t26, hk27, h⟩ | ⟨x29, s25, t26, hk27, h⟩
              · refine px_E_call hM rfl rfl rfl rfl (px_E_mono (by decide) (e_V_landOldest_13 K N s20 t21 _ hk27)) ?_
                refine px_blk (i' := 70) (L' := [some (.ref 13), some (.int u1), some (.ref 24), some (.int u3), some (.int m4), some (.int m5)]) (S' := [.int u1, .ref 14]) (w' := px_w K s25 t26) (q := []) 4 hM rfl trivial ?_
                rcases px_bi_some h with ⟨v33, s30, t31, hk32, h⟩ | ⟨x34, s30, t31, hk32, h⟩
                · refine px_E_call hM rfl rfl rfl rfl (px_E_mono (by decide) (e_S_toWrite_14 K N u1 s25 t26 _ hk32)) ?_
                  refine px_blk (i' := 46) (L' := [some (.ref 13), some (.int u1), some (.ref 24), some (.int u3), some (.int v33), some (.int (m5 + (1 : Int32)))]) (S' := []) (w' := px_w K s30 t31) (q := []) 3 hM rfl trivial ?_
                  exact ih v33 (m5 + (1 : Int32)) s30 t31 z h o w2 ha
                · cases h
              · cases h
                obtain ⟨rfl, rfl⟩ := ha
                exact px_E_callT hM rfl rfl rfl rfl (px_E_mono (by decide) (e_V_landOldest_13 K N s20 t21 _ hk27)) rfl
            · cases h
              obtain ⟨rfl, rfl⟩ := ha
              exact px_E_callT hM rfl rfl rfl rfl (px_E_mono (by decide) (e_V_close_13 K N s4 t5 _ hk22)) rfl
        · cases h
noncomputable def f_V_store_13_24 (K : px_K) (N : Nat) (a0 : Int32) (a1 : Int32) (s : px_S) (t : px_W) : Option px_Res :=
  (if a0 < 0 then (some (.inl none, s, t)) else (if a0 < (106 : Int32) then (if ¬ (s.1 12) = 0 then (px_bi (f_S_newest_14 K N a0 s t) (fun v7 s4 t5 => (if v7 < 0 then (if ¬ (s4.1 17) = (16 : Int32) then (px_bi (f_S_toWrite_14 K N a0 s4 t5) (fun v14 s11 t12 => (px_lp (l_V_store_13_24_46 K N N a0 a1 v14 (0 : Int32) s11 t12) (fun i16 vs17 s18 t19 => (if i16 = 74 then (px_v1 vs17 (fun y22 => (if 0 ≤ y22 then (px_bv (f_S_setDirty_14 K N y22 a0 (s18.1 16) s18 t19) (fun s25 t26 => (px_gd (vp_in y22 (K.2.2 18)) (px_let (sA s25 18 y22.toNatClampNeg (1 : Int32)) (fun s31 => (px_let (sR s31 17 ((s31.1 17) + (1 : Int32))) (fun s33 => (px_bv (f_D_put_8_24 K N ((50 : Int32) + y22) a1 s33 t26) (fun s35 t36 => (some (.inl none, s35, t36))) (fun x39 s35 t36 => (some (.inr x39, s35, t36)))))))))) (fun x29 s25 t26 => none)) else (some (.inl none, s18, t19))))) else none)) (fun z21 => some z21))) (fun x15 s11 t12 => none)) else (px_bv (f_V_close_13 K N s4 t5) (fun s40 t41 => (px_bi (f_S_toWrite_14 K N a0 s40 t41) (fun v48 s45 t46 => (px_lp (l_V_store_13_24_46 K N N a0 a1 v48 (0 : Int32) s45 t46) (fun i50 vs51 s52 t53 => (if i50 = 74 then (px_v1 vs51 (fun y56 => (if 0 ≤ y56 then (px_bv (f_S_setDirty_14 K N y56 a0 (s52.1 16) s52 t53) (fun s59 t60 => (px_gd (vp_in y56 (K.2.2 18)) (px_let (sA s59 18 y56.toNatClampNeg (1 : Int32)) (fun s65 => (px_let (sR s65 17 ((s65.1 17) + (1 : Int32))) (fun s67 => (px_bv (f_D_put_8_24 K N ((50 : Int32) + y56) a1 s67 t60) (fun s69 t70 => (some (.inl none, s69, t70))) (fun x73 s69 t70 => (some (.inr x73, s69, t70)))))))))) (fun x63 s59 t60 => none)) else (some (.inl none, s52, t53))))) else none)) (fun z55 => some z55))) (fun x49 s45 t46 => none))) (fun x44 s40 t41 => (some (.inr x44, s40, t41))))) else (px_gd (vp_in v7 (K.2.2 17)) (if ((s4.2.2.1 17) v7.toNatClampNeg) = (s4.1 16) then (px_bv (f_D_put_8_24 K N ((50 : Int32) + v7) a1 s4 t5) (fun s76 t77 => (some (.inl none, s76, t77))) (fun x80 s76 t77 => (some (.inr x80, s76, t77)))) else (if ¬ (s4.1 17) = (16 : Int32) then (px_bi (f_S_toWrite_14 K N a0 s4 t5) (fun v85 s82 t83 => (px_lp (l_V_store_13_24_46 K N N a0 a1 v85 (0 : Int32) s82 t83) (fun i87 vs88 s89 t90 => (if i87 = 74 then (px_v1 vs88 (fun y93 => (if 0 ≤ y93 then (px_bv (f_S_setDirty_14 K N y93 a0 (s89.1 16) s89 t90) (fun s96 t97 => (px_gd (vp_in y93 (K.2.2 18)) (px_let (sA s96 18 y93.toNatClampNeg (1 : Int32)) (fun s102 => (px_let (sR s102 17 ((s102.1 17) + (1 : Int32))) (fun s104 => (px_bv (f_D_put_8_24 K N ((50 : Int32) + y93) a1 s104 t97) (fun s106 t107 => (some (.inl none, s106, t107))) (fun x110 s106 t107 => (some (.inr x110, s106, t107)))))))))) (fun x100 s96 t97 => none)) else (some (.inl none, s89, t90))))) else none)) (fun z92 => some z92))) (fun x86 s82 t83 => none)) else (px_bv (f_V_close_13 K N s4 t5) (fun s111 t112 => (px_bi (f_S_toWrite_14 K N a0 s111 t112) (fun v119 s116 t117 => (px_lp (l_V_store_13_24_46 K N N a0 a1 v119 (0 : Int32) s116 t117) (fun i121 vs122 s123 t124 => (if i121 = 74 then (px_v1 vs122 (fun y127 => (if 0 ≤ y127 then (px_bv (f_S_setDirty_14 K N y127 a0 (s123.1 16) s123 t124) (fun s130 t131 => (px_gd (vp_in y127 (K.2.2 18)) (px_let (sA s130 18 y127.toNatClampNeg (1 : Int32)) (fun s136 => (px_let (sR s136 17 ((s136.1 17) + (1 : Int32))) (fun s138 => (px_bv (f_D_put_8_24 K N ((50 : Int32) + y127) a1 s138 t131) (fun s140 t141 => (some (.inl none, s140, t141))) (fun x144 s140 t141 => (some (.inr x144, s140, t141)))))))))) (fun x134 s130 t131 => none)) else (some (.inl none, s123, t124))))) else none)) (fun z126 => some z126))) (fun x120 s116 t117 => none))) (fun x115 s111 t112 => (some (.inr x115, s111, t112))))))))) (fun x8 s4 t5 => none)) else (px_bv (f_D_put_3_24 K N ((19 : Int32) + a0) a1 s t) (fun s145 t146 => (some (.inl none, s145, t146))) (fun x149 s145 t146 => (some (.inr x149, s145, t146))))) else (some (.inl none, s, t))))
set_option maxRecDepth 100000 in
theorem e_V_store_13_24 (K : px_K) (N : Nat) (a0 : Int32) (a1 : Int32) (s : px_S) (t : px_W) (r : px_Res) (h : f_V_store_13_24 K N a0 a1 s t = some r) : px_E px_ET px_P 12 187 0 (px_ent 6 [.ref 13, .int a0, .ref 24, .int a1]) [] (px_w K s t) r.1 (px_w K r.2.1 r.2.2) := by
  have hM : px_P[187]? = some pm_V_store := rfl
  unfold f_V_store_13_24 at h
  refine px_blkif (c := a0 < 0) (t := 5) (e := 2) (L' := [some (.ref 13), some (.int a0), some (.ref 24), some (.int a1), none, none]) (S' := []) (w' := px_w K s t) (q := []) 2 hM rfl trivial (fun hc1 => ?_) (fun hc1 => ?_)
  · rw [if_pos hc1] at h
    cases h
    exact px_E_ret hM rfl rfl rfl trivial
  · rw [if_neg hc1] at h
    refine px_blkif (c := a0 < (106 : Int32)) (t := 6) (e := 5) (L' := [some (.ref 13), some (.int a0), some (.ref 24), some (.int a1), none, none]) (S' := []) (w' := px_w K s t) (q := []) 3 hM rfl trivial (fun hc2 => ?_) (fun hc2 => ?_)
    · rw [if_pos hc2] at h
      refine px_blkif (c := ¬ (s.1 12) = 0) (t := 18) (e := 9) (L' := [some (.ref 13), some (.int a0), some (.ref 24), some (.int a1), none, none]) (S' := []) (w' := px_w K s t) (q := []) 3 hM rfl trivial (fun hc3 => ?_) (fun hc3 => ?_)
      · rw [if_pos hc3] at h
        refine px_blk (i' := 21) (L' := [some (.ref 13), some (.int a0), some (.ref 24), some (.int a1), none, none]) (S' := [.int a0, .ref 14]) (w' := px_w K s t) (q := []) 3 hM rfl trivial ?_
        rcases px_bi_some h with ⟨v7, s4, t5, hk6, h⟩ | ⟨x8, s4, t5, hk6, h⟩
        · refine px_E_call hM rfl rfl rfl rfl (px_E_mono (by decide) (e_S_newest_14 K N a0 s t _ hk6)) ?_
          refine px_blkif (c := v7 < 0) (t := 33) (e := 25) (L' := [some (.ref 13), some (.int a0), some (.ref 24), some (.int a1), some (.int v7), none]) (S' := []) (w' := px_w K s4 t5) (q := []) 3 hM rfl trivial (fun hc9 => ?_) (fun hc9 => ?_)
          · rw [if_pos hc9] at h
            refine px_blkif (c := ¬ (s4.1 17) = (16 : Int32)) (t := 39) (e := 37) (L' := [some (.ref 13), some (.int a0), some (.ref 24), some (.int a1), some (.int v7), none]) (S' := []) (w' := px_w K s4 t5) (q := []) 4 hM rfl trivial (fun hc10 => ?_) (fun hc10 => ?_)
            · rw [if_pos hc10] at h
              refine px_blk (i' := 42) (L' := [some (.ref 13), some (.int a0), some (.ref 24), some (.int a1), some (.int v7), none]) (S' := [.int a0, .ref 14]) (w' := px_w K s4 t5) (q := []) 3 hM rfl trivial ?_
              rcases px_bi_some h with ⟨v14, s11, t12, hk13, h⟩ | ⟨x15, s11, t12, hk13, h⟩
              · refine px_E_call hM rfl rfl rfl rfl (px_E_mono (by decide) (e_S_toWrite_14 K N a0 s4 t5 _ hk13)) ?_
                refine px_blk (i' := 46) (L' := [some (.ref 13), some (.int a0), some (.ref 24), some (.int a1), some (.int v14), some (.int (0 : Int32))]) (S' := []) (w' := px_w K s11 t12) (q := []) 3 hM rfl trivial ?_
                rcases px_lp_some h with ⟨i16, vs17, s18, t19, hl20, h⟩ | ⟨z21, hl20, h⟩
                · by_cases hi23 : i16 = 74
                  · subst hi23
                    rw [if_pos rfl] at h
                    have h9 := px_v1_some h
                    clear h
                    obtain ⟨y22, rfl, h⟩ := h9
                    refine e_l_V_store_13_24_46 K N a0 a1 N v14 (0 : Int32) s11 t12 _ hl20 _ _ ?_
                    show px_E px_ET px_P 12 187 74 [some (.ref 13), some (.int a0), some (.ref 24), some (.int a1), some (.int y22), none] [] (px_w K s18 t19) _ _
                    refine px_blkif (c := 0 ≤ y22) (t := 77) (e := 76) (L' := [some (.ref 13), some (.int a0), some (.ref 24), some (.int a1), some (.int y22), none]) (S' := []) (w' := px_w K s18 t19) (q := []) 2 hM rfl trivial (fun hc24 => ?_) (fun hc24 => ?_)
                    · rw [if_pos hc24] at h
                      refine px_blk (i' := 83) (L' := [some (.ref 13), some (.int a0), some (.ref 24), some (.int a1), some (.int y22), none]) (S' := [.int (s18.1 16), .int a0, .int y22, .ref 14]) (w' := px_w K s18 t19) (q := []) 6 hM rfl trivial ?_
                      rcases px_bv_some h with ⟨s25, t26, hk27, h⟩ | ⟨x29, s25, t26, hk27, h⟩
                      · refine px_E_call hM rfl rfl rfl rfl (px_E_mono (by decide) (e_S_setDirty_14 K N y22 a0 (s18.1 16) s18 t19 _ hk27)) ?_
                        obtain ⟨hq30, h⟩ := px_gd_some h
                        refine px_blk (i' := 90) (L' := [some (.ref 13), some (.int a0), some (.ref 24), some (.int a1), some (.int y22), none]) (S' := []) (w' := px_w K (sA s25 18 y22.toNatClampNeg (1 : Int32)) t26) (q := [vp_in y22 (K.2.2 18)]) 6 hM rfl (show vp_in y22 (K.2.2 18) from hq30) ?_
                        obtain ⟨s31, hs32, h⟩ := px_let_some h
                        rw [← hs32]
                        refine px_blk (i' := 96) (L' := [some (.ref 13), some (.int a0), some (.ref 24), some (.int a1), some (.int y22), none]) (S' := []) (w' := px_w K (sR s31 17 ((s31.1 17) + (1 : Int32))) t26) (q := []) 6 hM rfl trivial ?_
                        obtain ⟨s33, hs34, h⟩ := px_let_some h
                        rw [← hs34]
                        refine px_blk (i' := 103) (L' := [some (.ref 13), some (.int a0), some (.ref 24), some (.int a1), some (.int y22), none]) (S' := [.int a1, .ref 24, .int ((50 : Int32) + y22), .ref 8]) (w' := px_w K s33 t26) (q := []) 7 hM rfl trivial ?_
                        rcases px_bv_some h with ⟨s35, t36, hk37, h⟩ | ⟨x39, s35, t36, hk37, h⟩
                        · refine px_E_call hM rfl rfl rfl rfl (px_E_mono (by decide) (e_D_put_8_24 K N ((50 : Int32) + y22) a1 s33 t26 _ hk37)) ?_
                          cases h
                          exact px_E_ret hM rfl rfl rfl trivial
                        · cases h
                          exact px_E_callT hM rfl rfl rfl rfl (px_E_mono (by decide) (e_D_put_8_24 K N ((50 : Int32) + y22) a1 s33 t26 _ hk37)) rfl
                      · cases h
                    · rw [if_neg hc24] at h
                      cases h
                      exact px_E_ret hM rfl rfl rfl trivial
                  · rw [if_neg hi23] at h
                    cases h
                · cases h
                  exact e_l_V_store_13_24_46 K N a0 a1 N v14 (0 : Int32) s11 t12 _ hl20 _ _ ⟨rfl, rfl⟩
              · cases h
            · rw [if_neg hc10] at h
              refine px_blk (i' := 38) (L' := [some (.ref 13), some (.int a0), some (.ref 24), some (.int a1), some (.int v7), none]) (S' := [.ref 13]) (w' := px_w K s4 t5) (q := []) 1 hM rfl trivial ?_
              rcases px_bv_some h with ⟨s40, t41, hk42, h⟩ | ⟨x44, s40, t41, hk42, h⟩
              · refine px_E_call hM rfl rfl rfl rfl (px_E_mono (by decide) (e_V_close_13 K N s4 t5 _ hk42)) ?_
                refine px_blk (i' := 42) (L' := [some (.ref 13), some (.int a0), some (.ref 24), some (.int a1), some (.int v7), none]) (S' := [.int a0, .ref 14]) (w' := px_w K s40 t41) (q := []) 3 hM rfl trivial ?_
                rcases px_bi_some h with ⟨v48, s45, t46, hk47, h⟩ | ⟨x49, s45, t46, hk47, h⟩
                · refine px_E_call hM rfl rfl rfl rfl (px_E_mono (by decide) (e_S_toWrite_14 K N a0 s40 t41 _ hk47)) ?_
                  refine px_blk (i' := 46) (L' := [some (.ref 13), some (.int a0), some (.ref 24), some (.int a1), some (.int v48), some (.int (0 : Int32))]) (S' := []) (w' := px_w K s45 t46) (q := []) 3 hM rfl trivial ?_
                  rcases px_lp_some h with ⟨i50, vs51, s52, t53, hl54, h⟩ | ⟨z55, hl54, h⟩
                  · by_cases hi57 : i50 = 74
                    · subst hi57
                      rw [if_pos rfl] at h
                      have h9 := px_v1_some h
                      clear h
                      obtain ⟨y56, rfl, h⟩ := h9
                      refine e_l_V_store_13_24_46 K N a0 a1 N v48 (0 : Int32) s45 t46 _ hl54 _ _ ?_
                      show px_E px_ET px_P 12 187 74 [some (.ref 13), some (.int a0), some (.ref 24), some (.int a1), some (.int y56), none] [] (px_w K s52 t53) _ _
                      refine px_blkif (c := 0 ≤ y56) (t := 77) (e := 76) (L' := [some (.ref 13), some (.int a0), some (.ref 24), some (.int a1), some (.int y56), none]) (S' := []) (w' := px_w K s52 t53) (q := []) 2 hM rfl trivial (fun hc58 => ?_) (fun hc58 => ?_)
                      · rw [if_pos hc58] at h
                        refine px_blk (i' := 83) (L' := [some (.ref 13), some (.int a0), some (.ref 24), some (.int a1), some (.int y56), none]) (S' := [.int (s52.1 16), .int a0, .int y56, .ref 14]) (w' := px_w K s52 t53) (q := []) 6 hM rfl trivial ?_
                        rcases px_bv_some h with ⟨s59, t60, hk61, h⟩ | ⟨x63, s59, t60, hk61, h⟩
                        · refine px_E_call hM rfl rfl rfl rfl (px_E_mono (by decide) (e_S_setDirty_14 K N y56 a0 (s52.1 16) s52 t53 _ hk61)) ?_
                          obtain ⟨hq64, h⟩ := px_gd_some h
                          refine px_blk (i' := 90) (L' := [some (.ref 13), some (.int a0), some (.ref 24), some (.int a1), some (.int y56), none]) (S' := []) (w' := px_w K (sA s59 18 y56.toNatClampNeg (1 : Int32)) t60) (q := [vp_in y56 (K.2.2 18)]) 6 hM rfl (show vp_in y56 (K.2.2 18) from hq64) ?_
                          obtain ⟨s65, hs66, h⟩ := px_let_some h
                          rw [← hs66]
                          refine px_blk (i' := 96) (L' := [some (.ref 13), some (.int a0), some (.ref 24), some (.int a1), some (.int y56), none]) (S' := []) (w' := px_w K (sR s65 17 ((s65.1 17) + (1 : Int32))) t60) (q := []) 6 hM rfl trivial ?_
                          obtain ⟨s67, hs68, h⟩ := px_let_some h
                          rw [← hs68]
                          refine px_blk (i' := 103) (L' := [some (.ref 13), some (.int a0), some (.ref 24), some (.int a1), some (.int y56), none]) (S' := [.int a1, .ref 24, .int ((50 : Int32) + y56), .ref 8]) (w' := px_w K s67 t60) (q := []) 7 hM rfl trivial ?_
                          rcases px_bv_some h with ⟨s69, t70, hk71, h⟩ | ⟨x73, s69, t70, hk71, h⟩
                          · refine px_E_call hM rfl rfl rfl rfl (px_E_mono (by decide) (e_D_put_8_24 K N ((50 : Int32) + y56) a1 s67 t60 _ hk71)) ?_
                            cases h
                            exact px_E_ret hM rfl rfl rfl trivial
                          · cases h
                            exact px_E_callT hM rfl rfl rfl rfl (px_E_mono (by decide) (e_D_put_8_24 K N ((50 : Int32) + y56) a1 s67 t60 _ hk71)) rfl
                        · cases h
                      · rw [if_neg hc58] at h
                        cases h
                        exact px_E_ret hM rfl rfl rfl trivial
                    · rw [if_neg hi57] at h
                      cases h
                  · cases h
                    exact e_l_V_store_13_24_46 K N a0 a1 N v48 (0 : Int32) s45 t46 _ hl54 _ _ ⟨rfl, rfl⟩
                · cases h
              · cases h
                exact px_E_callT hM rfl rfl rfl rfl (px_E_mono (by decide) (e_V_close_13 K N s4 t5 _ hk42)) rfl
          · rw [if_neg hc9] at h
            obtain ⟨hq74, h⟩ := px_gd_some h
            refine px_blkif (c := ((s4.2.2.1 17) v7.toNatClampNeg) = (s4.1 16)) (t := 96) (e := 33) (L' := [some (.ref 13), some (.int a0), some (.ref 24), some (.int a1), some (.int v7), none]) (S' := []) (w' := px_w K s4 t5) (q := [vp_in v7 (K.2.2 17)]) 8 hM rfl (show vp_in v7 (K.2.2 17) from hq74) (fun hc75 => ?_) (fun hc75 => ?_)
            · rw [if_pos hc75] at h
              refine px_blk (i' := 103) (L' := [some (.ref 13), some (.int a0), some (.ref 24), some (.int a1), some (.int v7), none]) (S' := [.int a1, .ref 24, .int ((50 : Int32) + v7), .ref 8]) (w' := px_w K s4 t5) (q := []) 7 hM rfl trivial ?_
              rcases px_bv_some h with ⟨s76, t77, hk78, h⟩ | ⟨x80, s76, t77, hk78, h⟩
              · refine px_E_call hM rfl rfl rfl rfl (px_E_mono (by decide) (e_D_put_8_24 K N ((50 : Int32) + v7) a1 s4 t5 _ hk78)) ?_
                cases h
                exact px_E_ret hM rfl rfl rfl trivial
              · cases h
                exact px_E_callT hM rfl rfl rfl rfl (px_E_mono (by decide) (e_D_put_8_24 K N ((50 : Int32) + v7) a1 s4 t5 _ hk78)) rfl
            · rw [if_neg hc75] at h
              refine px_blkif (c := ¬ (s4.1 17) = (16 : Int32)) (t := 39) (e := 37) (L' := [some (.ref 13), some (.int a0), some (.ref 24), some (.int a1), some (.int v7), none]) (S' := []) (w' := px_w K s4 t5) (q := []) 4 hM rfl trivial (fun hc81 => ?_) (fun hc81 => ?_)
              · rw [if_pos hc81] at h
                refine px_blk (i' := 42) (L' := [some (.ref 13), some (.int a0), some (.ref 24), some (.int a1), some (.int v7), none]) (S' := [.int a0, .ref 14]) (w' := px_w K s4 t5) (q := []) 3 hM rfl trivial ?_
                rcases px_bi_some h with ⟨v85, s82, t83, hk84, h⟩ | ⟨x86, s82, t83, hk84, h⟩
                · refine px_E_call hM rfl rfl rfl rfl (px_E_mono (by decide) (e_S_toWrite_14 K N a0 s4 t5 _ hk84)) ?_
                  refine px_blk (i' := 46) (L' := [some (.ref 13), some (.int a0), some (.ref 24), some (.int a1), some (.int v85), some (.int (0 : Int32))]) (S' := []) (w' := px_w K s82 t83) (q := []) 3 hM rfl trivial ?_
                  rcases px_lp_some h with ⟨i87, vs88, s89, t90, hl91, h⟩ | ⟨z92, hl91, h⟩
                  · by_cases hi94 : i87 = 74
                    · subst hi94
                      rw [if_pos rfl] at h
                      have h9 := px_v1_some h
                      clear h
                      obtain ⟨y93, rfl, h⟩ := h9
                      refine e_l_V_store_13_24_46 K N a0 a1 N v85 (0 : Int32) s82 t83 _ hl91 _ _ ?_
                      show px_E px_ET px_P 12 187 74 [some (.ref 13), some (.int a0), some (.ref 24), some (.int a1), some (.int y93), none] [] (px_w K s89 t90) _ _
                      refine px_blkif (c := 0 ≤ y93) (t := 77) (e := 76) (L' := [some (.ref 13), some (.int a0), some (.ref 24), some (.int a1), some (.int y93), none]) (S' := []) (w' := px_w K s89 t90) (q := []) 2 hM rfl trivial (fun hc95 => ?_) (fun hc95 => ?_)
                      · rw [if_pos hc95] at h
                        refine px_blk (i' := 83) (L' := [some (.ref 13), some (.int a0), some (.ref 24), some (.int a1), some (.int y93), none]) (S' := [.int (s89.1 16), .int a0, .int y93, .ref 14]) (w' := px_w K s89 t90) (q := []) 6 hM rfl trivial ?_
                        rcases px_bv_some h with ⟨s96, t97, hk98, h⟩ | ⟨x100, s96, t97, hk98, h⟩
                        · refine px_E_call hM rfl rfl rfl rfl (px_E_mono (by decide) (e_S_setDirty_14 K N y93 a0 (s89.1 16) s89 t90 _ hk98)) ?_
                          obtain ⟨hq101, h⟩ := px_gd_some h
                          refine px_blk (i' := 90) (L' := [some (.ref 13), some (.int a0), some (.ref 24), some (.int a1), some (.int y93), none]) (S' := []) (w' := px_w K (sA s96 18 y93.toNatClampNeg (1 : Int32)) t97) (q := [vp_in y93 (K.2.2 18)]) 6 hM rfl (show vp_in y93 (K.2.2 18) from hq101) ?_
                          obtain ⟨s102, hs103, h⟩ := px_let_some h
                          rw [← hs103]
                          refine px_blk (i' := 96) (L' := [some (.ref 13), some (.int a0), some (.ref 24), some (.int a1), some (.int y93), none]) (S' := []) (w' := px_w K (sR s102 17 ((s102.1 17) + (1 : Int32))) t97) (q := []) 6 hM rfl trivial ?_
                          obtain ⟨s104, hs105, h⟩ := px_let_some h
                          rw [← hs105]
                          refine px_blk (i' := 103) (L' := [some (.ref 13), some (.int a0), some (.ref 24), some (.int a1), some (.int y93), none]) (S' := [.int a1, .ref 24, .int ((50 : Int32) + y93), .ref 8]) (w' := px_w K s104 t97) (q := []) 7 hM rfl trivial ?_
                          rcases px_bv_some h with ⟨s106, t107, hk108, h⟩ | ⟨x110, s106, t107, hk108, h⟩
                          · refine px_E_call hM rfl rfl rfl rfl (px_E_mono (by decide) (e_D_put_8_24 K N ((50 : Int32) + y93) a1 s104 t97 _ hk108)) ?_
                            cases h
                            exact px_E_ret hM rfl rfl rfl trivial
                          · cases h
                            exact px_E_callT hM rfl rfl rfl rfl (px_E_mono (by decide) (e_D_put_8_24 K N ((50 : Int32) + y93) a1 s104 t97 _ hk108)) rfl
                        · cases h
                      · rw [if_neg hc95] at h
                        cases h
                        exact px_E_ret hM rfl rfl rfl trivial
                    · rw [if_neg hi94] at h
                      cases h
                  · cases h
                    exact e_l_V_store_13_24_46 K N a0 a1 N v85 (0 : Int32) s82 t83 _ hl91 _ _ ⟨rfl, rfl⟩
                · cases h
              · rw [if_neg hc81] at h
                refine px_blk (i' := 38) (L' := [some (.ref 13), some (.int a0), some (.ref 24), some (.int a1), some (.int v7), none]) (S' := [.ref 13]) (w' := px_w K s4 t5) (q := []) 1 hM rfl trivial ?_
                rcases px_bv_some h with ⟨s111, t112, hk113, h⟩ | ⟨x115, s111, t112, hk113, h⟩
                · refine px_E_call hM rfl rfl rfl rfl (px_E_mono (by decide) (e_V_close_13 K N s4 t5 _ hk113)) ?_
                  refine px_blk (i' := 42) (L' := [some (.ref 13), some (.int a0), some (.ref 24), some (.int a1), some (.int v7), none]) (S' := [.int a0, .ref 14]) (w' := px_w K s111 t112) (q := []) 3 hM rfl trivial ?_
                  rcases px_bi_some h with ⟨v119, s116, t117, hk118, h⟩ | ⟨x120, s116, t117, hk118, h⟩
                  · refine px_E_call hM rfl rfl rfl rfl (px_E_mono (by decide) (e_S_toWrite_14 K N a0 s111 t112 _ hk118)) ?_
                    refine px_blk (i' := 46) (L' := [some (.ref 13), some (.int a0), some (.ref 24), some (.int a1), some (.int v119), some (.int (0 : Int32))]) (S' := []) (w' := px_w K s116 t117) (q := []) 3 hM rfl trivial ?_
                    rcases px_lp_some h with ⟨i121, vs122, s123, t124, hl125, h⟩ | ⟨z126, hl125, h⟩
                    · by_cases hi128 : i121 = 74
                      · subst hi128
                        rw [if_pos rfl] at h
                        have h9 := px_v1_some h
                        clear h
                        obtain ⟨y127, rfl, h⟩ := h9
                        refine e_l_V_store_13_24_46 K N a0 a1 N v119 (0 : Int32) s116 t117 _ hl125 _ _ ?_
                        show px_E px_ET px_P 12 187 74 [some (.ref 13), some (.int a0), some (.ref 24), some (.int a1), some (.int y127), none] [] (px_w K s123 t124) _ _
                        refine px_blkif (c := 0 ≤ y127) (t := 77) (e := 76) (L' := [some (.ref 13), some (.int a0), some (.ref 24), some (.int a1), some (.int y127), none]) (S' := []) (w' := px_w K s123 t124) (q := []) 2 hM rfl trivial (fun hc129 => ?_) (fun hc129 => ?_)
                        · rw [if_pos hc129] at h
                          refine px_blk (i' := 83) (L' := [some (.ref 13), some (.int a0), some (.ref 24), some (.int a1), some (.int y127), none]) (S' := [.int (s123.1 16), .int a0, .int y127, .ref 14]) (w' := px_w K s123 t124) (q := []) 6 hM rfl trivial ?_
                          rcases px_bv_some h with ⟨s130, t131, hk132, h⟩ | ⟨x134, s130, t131, hk132, h⟩
                          · refine px_E_call hM rfl rfl rfl rfl (px_E_mono (by decide) (e_S_setDirty_14 K N y127 a0 (s123.1 16) s123 t124 _ hk132)) ?_
                            obtain ⟨hq135, h⟩ := px_gd_some h
                            refine px_blk (i' := 90) (L' := [some (.ref 13), some (.int a0), some (.ref 24), some (.int a1), some (.int y127), none]) (S' := []) (w' := px_w K (sA s130 18 y127.toNatClampNeg (1 : Int32)) t131) (q := [vp_in y127 (K.2.2 18)]) 6 hM rfl (show vp_in y127 (K.2.2 18) from hq135) ?_
                            obtain ⟨s136, hs137, h⟩ := px_let_some h
                            rw [← hs137]
                            refine px_blk (i' := 96) (L' := [some (.ref 13), some (.int a0), some (.ref 24), some (.int a1), some (.int y127), none]) (S' := []) (w' := px_w K (sR s136 17 ((s136.1 17) + (1 : Int32))) t131) (q := []) 6 hM rfl trivial ?_
                            obtain ⟨s138, hs139, h⟩ := px_let_some h
                            rw [← hs139]
                            refine px_blk (i' := 103) (L' := [some (.ref 13), some (.int a0), some (.ref 24), some (.int a1), some (.int y127), none]) (S' := [.int a1, .ref 24, .int ((50 : Int32) + y127), .ref 8]) (w' := px_w K s138 t131) (q := []) 7 hM rfl trivial ?_
                            rcases px_bv_some h with ⟨s140, t141, hk142, h⟩ | ⟨x144, s140, t141, hk142, h⟩
                            · refine px_E_call hM rfl rfl rfl rfl (px_E_mono (by decide) (e_D_put_8_24 K N ((50 : Int32) + y127) a1 s138 t131 _ hk142)) ?_
                              cases h
                              exact px_E_ret hM rfl rfl rfl trivial
                            · cases h
                              exact px_E_callT hM rfl rfl rfl rfl (px_E_mono (by decide) (e_D_put_8_24 K N ((50 : Int32) + y127) a1 s138 t131 _ hk142)) rfl
                          · cases h
                        · rw [if_neg hc129] at h
                          cases h
                          exact px_E_ret hM rfl rfl rfl trivial
                      · rw [if_neg hi128] at h
                        cases h
                    · cases h
                      exact e_l_V_store_13_24_46 K N a0 a1 N v119 (0 : Int32) s116 t117 _ hl125 _ _ ⟨rfl, rfl⟩
                  · cases h
                · cases h
                  exact px_E_callT hM rfl rfl rfl rfl (px_E_mono (by decide) (e_V_close_13 K N s4 t5 _ hk113)) rfl
        · cases h
      · rw [if_neg hc3] at h
        refine px_blk (i' := 16) (L' := [some (.ref 13), some (.int a0), some (.ref 24), some (.int a1), none, none]) (S' := [.int a1, .ref 24, .int ((19 : Int32) + a0), .ref 3]) (w' := px_w K s t) (q := []) 7 hM rfl trivial ?_
        rcases px_bv_some h with ⟨s145, t146, hk147, h⟩ | ⟨x149, s145, t146, hk147, h⟩
        · refine px_E_call hM rfl rfl rfl rfl (px_E_mono (by decide) (e_D_put_3_24 K N ((19 : Int32) + a0) a1 s t _ hk147)) ?_
          cases h
          exact px_E_ret hM rfl rfl rfl trivial
        · cases h
          exact px_E_callT hM rfl rfl rfl rfl (px_E_mono (by decide) (e_D_put_3_24 K N ((19 : Int32) + a0) a1 s t _ hk147)) rfl
    · rw [if_neg hc2] at h
      cases h
      exact px_E_ret hM rfl rfl rfl trivial
noncomputable def l_T_keepNone_22_2 (K : px_K) (N : Nat) (n : Nat) (m1 : Int32) (s : px_S) (t : px_W) : Option px_LO := match n with
  | 0 => none
  | n + 1 => (if (106 : Int32) ≤ m1 then (some (.inl (12, [], s, t))) else (px_gd (vp_in m1 (K.2.2 26)) (px_let (sA s 26 m1.toNatClampNeg (0 : Int32)) (fun s3 => (l_T_keepNone_22_2 K N n (m1 + (1 : Int32)) s3 t)))))
def a_l_T_keepNone_22_2 (K : px_K) (z : px_LO) (o : Option Value ⊕ Nat) (w2 : px_W) : Prop := match z with
  | .inr (o', s', t') => o = o' ∧ w2 = px_w K s' t'
  | .inl (12, [], s', t') => px_E px_ET px_P 1 174 12 [some (.ref 22), none] [] (px_w K s' t') o w2
  | _ => False
set_option maxRecDepth 100000 in
theorem e_l_T_keepNone_22_2 (K : px_K) (N : Nat) : ∀ (n : Nat) (m1 : Int32) (s : px_S) (t : px_W) (z : px_LO), l_T_keepNone_22_2 K N n m1 s t = some z → ∀ (o : Option Value ⊕ Nat) (w2 : px_W), a_l_T_keepNone_22_2 K z o w2 → px_E px_ET px_P 1 174 2 [some (.ref 22), some (.int m1)] [] (px_w K s t) o w2 := by
  have hM : px_P[174]? = some pm_T_keepNone := rfl
  intro n
  induction n with
  | zero => intro m1 s t z h; cases h
  | succ n ih =>
    intro m1 s t z h o w2 ha
    unfold l_T_keepNone_22_2 at h
    refine px_blkif (c := (106 : Int32) ≤ m1) (t := 12) (e := 5) (L' := [some (.ref 22), some (.int m1)]) (S' := []) (w' := px_w K s t) (q := []) 3 hM rfl trivial (fun hc1 => ?_) (fun hc1 => ?_)
    · rw [if_pos hc1] at h
      cases h
      exact px_E_le (px_leC_L _ _ (by simp [px_leC, px_le1, Value.category])) ha
    · rw [if_neg hc1] at h
      obtain ⟨hq2, h⟩ := px_gd_some h
      refine px_blk (i' := 10) (L' := [some (.ref 22), some (.int m1)]) (S' := []) (w' := px_w K (sA s 26 m1.toNatClampNeg (0 : Int32)) t) (q := [vp_in m1 (K.2.2 26), (0 : Int32) = 0 ∨ (0 : Int32) = 1]) 5 hM rfl (show (vp_in m1 (K.2.2 26)) ∧ ((0 : Int32) = 0 ∨ (0 : Int32) = 1) from ⟨hq2, Or.inl rfl⟩) ?_
      obtain ⟨s3, hs4, h⟩ := px_let_some h
      rw [← hs4]
      refine px_blk (i' := 2) (L' := [some (.ref 22), some (.int (m1 + (1 : Int32)))]) (S' := []) (w' := px_w K s3 t) (q := []) 2 hM rfl trivial ?_
      exact ih (m1 + (1 : Int32)) s3 t z h o w2 ha
noncomputable def f_T_keepNone_22 (K : px_K) (N : Nat) (s : px_S) (t : px_W) : Option px_Res :=
  (px_lp (l_T_keepNone_22_2 K N N (0 : Int32) s t) (fun i1 vs2 s3 t4 => (if i1 = 12 then (px_v0 vs2 (px_let (sR s3 22 (0 : Int32)) (fun s8 => (px_let (sR s8 24 (0 : Int32)) (fun s10 => (some (.inl none, s10, t4))))))) else none)) (fun z6 => some z6))
set_option maxRecDepth 100000 in
theorem e_T_keepNone_22 (K : px_K) (N : Nat) (s : px_S) (t : px_W) (r : px_Res) (h : f_T_keepNone_22 K N s t = some r) : px_E px_ET px_P 1 174 0 (px_ent 2 [.ref 22]) [] (px_w K s t) r.1 (px_w K r.2.1 r.2.2) := by
  have hM : px_P[174]? = some pm_T_keepNone := rfl
  unfold f_T_keepNone_22 at h
  refine px_blk (i' := 2) (L' := [some (.ref 22), some (.int (0 : Int32))]) (S' := []) (w' := px_w K s t) (q := []) 2 hM rfl trivial ?_
  rcases px_lp_some h with ⟨i1, vs2, s3, t4, hl5, h⟩ | ⟨z6, hl5, h⟩
  · by_cases hi7 : i1 = 12
    · subst hi7
      rw [if_pos rfl] at h
      have h9 := px_v0_some h
      clear h
      obtain ⟨rfl, h⟩ := h9
      refine e_l_T_keepNone_22_2 K N N (0 : Int32) s t _ hl5 _ _ ?_
      show px_E px_ET px_P 1 174 12 [some (.ref 22), none] [] (px_w K s3 t4) _ _
      refine px_blk (i' := 15) (L' := [some (.ref 22), none]) (S' := []) (w' := px_w K (sR s3 22 (0 : Int32)) t4) (q := []) 3 hM rfl trivial ?_
      obtain ⟨s8, hs9, h⟩ := px_let_some h
      rw [← hs9]
      refine px_blk (i' := 18) (L' := [some (.ref 22), none]) (S' := []) (w' := px_w K (sR s8 24 (0 : Int32)) t4) (q := []) 3 hM rfl trivial ?_
      obtain ⟨s10, hs11, h⟩ := px_let_some h
      rw [← hs11]
      cases h
      exact px_E_ret hM rfl rfl rfl trivial
    · rw [if_neg hi7] at h
      cases h
  · cases h
    exact e_l_T_keepNone_22_2 K N N (0 : Int32) s t _ hl5 _ _ ⟨rfl, rfl⟩
noncomputable def l_T_bringHome_22_6 (K : px_K) (N : Nat) (n : Nat) (m1 : Int32) (s : px_S) (t : px_W) : Option px_LO := match n with
  | 0 => none
  | n + 1 => (if (106 : Int32) ≤ m1 then (some (.inl (25, [], s, t))) else (px_gd (vp_in m1 (K.2.2 26)) (if ((s.2.2.1 26) m1.toNatClampNeg) = 0 then (l_T_bringHome_22_6 K N n (m1 + (1 : Int32)) s t) else (px_bv (f_V_store_13_24 K N m1 (m1 * (16 : Int32)) s t) (fun s4 t5 => (l_T_bringHome_22_6 K N n (m1 + (1 : Int32)) s4 t5)) (fun x8 s4 t5 => (some (.inr (.inr x8, s4, t5))))))))
def a_l_T_bringHome_22_6 (K : px_K) (z : px_LO) (o : Option Value ⊕ Nat) (w2 : px_W) : Prop := match z with
  | .inr (o', s', t') => o = o' ∧ w2 = px_w K s' t'
  | .inl (25, [], s', t') => px_E px_ET px_P 13 173 25 [some (.ref 22), none] [] (px_w K s' t') o w2
  | _ => False
set_option maxRecDepth 100000 in
theorem e_l_T_bringHome_22_6 (K : px_K) (N : Nat) : ∀ (n : Nat) (m1 : Int32) (s : px_S) (t : px_W) (z : px_LO), l_T_bringHome_22_6 K N n m1 s t = some z → ∀ (o : Option Value ⊕ Nat) (w2 : px_W), a_l_T_bringHome_22_6 K z o w2 → px_E px_ET px_P 13 173 6 [some (.ref 22), some (.int m1)] [] (px_w K s t) o w2 := by
  have hM : px_P[173]? = some pm_T_bringHome := rfl
  intro n
  induction n with
  | zero => intro m1 s t z h; cases h
  | succ n ih =>
    intro m1 s t z h o w2 ha
    unfold l_T_bringHome_22_6 at h
    refine px_blkif (c := (106 : Int32) ≤ m1) (t := 25) (e := 9) (L' := [some (.ref 22), some (.int m1)]) (S' := []) (w' := px_w K s t) (q := []) 3 hM rfl trivial (fun hc1 => ?_) (fun hc1 => ?_)
    · rw [if_pos hc1] at h
      cases h
      exact px_E_le (px_leC_L _ _ (by simp [px_leC, px_le1, Value.category])) ha
    · rw [if_neg hc1] at h
      obtain ⟨hq2, h⟩ := px_gd_some h
      refine px_blkif (c := ((s.2.2.1 26) m1.toNatClampNeg) = 0) (t := 23) (e := 14) (L' := [some (.ref 22), some (.int m1)]) (S' := []) (w' := px_w K s t) (q := [vp_in m1 (K.2.2 26)]) 5 hM rfl (show vp_in m1 (K.2.2 26) from hq2) (fun hc3 => ?_) (fun hc3 => ?_)
      · rw [if_pos hc3] at h
        refine px_blk (i' := 6) (L' := [some (.ref 22), some (.int (m1 + (1 : Int32)))]) (S' := []) (w' := px_w K s t) (q := []) 2 hM rfl trivial ?_
        exact ih (m1 + (1 : Int32)) s t z h o w2 ha
      · rw [if_neg hc3] at h
        refine px_blk (i' := 22) (L' := [some (.ref 22), some (.int m1)]) (S' := [.int (m1 * (16 : Int32)), .ref 24, .int m1, .ref 13]) (w' := px_w K s t) (q := []) 8 hM rfl trivial ?_
        rcases px_bv_some h with ⟨s4, t5, hk6, h⟩ | ⟨x8, s4, t5, hk6, h⟩
        · refine px_E_call hM rfl rfl rfl rfl (px_E_mono (by decide) (e_V_store_13_24 K N m1 (m1 * (16 : Int32)) s t _ hk6)) ?_
          refine px_blk (i' := 6) (L' := [some (.ref 22), some (.int (m1 + (1 : Int32)))]) (S' := []) (w' := px_w K s4 t5) (q := []) 2 hM rfl trivial ?_
          exact ih (m1 + (1 : Int32)) s4 t5 z h o w2 ha
        · cases h
          obtain ⟨rfl, rfl⟩ := ha
          exact px_E_callT hM rfl rfl rfl rfl (px_E_mono (by decide) (e_V_store_13_24 K N m1 (m1 * (16 : Int32)) s t _ hk6)) rfl
noncomputable def f_T_bringHome_22 (K : px_K) (N : Nat) (s : px_S) (t : px_W) : Option px_Res :=
  (if ¬ (s.1 22) = 0 then (px_lp (l_T_bringHome_22_6 K N N (0 : Int32) s t) (fun i2 vs3 s4 t5 => (if i2 = 25 then (px_v0 vs3 (px_bv (f_V_flushAll_13 K N s4 t5) (fun s9 t10 => (px_bv (f_Arrays_fill_27 K N (0 : Int32) s9 t10) (fun s14 t15 => (px_gd (vp_in (0 : Int32) (K.2.2 27)) (px_let (sA s14 27 (0 : Int32).toNatClampNeg (s14.1 23)) (fun s20 => (px_bv (f_V_store_13_27 K N (0 : Int32) (0 : Int32) s20 t15) (fun s22 t23 => (px_bv (f_V_flushAll_13 K N s22 t23) (fun s27 t28 => (px_bv (f_T_keepNone_22 K N s27 t28) (fun s32 t33 => (some (.inl none, s32, t33))) (fun x36 s32 t33 => none))) (fun x31 s27 t28 => (some (.inr x31, s27, t28))))) (fun x26 s22 t23 => (some (.inr x26, s22, t23)))))))) (fun x18 s14 t15 => none))) (fun x13 s9 t10 => (some (.inr x13, s9, t10))))) else none)) (fun z7 => some z7)) else (some (.inl none, s, t)))
set_option maxRecDepth 100000 in
theorem e_T_bringHome_22 (K : px_K) (N : Nat) (s : px_S) (t : px_W) (r : px_Res) (h : f_T_bringHome_22 K N s t = some r) : px_E px_ET px_P 13 173 0 (px_ent 2 [.ref 22]) [] (px_w K s t) r.1 (px_w K r.2.1 r.2.2) := by
  have hM : px_P[173]? = some pm_T_bringHome := rfl
  unfold f_T_bringHome_22 at h
  refine px_blkif (c := ¬ (s.1 22) = 0) (t := 4) (e := 3) (L' := [some (.ref 22), none]) (S' := []) (w' := px_w K s t) (q := []) 3 hM rfl trivial (fun hc1 => ?_) (fun hc1 => ?_)
  · rw [if_pos hc1] at h
    refine px_blk (i' := 6) (L' := [some (.ref 22), some (.int (0 : Int32))]) (S' := []) (w' := px_w K s t) (q := []) 2 hM rfl trivial ?_
    rcases px_lp_some h with ⟨i2, vs3, s4, t5, hl6, h⟩ | ⟨z7, hl6, h⟩
    · by_cases hi8 : i2 = 25
      · subst hi8
        rw [if_pos rfl] at h
        have h9 := px_v0_some h
        clear h
        obtain ⟨rfl, h⟩ := h9
        refine e_l_T_bringHome_22_6 K N N (0 : Int32) s t _ hl6 _ _ ?_
        show px_E px_ET px_P 13 173 25 [some (.ref 22), none] [] (px_w K s4 t5) _ _
        refine px_blk (i' := 27) (L' := [some (.ref 22), none]) (S' := [.ref 13]) (w' := px_w K s4 t5) (q := []) 2 hM rfl trivial ?_
        rcases px_bv_some h with ⟨s9, t10, hk11, h⟩ | ⟨x13, s9, t10, hk11, h⟩
        · refine px_E_call hM rfl rfl rfl rfl (px_E_mono (by decide) (e_V_flushAll_13 K N s4 t5 _ hk11)) ?_
          refine px_blk (i' := 31) (L' := [some (.ref 22), none]) (S' := [.int (0 : Int32), .ref 27]) (w' := px_w K s9 t10) (q := []) 3 hM rfl trivial ?_
          rcases px_bv_some h with ⟨s14, t15, hk16, h⟩ | ⟨x18, s14, t15, hk16, h⟩
          · refine px_E_call hM rfl rfl rfl rfl (px_E_mono (by decide) (e_Arrays_fill_27 K N (0 : Int32) s9 t10 _ hk16)) ?_
            obtain ⟨hq19, h⟩ := px_gd_some h
            refine px_blk (i' := 38) (L' := [some (.ref 22), none]) (S' := []) (w' := px_w K (sA s14 27 (0 : Int32).toNatClampNeg (s14.1 23)) t15) (q := [vp_in (0 : Int32) (K.2.2 27)]) 6 hM rfl (show vp_in (0 : Int32) (K.2.2 27) from hq19) ?_
            obtain ⟨s20, hs21, h⟩ := px_let_some h
            rw [← hs21]
            refine px_blk (i' := 44) (L' := [some (.ref 22), none]) (S' := [.int (0 : Int32), .ref 27, .int (0 : Int32), .ref 13]) (w' := px_w K s20 t15) (q := []) 6 hM rfl trivial ?_
            rcases px_bv_some h with ⟨s22, t23, hk24, h⟩ | ⟨x26, s22, t23, hk24, h⟩
            · refine px_E_call hM rfl rfl rfl rfl (px_E_mono (by decide) (e_V_store_13_27 K N (0 : Int32) (0 : Int32) s20 t15 _ hk24)) ?_
              refine px_blk (i' := 47) (L' := [some (.ref 22), none]) (S' := [.ref 13]) (w' := px_w K s22 t23) (q := []) 2 hM rfl trivial ?_
              rcases px_bv_some h with ⟨s27, t28, hk29, h⟩ | ⟨x31, s27, t28, hk29, h⟩
              · refine px_E_call hM rfl rfl rfl rfl (px_E_mono (by decide) (e_V_flushAll_13 K N s22 t23 _ hk29)) ?_
                refine px_blk (i' := 49) (L' := [some (.ref 22), none]) (S' := [.ref 22]) (w' := px_w K s27 t28) (q := []) 1 hM rfl trivial ?_
                rcases px_bv_some h with ⟨s32, t33, hk34, h⟩ | ⟨x36, s32, t33, hk34, h⟩
                · refine px_E_call hM rfl rfl rfl rfl (px_E_mono (by decide) (e_T_keepNone_22 K N s27 t28 _ hk34)) ?_
                  cases h
                  exact px_E_ret hM rfl rfl rfl trivial
                · cases h
              · cases h
                exact px_E_callT hM rfl rfl rfl rfl (px_E_mono (by decide) (e_V_flushAll_13 K N s22 t23 _ hk29)) rfl
            · cases h
              exact px_E_callT hM rfl rfl rfl rfl (px_E_mono (by decide) (e_V_store_13_27 K N (0 : Int32) (0 : Int32) s20 t15 _ hk24)) rfl
          · cases h
        · cases h
          exact px_E_callT hM rfl rfl rfl rfl (px_E_mono (by decide) (e_V_flushAll_13 K N s4 t5 _ hk11)) rfl
      · rw [if_neg hi8] at h
        cases h
    · cases h
      exact e_l_T_bringHome_22_6 K N N (0 : Int32) s t _ hl6 _ _ ⟨rfl, rfl⟩
  · rw [if_neg hc1] at h
    cases h
    exact px_E_ret hM rfl rfl rfl trivial
noncomputable def l_T_commitAbove_22_34 (K : px_K) (N : Nat) (n : Nat) (u2 : Int32) (m3 : Int32) (m4 : Int32) (s : px_S) (t : px_W) : Option px_LO := match n with
  | 0 => none
  | n + 1 => (if (106 : Int32) ≤ m4 then (some (.inl (79, [m3], s, t))) else (px_gd (vp_in m4 (K.2.2 25)) (if ((s.2.2.1 25) m4.toNatClampNeg) = 0 then (l_T_commitAbove_22_34 K N n u2 m3 (m4 + (1 : Int32)) s t) else (px_gd (¬ (m4 * (16 : Int32)) < 0 ∧ ¬ (0 : Int32) < 0 ∧ ¬ (16 : Int32) < 0 ∧ (m4 * (16 : Int32)).toNatClampNeg + (16 : Int32).toNatClampNeg ≤ K.2.2 23 ∧ (0 : Int32).toNatClampNeg + (16 : Int32).toNatClampNeg ≤ K.2.2 27) (px_let (sF s 27 (va_cpy (s.2.2.1 23) (s.2.2.1 27) (m4 * (16 : Int32)).toNatClampNeg (0 : Int32).toNatClampNeg (16 : Int32).toNatClampNeg)) (fun s5 => (px_gd (vp_in (0 : Int32) (K.2.2 27)) (px_bi (f_T_looksLikeJournal_22 K N ((s5.2.2.1 27) (0 : Int32).toNatClampNeg) s5 t) (fun v11 s8 t9 => (if v11 = 0 then (px_gd ((vp_in (0 : Int32) (K.2.2 27)) ∧ (vp_in (0 : Int32) (K.2.2 27))) (px_let (sA s8 27 (0 : Int32).toNatClampNeg ((s8.2.2.1 27) (0 : Int32).toNatClampNeg)) (fun s16 => (px_bv (f_V_store_13_27 K N (m3 + (1 : Int32)) (0 : Int32) s16 t9) (fun s18 t19 => (l_T_commitAbove_22_34 K N n u2 (m3 + (1 : Int32)) (m4 + (1 : Int32)) s18 t19)) (fun x22 s18 t19 => (some (.inr (.inr x22, s18, t19)))))))) else (px_gd (vp_in (0 : Int32) (K.2.2 27)) (px_let (sA s8 27 (0 : Int32).toNatClampNeg (0 : Int32)) (fun s24 => (px_bv (f_V_store_13_27 K N (m3 + (1 : Int32)) (0 : Int32) s24 t9) (fun s26 t27 => (l_T_commitAbove_22_34 K N n u2 (m3 + (1 : Int32)) (m4 + (1 : Int32)) s26 t27)) (fun x30 s26 t27 => (some (.inr (.inr x30, s26, t27)))))))))) (fun x12 s8 t9 => none)))))))))
def a_l_T_commitAbove_22_34 (K : px_K) (u2 : Int32) (z : px_LO) (o : Option Value ⊕ Nat) (w2 : px_W) : Prop := match z with
  | .inr (o', s', t') => o = o' ∧ w2 = px_w K s' t'
  | .inl (79, [y3], s', t') => px_E px_ET px_P 14 168 79 [some (.ref 22), none, some (.int u2), some (.int y3), none] [] (px_w K s' t') o w2
  | _ => False
set_option maxRecDepth 100000 in
theorem e_l_T_commitAbove_22_34 (K : px_K) (N : Nat) (u2 : Int32) : ∀ (n : Nat) (m3 : Int32) (m4 : Int32) (s : px_S) (t : px_W) (z : px_LO), l_T_commitAbove_22_34 K N n u2 m3 m4 s t = some z → ∀ (o : Option Value ⊕ Nat) (w2 : px_W), a_l_T_commitAbove_22_34 K u2 z o w2 → px_E px_ET px_P 14 168 34 [some (.ref 22), none, some (.int u2), some (.int m3), some (.int m4)] [] (px_w K s t) o w2 := by
  have hM : px_P[168]? = some pm_T_commitAbove := rfl
  intro n
  induction n with
  | zero => intro m3 m4 s t z h; cases h
  | succ n ih =>
    intro m3 m4 s t z h o w2 ha
    unfold l_T_commitAbove_22_34 at h
    refine px_blkif (c := (106 : Int32) ≤ m4) (t := 79) (e := 37) (L' := [some (.ref 22), none, some (.int u2), some (.int m3), some (.int m4)]) (S' := []) (w' := px_w K s t) (q := []) 3 hM rfl trivial (fun hc1 => ?_) (fun hc1 => ?_)
    · rw [if_pos hc1] at h
      cases h
      exact px_E_le (px_leC_L _ _ (by simp [px_leC, px_le1, Value.category])) ha
    · rw [if_neg hc1] at h
      obtain ⟨hq2, h⟩ := px_gd_some h
      refine px_blkif (c := ((s.2.2.1 25) m4.toNatClampNeg) = 0) (t := 77) (e := 42) (L' := [some (.ref 22), none, some (.int u2), some (.int m3), some (.int m4)]) (S' := []) (w' := px_w K s t) (q := [vp_in m4 (K.2.2 25)]) 5 hM rfl (show vp_in m4 (K.2.2 25) from hq2) (fun hc3 => ?_) (fun hc3 => ?_)
      · rw [if_pos hc3] at h
        refine px_blk (i' := 34) (L' := [some (.ref 22), none, some (.int u2), some (.int m3), some (.int (m4 + (1 : Int32)))]) (S' := []) (w' := px_w K s t) (q := []) 2 hM rfl trivial ?_
        exact ih m3 (m4 + (1 : Int32)) s t z h o w2 ha
      · rw [if_neg hc3] at h
        obtain ⟨hq4, h⟩ := px_gd_some h
        refine px_blk (i' := 53) (L' := [some (.ref 22), none, some (.int u2), some (.int (m3 + (1 : Int32))), some (.int m4)]) (S' := []) (w' := px_w K (sF s 27 (va_cpy (s.2.2.1 23) (s.2.2.1 27) (m4 * (16 : Int32)).toNatClampNeg (0 : Int32).toNatClampNeg (16 : Int32).toNatClampNeg)) t) (q := [¬ (m4 * (16 : Int32)) < 0 ∧ ¬ (0 : Int32) < 0 ∧ ¬ (16 : Int32) < 0 ∧ (m4 * (16 : Int32)).toNatClampNeg + (16 : Int32).toNatClampNeg ≤ K.2.2 23 ∧ (0 : Int32).toNatClampNeg + (16 : Int32).toNatClampNeg ≤ K.2.2 27]) 11 hM rfl (show ¬ (m4 * (16 : Int32)) < 0 ∧ ¬ (0 : Int32) < 0 ∧ ¬ (16 : Int32) < 0 ∧ (m4 * (16 : Int32)).toNatClampNeg + (16 : Int32).toNatClampNeg ≤ K.2.2 23 ∧ (0 : Int32).toNatClampNeg + (16 : Int32).toNatClampNeg ≤ K.2.2 27 from hq4) ?_
        obtain ⟨s5, hs6, h⟩ := px_let_some h
        rw [← hs6]
        obtain ⟨hq7, h⟩ := px_gd_some h
        refine px_blk (i' := 61) (L' := [some (.ref 22), none, some (.int u2), some (.int (m3 + (1 : Int32))), some (.int m4)]) (S' := [.int ((s5.2.2.1 27) (0 : Int32).toNatClampNeg), .ref 22, .int (0 : Int32), .ref 27]) (w' := px_w K s5 t) (q := [vp_in (0 : Int32) (K.2.2 27)]) 8 hM rfl (show vp_in (0 : Int32) (K.2.2 27) from hq7) ?_
        rcases px_bi_some h with ⟨v11, s8, t9, hk10, h⟩ | ⟨x12, s8, t9, hk10, h⟩
        · refine px_E_call hM rfl rfl rfl rfl (px_E_mono (by decide) (e_T_looksLikeJournal_22 K N ((s5.2.2.1 27) (0 : Int32).toNatClampNeg) s5 t _ hk10)) ?_
          refine px_blkif (c := v11 = 0) (t := 65) (e := 63) (L' := [some (.ref 22), none, some (.int u2), some (.int (m3 + (1 : Int32))), some (.int m4)]) (S' := [.int (0 : Int32), .ref 27]) (w' := px_w K s8 t9) (q := []) 1 hM rfl trivial (fun hc13 => ?_) (fun hc13 => ?_)
          · rw [if_pos hc13] at h
            obtain ⟨⟨hq14, hq15⟩, h⟩ := px_gd_some h
            refine px_blk (i' := 70) (L' := [some (.ref 22), none, some (.int u2), some (.int (m3 + (1 : Int32))), some (.int m4)]) (S' := []) (w' := px_w K (sA s8 27 (0 : Int32).toNatClampNeg ((s8.2.2.1 27) (0 : Int32).toNatClampNeg)) t9) (q := [vp_in (0 : Int32) (K.2.2 27), vp_in (0 : Int32) (K.2.2 27)]) 5 hM rfl (show (vp_in (0 : Int32) (K.2.2 27)) ∧ (vp_in (0 : Int32) (K.2.2 27)) from ⟨hq14, hq15⟩) ?_
            obtain ⟨s16, hs17, h⟩ := px_let_some h
            rw [← hs17]
            refine px_blk (i' := 76) (L' := [some (.ref 22), none, some (.int u2), some (.int (m3 + (1 : Int32))), some (.int m4)]) (S' := [.int (0 : Int32), .ref 27, .int (m3 + (1 : Int32)), .ref 13]) (w' := px_w K s16 t9) (q := []) 6 hM rfl trivial ?_
            rcases px_bv_some h with ⟨s18, t19, hk20, h⟩ | ⟨x22, s18, t19, hk20, h⟩
            · refine px_E_call hM rfl rfl rfl rfl (px_E_mono (by decide) (e_V_store_13_27 K N (m3 + (1 : Int32)) (0 : Int32) s16 t9 _ hk20)) ?_
              refine px_blk (i' := 34) (L' := [some (.ref 22), none, some (.int u2), some (.int (m3 + (1 : Int32))), some (.int (m4 + (1 : Int32)))]) (S' := []) (w' := px_w K s18 t19) (q := []) 2 hM rfl trivial ?_
              exact ih (m3 + (1 : Int32)) (m4 + (1 : Int32)) s18 t19 z h o w2 ha
            · cases h
              obtain ⟨rfl, rfl⟩ := ha
              exact px_E_callT hM rfl rfl rfl rfl (px_E_mono (by decide) (e_V_store_13_27 K N (m3 + (1 : Int32)) (0 : Int32) s16 t9 _ hk20)) rfl
          · rw [if_neg hc13] at h
            obtain ⟨hq23, h⟩ := px_gd_some h
            refine px_blk (i' := 70) (L' := [some (.ref 22), none, some (.int u2), some (.int (m3 + (1 : Int32))), some (.int m4)]) (S' := []) (w' := px_w K (sA s8 27 (0 : Int32).toNatClampNeg (0 : Int32)) t9) (q := [vp_in (0 : Int32) (K.2.2 27)]) 3 hM rfl (show vp_in (0 : Int32) (K.2.2 27) from hq23) ?_
            obtain ⟨s24, hs25, h⟩ := px_let_some h
            rw [← hs25]
            refine px_blk (i' := 76) (L' := [some (.ref 22), none, some (.int u2), some (.int (m3 + (1 : Int32))), some (.int m4)]) (S' := [.int (0 : Int32), .ref 27, .int (m3 + (1 : Int32)), .ref 13]) (w' := px_w K s24 t9) (q := []) 6 hM rfl trivial ?_
            rcases px_bv_some h with ⟨s26, t27, hk28, h⟩ | ⟨x30, s26, t27, hk28, h⟩
            · refine px_E_call hM rfl rfl rfl rfl (px_E_mono (by decide) (e_V_store_13_27 K N (m3 + (1 : Int32)) (0 : Int32) s24 t9 _ hk28)) ?_
              refine px_blk (i' := 34) (L' := [some (.ref 22), none, some (.int u2), some (.int (m3 + (1 : Int32))), some (.int (m4 + (1 : Int32)))]) (S' := []) (w' := px_w K s26 t27) (q := []) 2 hM rfl trivial ?_
              exact ih (m3 + (1 : Int32)) (m4 + (1 : Int32)) s26 t27 z h o w2 ha
            · cases h
              obtain ⟨rfl, rfl⟩ := ha
              exact px_E_callT hM rfl rfl rfl rfl (px_E_mono (by decide) (e_V_store_13_27 K N (m3 + (1 : Int32)) (0 : Int32) s24 t9 _ hk28)) rfl
        · cases h
noncomputable def f_T_commitAbove_22 (K : px_K) (N : Nat) (a0 : Int32) (s : px_S) (t : px_W) : Option px_Res :=
  (if a0 < (s.1 21) then (if ((s.1 21) + (2 : Int32)) ≤ ((28 : Int32) - (s.1 24)) then (px_let ((1 : Int32) + (s.1 24)) (fun v3 => (px_bv (f_T_setCommitRow_22 K N (s.1 21) s t) (fun s5 t6 => (px_bv (f_V_store_13_27 K N v3 (0 : Int32) s5 t6) (fun s10 t11 => (px_lp (l_T_commitAbove_22_34 K N N (s.1 21) v3 (0 : Int32) s10 t11) (fun i15 vs16 s17 t18 => (if i15 = 79 then (px_v1 vs16 (fun y21 => (px_bv (f_V_flushAll_13 K N s17 t18) (fun s23 t24 => (px_bv (f_Arrays_fill_27 K N (0 : Int32) s23 t24) (fun s28 t29 => (px_gd (vp_in (0 : Int32) (K.2.2 27)) (px_let (sA s28 27 (0 : Int32).toNatClampNeg (2 : Int32)) (fun s34 => (px_gd (vp_in (1 : Int32) (K.2.2 27)) (px_let (sA s34 27 (1 : Int32).toNatClampNeg (s34.1 23)) (fun s37 => (px_bv (f_V_store_13_27 K N (y21 + (1 : Int32)) (0 : Int32) s37 t29) (fun s39 t40 => (px_bv (f_V_flushAll_13 K N s39 t40) (fun s44 t45 => (px_let (sR s44 23 ((s44.1 23) + (1 : Int32))) (fun s49 => (px_let (sR s49 24 ((s49.1 24) + ((s.1 21) + (2 : Int32)))) (fun s51 => (px_bv (f_T_keepChanged_22 K N s51 t45) (fun s53 t54 => (some (.inl none, s53, t54))) (fun x57 s53 t54 => none))))))) (fun x48 s44 t45 => (some (.inr x48, s44, t45))))) (fun x43 s39 t40 => (some (.inr x43, s39, t40))))))))))) (fun x32 s28 t29 => none))) (fun x27 s23 t24 => (some (.inr x27, s23, t24)))))) else none)) (fun z20 => some z20))) (fun x14 s10 t11 => (some (.inr x14, s10, t11))))) (fun x9 s5 t6 => none)))) else (px_bv (f_T_bringHome_22 K N s t) (fun s58 t59 => (px_let ((1 : Int32) + (s58.1 24)) (fun v63 => (px_bv (f_T_setCommitRow_22 K N (s.1 21) s58 t59) (fun s65 t66 => (px_bv (f_V_store_13_27 K N v63 (0 : Int32) s65 t66) (fun s70 t71 => (px_lp (l_T_commitAbove_22_34 K N N (s.1 21) v63 (0 : Int32) s70 t71) (fun i75 vs76 s77 t78 => (if i75 = 79 then (px_v1 vs76 (fun y81 => (px_bv (f_V_flushAll_13 K N s77 t78) (fun s83 t84 => (px_bv (f_Arrays_fill_27 K N (0 : Int32) s83 t84) (fun s88 t89 => (px_gd (vp_in (0 : Int32) (K.2.2 27)) (px_let (sA s88 27 (0 : Int32).toNatClampNeg (2 : Int32)) (fun s94 => (px_gd (vp_in (1 : Int32) (K.2.2 27)) (px_let (sA s94 27 (1 : Int32).toNatClampNeg (s94.1 23)) (fun s97 => (px_bv (f_V_store_13_27 K N (y81 + (1 : Int32)) (0 : Int32) s97 t89) (fun s99 t100 => (px_bv (f_V_flushAll_13 K N s99 t100) (fun s104 t105 => (px_let (sR s104 23 ((s104.1 23) + (1 : Int32))) (fun s109 => (px_let (sR s109 24 ((s109.1 24) + ((s.1 21) + (2 : Int32)))) (fun s111 => (px_bv (f_T_keepChanged_22 K N s111 t105) (fun s113 t114 => (some (.inl none, s113, t114))) (fun x117 s113 t114 => none))))))) (fun x108 s104 t105 => (some (.inr x108, s104, t105))))) (fun x103 s99 t100 => (some (.inr x103, s99, t100))))))))))) (fun x92 s88 t89 => none))) (fun x87 s83 t84 => (some (.inr x87, s83, t84)))))) else none)) (fun z80 => some z80))) (fun x74 s70 t71 => (some (.inr x74, s70, t71))))) (fun x69 s65 t66 => none))))) (fun x62 s58 t59 => (some (.inr x62, s58, t59))))) else (some (.inl none, s, t)))
set_option maxRecDepth 100000 in
theorem e_T_commitAbove_22 (K : px_K) (N : Nat) (a0 : Int32) (s : px_S) (t : px_W) (r : px_Res) (h : f_T_commitAbove_22 K N a0 s t = some r) : px_E px_ET px_P 14 168 0 (px_ent 5 [.ref 22, .int a0]) [] (px_w K s t) r.1 (px_w K r.2.1 r.2.2) := by
  have hM : px_P[168]? = some pm_T_commitAbove := rfl
  unfold f_T_commitAbove_22 at h
  refine px_blkif (c := a0 < (s.1 21)) (t := 7) (e := 6) (L' := [some (.ref 22), some (.int a0), some (.int (s.1 21)), none, none]) (S' := []) (w' := px_w K s t) (q := []) 6 hM rfl trivial (fun hc1 => ?_) (fun hc1 => ?_)
  · rw [if_pos hc1] at h
    refine px_blkif (c := ((s.1 21) + (2 : Int32)) ≤ ((28 : Int32) - (s.1 24))) (t := 17) (e := 15) (L' := [some (.ref 22), some (.int a0), some (.int (s.1 21)), none, none]) (S' := []) (w' := px_w K s t) (q := []) 8 hM rfl trivial (fun hc2 => ?_) (fun hc2 => ?_)
    · rw [if_pos hc2] at h
      refine px_blk (i' := 22) (L' := [some (.ref 22), some (.int a0), some (.int (s.1 21)), some (.int ((1 : Int32) + (s.1 24))), none]) (S' := []) (w' := px_w K s t) (q := []) 5 hM rfl trivial ?_
      obtain ⟨v3, hv4, h⟩ := px_let_some h
      rw [← hv4]
      refine px_blk (i' := 24) (L' := [some (.ref 22), some (.int a0), some (.int (s.1 21)), some (.int v3), none]) (S' := [.int (s.1 21), .ref 22]) (w' := px_w K s t) (q := []) 2 hM rfl trivial ?_
      rcases px_bv_some h with ⟨s5, t6, hk7, h⟩ | ⟨x9, s5, t6, hk7, h⟩
      · refine px_E_call hM rfl rfl rfl rfl (px_E_mono (by decide) (e_T_setCommitRow_22 K N (s.1 21) s t _ hk7)) ?_
        refine px_blk (i' := 31) (L' := [some (.ref 22), some (.int a0), some (.int (s.1 21)), some (.int v3), none]) (S' := [.int (0 : Int32), .ref 27, .int v3, .ref 13]) (w' := px_w K s5 t6) (q := []) 6 hM rfl trivial ?_
        rcases px_bv_some h with ⟨s10, t11, hk12, h⟩ | ⟨x14, s10, t11, hk12, h⟩
        · refine px_E_call hM rfl rfl rfl rfl (px_E_mono (by decide) (e_V_store_13_27 K N v3 (0 : Int32) s5 t6 _ hk12)) ?_
          refine px_blk (i' := 34) (L' := [some (.ref 22), some (.int a0), some (.int (s.1 21)), some (.int v3), some (.int (0 : Int32))]) (S' := []) (w' := px_w K s10 t11) (q := []) 2 hM rfl trivial ?_
          rcases px_lp_some h with ⟨i15, vs16, s17, t18, hl19, h⟩ | ⟨z20, hl19, h⟩
          · by_cases hi22 : i15 = 79
            · subst hi22
              rw [if_pos rfl] at h
              have h9 := px_v1_some h
              clear h
              obtain ⟨y21, rfl, h⟩ := h9
              refine px_E_le (px_leC_L _ _ (by simp [px_leC, px_le1, Value.category])) (e_l_T_commitAbove_22_34 K N (s.1 21) N v3 (0 : Int32) s10 t11 _ hl19 _ _ ?_)
              show px_E px_ET px_P 14 168 79 [some (.ref 22), none, some (.int (s.1 21)), some (.int y21), none] [] (px_w K s17 t18) _ _
              refine px_blk (i' := 81) (L' := [some (.ref 22), none, some (.int (s.1 21)), some (.int y21), none]) (S' := [.ref 13]) (w' := px_w K s17 t18) (q := []) 2 hM rfl trivial ?_
              rcases px_bv_some h with ⟨s23, t24, hk25, h⟩ | ⟨x27, s23, t24, hk25, h⟩
              · refine px_E_call hM rfl rfl rfl rfl (px_E_mono (by decide) (e_V_flushAll_13 K N s17 t18 _ hk25)) ?_
                refine px_blk (i' := 85) (L' := [some (.ref 22), none, some (.int (s.1 21)), some (.int y21), none]) (S' := [.int (0 : Int32), .ref 27]) (w' := px_w K s23 t24) (q := []) 3 hM rfl trivial ?_
                rcases px_bv_some h with ⟨s28, t29, hk30, h⟩ | ⟨x32, s28, t29, hk30, h⟩
                · refine px_E_call hM rfl rfl rfl rfl (px_E_mono (by decide) (e_Arrays_fill_27 K N (0 : Int32) s23 t24 _ hk30)) ?_
                  obtain ⟨hq33, h⟩ := px_gd_some h
                  refine px_blk (i' := 91) (L' := [some (.ref 22), none, some (.int (s.1 21)), some (.int y21), none]) (S' := []) (w' := px_w K (sA s28 27 (0 : Int32).toNatClampNeg (2 : Int32)) t29) (q := [vp_in (0 : Int32) (K.2.2 27)]) 5 hM rfl (show vp_in (0 : Int32) (K.2.2 27) from hq33) ?_
                  obtain ⟨s34, hs35, h⟩ := px_let_some h
                  rw [← hs35]
                  obtain ⟨hq36, h⟩ := px_gd_some h
                  refine px_blk (i' := 97) (L' := [some (.ref 22), none, some (.int (s.1 21)), some (.int y21), none]) (S' := []) (w' := px_w K (sA s34 27 (1 : Int32).toNatClampNeg (s34.1 23)) t29) (q := [vp_in (1 : Int32) (K.2.2 27)]) 6 hM rfl (show vp_in (1 : Int32) (K.2.2 27) from hq36) ?_
                  obtain ⟨s37, hs38, h⟩ := px_let_some h
                  rw [← hs38]
                  refine px_blk (i' := 105) (L' := [some (.ref 22), none, some (.int (s.1 21)), some (.int y21), none]) (S' := [.int (0 : Int32), .ref 27, .int (y21 + (1 : Int32)), .ref 13]) (w' := px_w K s37 t29) (q := []) 8 hM rfl trivial ?_
                  rcases px_bv_some h with ⟨s39, t40, hk41, h⟩ | ⟨x43, s39, t40, hk41, h⟩
                  · refine px_E_call hM rfl rfl rfl rfl (px_E_mono (by decide) (e_V_store_13_27 K N (y21 + (1 : Int32)) (0 : Int32) s37 t29 _ hk41)) ?_
                    refine px_blk (i' := 108) (L' := [some (.ref 22), none, some (.int (s.1 21)), some (.int y21), none]) (S' := [.ref 13]) (w' := px_w K s39 t40) (q := []) 2 hM rfl trivial ?_
                    rcases px_bv_some h with ⟨s44, t45, hk46, h⟩ | ⟨x48, s44, t45, hk46, h⟩
                    · refine px_E_call hM rfl rfl rfl rfl (px_E_mono (by decide) (e_V_flushAll_13 K N s39 t40 _ hk46)) ?_
                      refine px_blk (i' := 115) (L' := [some (.ref 22), none, some (.int (s.1 21)), some (.int y21), none]) (S' := []) (w' := px_w K (sR s44 23 ((s44.1 23) + (1 : Int32))) t45) (q := []) 6 hM rfl trivial ?_
                      obtain ⟨s49, hs50, h⟩ := px_let_some h
                      rw [← hs50]
                      refine px_blk (i' := 123) (L' := [some (.ref 22), none, some (.int (s.1 21)), some (.int y21), none]) (S' := []) (w' := px_w K (sR s49 24 ((s49.1 24) + ((s.1 21) + (2 : Int32)))) t45) (q := []) 8 hM rfl trivial ?_
                      obtain ⟨s51, hs52, h⟩ := px_let_some h
                      rw [← hs52]
                      refine px_blk (i' := 124) (L' := [some (.ref 22), none, some (.int (s.1 21)), some (.int y21), none]) (S' := [.ref 22]) (w' := px_w K s51 t45) (q := []) 1 hM rfl trivial ?_
                      rcases px_bv_some h with ⟨s53, t54, hk55, h⟩ | ⟨x57, s53, t54, hk55, h⟩
                      · refine px_E_call hM rfl rfl rfl rfl (px_E_mono (by decide) (e_T_keepChanged_22 K N s51 t45 _ hk55)) ?_
                        cases h
                        exact px_E_ret hM rfl rfl rfl trivial
                      · cases h
                    · cases h
                      exact px_E_callT hM rfl rfl rfl rfl (px_E_mono (by decide) (e_V_flushAll_13 K N s39 t40 _ hk46)) rfl
                  · cases h
                    exact px_E_callT hM rfl rfl rfl rfl (px_E_mono (by decide) (e_V_store_13_27 K N (y21 + (1 : Int32)) (0 : Int32) s37 t29 _ hk41)) rfl
                · cases h
              · cases h
                exact px_E_callT hM rfl rfl rfl rfl (px_E_mono (by decide) (e_V_flushAll_13 K N s17 t18 _ hk25)) rfl
            · rw [if_neg hi22] at h
              cases h
          · cases h
            exact px_E_le (px_leC_L _ _ (by simp [px_leC, px_le1, Value.category])) (e_l_T_commitAbove_22_34 K N (s.1 21) N v3 (0 : Int32) s10 t11 _ hl19 _ _ ⟨rfl, rfl⟩)
        · cases h
          exact px_E_callT hM rfl rfl rfl rfl (px_E_mono (by decide) (e_V_store_13_27 K N v3 (0 : Int32) s5 t6 _ hk12)) rfl
      · cases h
    · rw [if_neg hc2] at h
      refine px_blk (i' := 16) (L' := [some (.ref 22), some (.int a0), some (.int (s.1 21)), none, none]) (S' := [.ref 22]) (w' := px_w K s t) (q := []) 1 hM rfl trivial ?_
      rcases px_bv_some h with ⟨s58, t59, hk60, h⟩ | ⟨x62, s58, t59, hk60, h⟩
      · refine px_E_call hM rfl rfl rfl rfl (px_E_mono (by decide) (e_T_bringHome_22 K N s t _ hk60)) ?_
        refine px_blk (i' := 22) (L' := [some (.ref 22), some (.int a0), some (.int (s.1 21)), some (.int ((1 : Int32) + (s58.1 24))), none]) (S' := []) (w' := px_w K s58 t59) (q := []) 5 hM rfl trivial ?_
        obtain ⟨v63, hv64, h⟩ := px_let_some h
        rw [← hv64]
        refine px_blk (i' := 24) (L' := [some (.ref 22), some (.int a0), some (.int (s.1 21)), some (.int v63), none]) (S' := [.int (s.1 21), .ref 22]) (w' := px_w K s58 t59) (q := []) 2 hM rfl trivial ?_
        rcases px_bv_some h with ⟨s65, t66, hk67, h⟩ | ⟨x69, s65, t66, hk67, h⟩
        · refine px_E_call hM rfl rfl rfl rfl (px_E_mono (by decide) (e_T_setCommitRow_22 K N (s.1 21) s58 t59 _ hk67)) ?_
          refine px_blk (i' := 31) (L' := [some (.ref 22), some (.int a0), some (.int (s.1 21)), some (.int v63), none]) (S' := [.int (0 : Int32), .ref 27, .int v63, .ref 13]) (w' := px_w K s65 t66) (q := []) 6 hM rfl trivial ?_
          rcases px_bv_some h with ⟨s70, t71, hk72, h⟩ | ⟨x74, s70, t71, hk72, h⟩
          · refine px_E_call hM rfl rfl rfl rfl (px_E_mono (by decide) (e_V_store_13_27 K N v63 (0 : Int32) s65 t66 _ hk72)) ?_
            refine px_blk (i' := 34) (L' := [some (.ref 22), some (.int a0), some (.int (s.1 21)), some (.int v63), some (.int (0 : Int32))]) (S' := []) (w' := px_w K s70 t71) (q := []) 2 hM rfl trivial ?_
            rcases px_lp_some h with ⟨i75, vs76, s77, t78, hl79, h⟩ | ⟨z80, hl79, h⟩
            · by_cases hi82 : i75 = 79
              · subst hi82
                rw [if_pos rfl] at h
                have h9 := px_v1_some h
                clear h
                obtain ⟨y81, rfl, h⟩ := h9
                refine px_E_le (px_leC_L _ _ (by simp [px_leC, px_le1, Value.category])) (e_l_T_commitAbove_22_34 K N (s.1 21) N v63 (0 : Int32) s70 t71 _ hl79 _ _ ?_)
                show px_E px_ET px_P 14 168 79 [some (.ref 22), none, some (.int (s.1 21)), some (.int y81), none] [] (px_w K s77 t78) _ _
                refine px_blk (i' := 81) (L' := [some (.ref 22), none, some (.int (s.1 21)), some (.int y81), none]) (S' := [.ref 13]) (w' := px_w K s77 t78) (q := []) 2 hM rfl trivial ?_
                rcases px_bv_some h with ⟨s83, t84, hk85, h⟩ | ⟨x87, s83, t84, hk85, h⟩
                · refine px_E_call hM rfl rfl rfl rfl (px_E_mono (by decide) (e_V_flushAll_13 K N s77 t78 _ hk85)) ?_
                  refine px_blk (i' := 85) (L' := [some (.ref 22), none, some (.int (s.1 21)), some (.int y81), none]) (S' := [.int (0 : Int32), .ref 27]) (w' := px_w K s83 t84) (q := []) 3 hM rfl trivial ?_
                  rcases px_bv_some h with ⟨s88, t89, hk90, h⟩ | ⟨x92, s88, t89, hk90, h⟩
                  · refine px_E_call hM rfl rfl rfl rfl (px_E_mono (by decide) (e_Arrays_fill_27 K N (0 : Int32) s83 t84 _ hk90)) ?_
                    obtain ⟨hq93, h⟩ := px_gd_some h
                    refine px_blk (i' := 91) (L' := [some (.ref 22), none, some (.int (s.1 21)), some (.int y81), none]) (S' := []) (w' := px_w K (sA s88 27 (0 : Int32).toNatClampNeg (2 : Int32)) t89) (q := [vp_in (0 : Int32) (K.2.2 27)]) 5 hM rfl (show vp_in (0 : Int32) (K.2.2 27) from hq93) ?_
                    obtain ⟨s94, hs95, h⟩ := px_let_some h
                    rw [← hs95]
                    obtain ⟨hq96, h⟩ := px_gd_some h
                    refine px_blk (i' := 97) (L' := [some (.ref 22), none, some (.int (s.1 21)), some (.int y81), none]) (S' := []) (w' := px_w K (sA s94 27 (1 : Int32).toNatClampNeg (s94.1 23)) t89) (q := [vp_in (1 : Int32) (K.2.2 27)]) 6 hM rfl (show vp_in (1 : Int32) (K.2.2 27) from hq96) ?_
                    obtain ⟨s97, hs98, h⟩ := px_let_some h
                    rw [← hs98]
                    refine px_blk (i' := 105) (L' := [some (.ref 22), none, some (.int (s.1 21)), some (.int y81), none]) (S' := [.int (0 : Int32), .ref 27, .int (y81 + (1 : Int32)), .ref 13]) (w' := px_w K s97 t89) (q := []) 8 hM rfl trivial ?_
                    rcases px_bv_some h with ⟨s99, t100, hk101, h⟩ | ⟨x103, s99, t100, hk101, h⟩
                    · refine px_E_call hM rfl rfl rfl rfl (px_E_mono (by decide) (e_V_store_13_27 K N (y81 + (1 : Int32)) (0 : Int32) s97 t89 _ hk101)) ?_
                      refine px_blk (i' := 108) (L' := [some (.ref 22), none, some (.int (s.1 21)), some (.int y81), none]) (S' := [.ref 13]) (w' := px_w K s99 t100) (q := []) 2 hM rfl trivial ?_
                      rcases px_bv_some h with ⟨s104, t105, hk106, h⟩ | ⟨x108, s104, t105, hk106, h⟩
                      · refine px_E_call hM rfl rfl rfl rfl (px_E_mono (by decide) (e_V_flushAll_13 K N s99 t100 _ hk106)) ?_
                        refine px_blk (i' := 115) (L' := [some (.ref 22), none, some (.int (s.1 21)), some (.int y81), none]) (S' := []) (w' := px_w K (sR s104 23 ((s104.1 23) + (1 : Int32))) t105) (q := []) 6 hM rfl trivial ?_
                        obtain ⟨s109, hs110, h⟩ := px_let_some h
                        rw [← hs110]
                        refine px_blk (i' := 123) (L' := [some (.ref 22), none, some (.int (s.1 21)), some (.int y81), none]) (S' := []) (w' := px_w K (sR s109 24 ((s109.1 24) + ((s.1 21) + (2 : Int32)))) t105) (q := []) 8 hM rfl trivial ?_
                        obtain ⟨s111, hs112, h⟩ := px_let_some h
                        rw [← hs112]
                        refine px_blk (i' := 124) (L' := [some (.ref 22), none, some (.int (s.1 21)), some (.int y81), none]) (S' := [.ref 22]) (w' := px_w K s111 t105) (q := []) 1 hM rfl trivial ?_
                        rcases px_bv_some h with ⟨s113, t114, hk115, h⟩ | ⟨x117, s113, t114, hk115, h⟩
                        · refine px_E_call hM rfl rfl rfl rfl (px_E_mono (by decide) (e_T_keepChanged_22 K N s111 t105 _ hk115)) ?_
                          cases h
                          exact px_E_ret hM rfl rfl rfl trivial
                        · cases h
                      · cases h
                        exact px_E_callT hM rfl rfl rfl rfl (px_E_mono (by decide) (e_V_flushAll_13 K N s99 t100 _ hk106)) rfl
                    · cases h
                      exact px_E_callT hM rfl rfl rfl rfl (px_E_mono (by decide) (e_V_store_13_27 K N (y81 + (1 : Int32)) (0 : Int32) s97 t89 _ hk101)) rfl
                  · cases h
                · cases h
                  exact px_E_callT hM rfl rfl rfl rfl (px_E_mono (by decide) (e_V_flushAll_13 K N s77 t78 _ hk85)) rfl
              · rw [if_neg hi82] at h
                cases h
            · cases h
              exact px_E_le (px_leC_L _ _ (by simp [px_leC, px_le1, Value.category])) (e_l_T_commitAbove_22_34 K N (s.1 21) N v63 (0 : Int32) s70 t71 _ hl79 _ _ ⟨rfl, rfl⟩)
          · cases h
            exact px_E_callT hM rfl rfl rfl rfl (px_E_mono (by decide) (e_V_store_13_27 K N v63 (0 : Int32) s65 t66 _ hk72)) rfl
        · cases h
      · cases h
        exact px_E_callT hM rfl rfl rfl rfl (px_E_mono (by decide) (e_T_bringHome_22 K N s t _ hk60)) rfl
  · rw [if_neg hc1] at h
    cases h
    exact px_E_ret hM rfl rfl rfl trivial
noncomputable def f_T_inodeWord_22 (K : px_K) (N : Nat) (a0 : Int32) (a1 : Int32) (s : px_S) (t : px_W) : Option px_Res :=
  (if a0 < 0 then (some (.inl (some (.int (0 : Int32))), s, t)) else (if (24 : Int32) ≤ a0 then (some (.inl (some (.int (0 : Int32))), s, t)) else (if a1 < 0 then (some (.inl (some (.int (0 : Int32))), s, t)) else (if a1 < (8 : Int32) then (px_gd (vp_in (((480 : Int32) + ((8 : Int32) * a0)) + a1) (K.2.2 23)) (some (.inl (some (.int ((s.2.2.1 23) (((480 : Int32) + ((8 : Int32) * a0)) + a1).toNatClampNeg))), s, t))) else (some (.inl (some (.int (0 : Int32))), s, t))))))
set_option maxRecDepth 100000 in
theorem e_T_inodeWord_22 (K : px_K) (N : Nat) (a0 : Int32) (a1 : Int32) (s : px_S) (t : px_W) (r : px_Res) (h : f_T_inodeWord_22 K N a0 a1 s t = some r) : px_E px_ET px_P 1 139 0 (px_ent 3 [.ref 22, .int a0, .int a1]) [] (px_w K s t) r.1 (px_w K r.2.1 r.2.2) := by
  have hM : px_P[139]? = some pm_T_inodeWord := rfl
  unfold f_T_inodeWord_22 at h
  refine px_blkif (c := a0 < 0) (t := 10) (e := 2) (L' := [some (.ref 22), some (.int a0), some (.int a1)]) (S' := []) (w' := px_w K s t) (q := []) 2 hM rfl trivial (fun hc1 => ?_) (fun hc1 => ?_)
  · rw [if_pos hc1] at h
    refine px_blk (i' := 11) (L' := [some (.ref 22), some (.int a0), some (.int a1)]) (S' := [.int (0 : Int32)]) (w' := px_w K s t) (q := []) 1 hM rfl trivial ?_
    cases h
    exact px_E_ret hM rfl rfl rfl trivial
  · rw [if_neg hc1] at h
    refine px_blkif (c := (24 : Int32) ≤ a0) (t := 10) (e := 5) (L' := [some (.ref 22), some (.int a0), some (.int a1)]) (S' := []) (w' := px_w K s t) (q := []) 3 hM rfl trivial (fun hc2 => ?_) (fun hc2 => ?_)
    · rw [if_pos hc2] at h
      refine px_blk (i' := 11) (L' := [some (.ref 22), some (.int a0), some (.int a1)]) (S' := [.int (0 : Int32)]) (w' := px_w K s t) (q := []) 1 hM rfl trivial ?_
      cases h
      exact px_E_ret hM rfl rfl rfl trivial
    · rw [if_neg hc2] at h
      refine px_blkif (c := a1 < 0) (t := 10) (e := 7) (L' := [some (.ref 22), some (.int a0), some (.int a1)]) (S' := []) (w' := px_w K s t) (q := []) 2 hM rfl trivial (fun hc3 => ?_) (fun hc3 => ?_)
      · rw [if_pos hc3] at h
        refine px_blk (i' := 11) (L' := [some (.ref 22), some (.int a0), some (.int a1)]) (S' := [.int (0 : Int32)]) (w' := px_w K s t) (q := []) 1 hM rfl trivial ?_
        cases h
        exact px_E_ret hM rfl rfl rfl trivial
      · rw [if_neg hc3] at h
        refine px_blkif (c := a1 < (8 : Int32)) (t := 12) (e := 10) (L' := [some (.ref 22), some (.int a0), some (.int a1)]) (S' := []) (w' := px_w K s t) (q := []) 3 hM rfl trivial (fun hc4 => ?_) (fun hc4 => ?_)
        · rw [if_pos hc4] at h
          obtain ⟨hq5, h⟩ := px_gd_some h
          refine px_blk (i' := 22) (L' := [some (.ref 22), some (.int a0), some (.int a1)]) (S' := [.int ((s.2.2.1 23) (((480 : Int32) + ((8 : Int32) * a0)) + a1).toNatClampNeg)]) (w' := px_w K s t) (q := [vp_in (((480 : Int32) + ((8 : Int32) * a0)) + a1) (K.2.2 23)]) 10 hM rfl (show vp_in (((480 : Int32) + ((8 : Int32) * a0)) + a1) (K.2.2 23) from hq5) ?_
          cases h
          exact px_E_ret hM rfl rfl rfl trivial
        · rw [if_neg hc4] at h
          refine px_blk (i' := 11) (L' := [some (.ref 22), some (.int a0), some (.int a1)]) (S' := [.int (0 : Int32)]) (w' := px_w K s t) (q := []) 1 hM rfl trivial ?_
          cases h
          exact px_E_ret hM rfl rfl rfl trivial
noncomputable def f_T_isDirectory_22 (K : px_K) (N : Nat) (a0 : Int32) (s : px_S) (t : px_W) : Option px_Res :=
  (px_bi (f_T_inodeWord_22 K N a0 (0 : Int32) s t) (fun v4 s1 t2 => (some (.inl (some (.int (if ¬ v4 = (1 : Int32) then (0 : Int32) else (1 : Int32)))), s1, t2))) (fun x5 s1 t2 => none))
set_option maxRecDepth 100000 in
theorem e_T_isDirectory_22 (K : px_K) (N : Nat) (a0 : Int32) (s : px_S) (t : px_W) (r : px_Res) (h : f_T_isDirectory_22 K N a0 s t = some r) : px_E px_ET px_P 2 141 0 (px_ent 2 [.ref 22, .int a0]) [] (px_w K s t) r.1 (px_w K r.2.1 r.2.2) := by
  have hM : px_P[141]? = some pm_T_isDirectory := rfl
  unfold f_T_isDirectory_22 at h
  refine px_blk (i' := 3) (L' := [some (.ref 22), some (.int a0)]) (S' := [.int (0 : Int32), .int a0, .ref 22]) (w' := px_w K s t) (q := []) 3 hM rfl trivial ?_
  rcases px_bi_some h with ⟨v4, s1, t2, hk3, h⟩ | ⟨x5, s1, t2, hk3, h⟩
  · refine px_E_call hM rfl rfl rfl rfl (px_E_mono (by decide) (e_T_inodeWord_22 K N a0 (0 : Int32) s t _ hk3)) ?_
    refine px_blk (i' := 5) (L' := [some (.ref 22), some (.int a0)]) (S' := [.int (1 : Int32), .int v4]) (w' := px_w K s1 t2) (q := []) 1 hM rfl trivial ?_
    have hK : px_E px_ET px_P 2 141 9 [some (.ref 22), some (.int a0)] [.int (if ¬ v4 = (1 : Int32) then (0 : Int32) else (1 : Int32))] (px_w K s1 t2) r.1 (px_w K r.2.1 r.2.2) := by
      cases h
      exact px_E_ret hM rfl rfl rfl (show (if ¬ v4 = (1 : Int32) then (0 : Int32) else (1 : Int32)) = 0 ∨ (if ¬ v4 = (1 : Int32) then (0 : Int32) else (1 : Int32)) = 1 from (by split <;> simp))
    clear h
    refine px_blkif (c := ¬ v4 = (1 : Int32)) (t := 8) (e := 6) (L' := [some (.ref 22), some (.int a0)]) (S' := []) (w' := px_w K s1 t2) (q := []) 1 hM rfl trivial (fun hc6 => ?_) (fun hc6 => ?_)
    · rw [if_pos hc6] at hK
      exact px_blk (i' := 9) (L' := [some (.ref 22), some (.int a0)]) (S' := [.int (0 : Int32)]) (w' := px_w K s1 t2) (q := []) 1 hM rfl trivial hK
    · rw [if_neg hc6] at hK
      exact px_blk (i' := 9) (L' := [some (.ref 22), some (.int a0)]) (S' := [.int (1 : Int32)]) (w' := px_w K s1 t2) (q := []) 2 hM rfl trivial hK
  · cases h
noncomputable def f_Math_max (K : px_K) (N : Nat) (a0 : Int32) (a1 : Int32) (s : px_S) (t : px_W) : Option px_Res :=
  (some (.inl (some (.int (if a0 < a1 then a1 else a0))), s, t))
set_option maxRecDepth 100000 in
theorem e_Math_max (K : px_K) (N : Nat) (a0 : Int32) (a1 : Int32) (s : px_S) (t : px_W) (r : px_Res) (h : f_Math_max K N a0 a1 s t = some r) : px_E px_ET px_P 1 204 0 (px_ent 2 [.int a0, .int a1]) [] (px_w K s t) r.1 (px_w K r.2.1 r.2.2) := by
  have hM : px_P[204]? = some pm_Math_max := rfl
  unfold f_Math_max at h
  refine px_blk (i' := 2) (L' := [some (.int a0), some (.int a1)]) (S' := [.int a1, .int a0]) (w' := px_w K s t) (q := []) 2 hM rfl trivial ?_
  have hK : px_E px_ET px_P 1 204 6 [some (.int a0), some (.int a1)] [.int (if a0 < a1 then a1 else a0)] (px_w K s t) r.1 (px_w K r.2.1 r.2.2) := by
    cases h
    exact px_E_ret hM rfl rfl rfl trivial
  clear h
  refine px_blkif (c := a0 < a1) (t := 5) (e := 3) (L' := [some (.int a0), some (.int a1)]) (S' := []) (w' := px_w K s t) (q := []) 1 hM rfl trivial (fun hc1 => ?_) (fun hc1 => ?_)
  · rw [if_pos hc1] at hK
    exact px_blk (i' := 6) (L' := [some (.int a0), some (.int a1)]) (S' := [.int a1]) (w' := px_w K s t) (q := []) 1 hM rfl trivial hK
  · rw [if_neg hc1] at hK
    exact px_blk (i' := 6) (L' := [some (.int a0), some (.int a1)]) (S' := [.int a0]) (w' := px_w K s t) (q := []) 2 hM rfl trivial hK
noncomputable def f_T_placesOf_22 (K : px_K) (N : Nat) (a0 : Int32) (s : px_S) (t : px_W) : Option px_Res :=
  (px_bi (f_T_inodeWord_22 K N a0 (1 : Int32) s t) (fun v4 s1 t2 => (px_bi (f_Math_min K N (160 : Int32) v4 s1 t2) (fun v9 s6 t7 => (px_bi (f_Math_max K N (0 : Int32) v9 s6 t7) (fun v14 s11 t12 => (some (.inl (some (.int v14)), s11, t12))) (fun x15 s11 t12 => none))) (fun x10 s6 t7 => none))) (fun x5 s1 t2 => none))
set_option maxRecDepth 100000 in
theorem e_T_placesOf_22 (K : px_K) (N : Nat) (a0 : Int32) (s : px_S) (t : px_W) (r : px_Res) (h : f_T_placesOf_22 K N a0 s t = some r) : px_E px_ET px_P 2 153 0 (px_ent 2 [.ref 22, .int a0]) [] (px_w K s t) r.1 (px_w K r.2.1 r.2.2) := by
  have hM : px_P[153]? = some pm_T_placesOf := rfl
  unfold f_T_placesOf_22 at h
  refine px_blk (i' := 5) (L' := [some (.ref 22), some (.int a0)]) (S' := [.int (1 : Int32), .int a0, .ref 22, .int (160 : Int32), .int (0 : Int32)]) (w' := px_w K s t) (q := []) 5 hM rfl trivial ?_
  rcases px_bi_some h with ⟨v4, s1, t2, hk3, h⟩ | ⟨x5, s1, t2, hk3, h⟩
  · refine px_E_call hM rfl rfl rfl rfl (px_E_mono (by decide) (e_T_inodeWord_22 K N a0 (1 : Int32) s t _ hk3)) ?_
    rcases px_bi_some h with ⟨v9, s6, t7, hk8, h⟩ | ⟨x10, s6, t7, hk8, h⟩
    · refine px_E_call hM rfl rfl rfl rfl (px_E_mono (by decide) (e_Math_min K N (160 : Int32) v4 s1 t2 _ hk8)) ?_
      rcases px_bi_some h with ⟨v14, s11, t12, hk13, h⟩ | ⟨x15, s11, t12, hk13, h⟩
      · refine px_E_call hM rfl rfl rfl rfl (px_E_mono (by decide) (e_Math_max K N (0 : Int32) v9 s6 t7 _ hk13)) ?_
        cases h
        exact px_E_ret hM rfl rfl rfl trivial
      · cases h
    · cases h
  · cases h
noncomputable def f_T_blockNumber_22 (K : px_K) (N : Nat) (a0 : Int32) (s : px_S) (t : px_W) : Option px_Res :=
  (some (.inl (some (.int (if a0 < (42 : Int32) then (0 : Int32) else (if (106 : Int32) ≤ a0 then (0 : Int32) else a0)))), s, t))
set_option maxRecDepth 100000 in
theorem e_T_blockNumber_22 (K : px_K) (N : Nat) (a0 : Int32) (s : px_S) (t : px_W) (r : px_Res) (h : f_T_blockNumber_22 K N a0 s t = some r) : px_E px_ET px_P 1 143 0 (px_ent 2 [.ref 22, .int a0]) [] (px_w K s t) r.1 (px_w K r.2.1 r.2.2) := by
  have hM : px_P[143]? = some pm_T_blockNumber := rfl
  unfold f_T_blockNumber_22 at h
  refine px_blk (i' := 2) (L' := [some (.ref 22), some (.int a0)]) (S' := [.int (42 : Int32), .int a0]) (w' := px_w K s t) (q := []) 2 hM rfl trivial ?_
  have hK : px_E px_ET px_P 1 143 9 [some (.ref 22), some (.int a0)] [.int (if a0 < (42 : Int32) then (0 : Int32) else (if (106 : Int32) ≤ a0 then (0 : Int32) else a0))] (px_w K s t) r.1 (px_w K r.2.1 r.2.2) := by
    cases h
    exact px_E_ret hM rfl rfl rfl trivial
  clear h
  refine px_blkif (c := a0 < (42 : Int32)) (t := 8) (e := 3) (L' := [some (.ref 22), some (.int a0)]) (S' := []) (w' := px_w K s t) (q := []) 1 hM rfl trivial (fun hc1 => ?_) (fun hc1 => ?_)
  · rw [if_pos hc1] at hK
    exact px_blk (i' := 9) (L' := [some (.ref 22), some (.int a0)]) (S' := [.int (0 : Int32)]) (w' := px_w K s t) (q := []) 1 hM rfl trivial hK
  · rw [if_neg hc1] at hK
    refine px_blkif (c := (106 : Int32) ≤ a0) (t := 8) (e := 6) (L' := [some (.ref 22), some (.int a0)]) (S' := []) (w' := px_w K s t) (q := []) 3 hM rfl trivial (fun hc2 => ?_) (fun hc2 => ?_)
    · rw [if_pos hc2] at hK
      exact px_blk (i' := 9) (L' := [some (.ref 22), some (.int a0)]) (S' := [.int (0 : Int32)]) (w' := px_w K s t) (q := []) 1 hM rfl trivial hK
    · rw [if_neg hc2] at hK
      exact px_blk (i' := 9) (L' := [some (.ref 22), some (.int a0)]) (S' := [.int a0]) (w' := px_w K s t) (q := []) 2 hM rfl trivial hK
noncomputable def f_T_indirectOf_22 (K : px_K) (N : Nat) (a0 : Int32) (s : px_S) (t : px_W) : Option px_Res :=
  (px_bi (f_T_inodeWord_22 K N a0 (6 : Int32) s t) (fun v4 s1 t2 => (px_bi (f_T_blockNumber_22 K N v4 s1 t2) (fun v9 s6 t7 => (some (.inl (some (.int v9)), s6, t7))) (fun x10 s6 t7 => none))) (fun x5 s1 t2 => none))
set_option maxRecDepth 100000 in
theorem e_T_indirectOf_22 (K : px_K) (N : Nat) (a0 : Int32) (s : px_S) (t : px_W) (r : px_Res) (h : f_T_indirectOf_22 K N a0 s t = some r) : px_E px_ET px_P 2 144 0 (px_ent 2 [.ref 22, .int a0]) [] (px_w K s t) r.1 (px_w K r.2.1 r.2.2) := by
  have hM : px_P[144]? = some pm_T_indirectOf := rfl
  unfold f_T_indirectOf_22 at h
  refine px_blk (i' := 4) (L' := [some (.ref 22), some (.int a0)]) (S' := [.int (6 : Int32), .int a0, .ref 22, .ref 22]) (w' := px_w K s t) (q := []) 4 hM rfl trivial ?_
  rcases px_bi_some h with ⟨v4, s1, t2, hk3, h⟩ | ⟨x5, s1, t2, hk3, h⟩
  · refine px_E_call hM rfl rfl rfl rfl (px_E_mono (by decide) (e_T_inodeWord_22 K N a0 (6 : Int32) s t _ hk3)) ?_
    rcases px_bi_some h with ⟨v9, s6, t7, hk8, h⟩ | ⟨x10, s6, t7, hk8, h⟩
    · refine px_E_call hM rfl rfl rfl rfl (px_E_mono (by decide) (e_T_blockNumber_22 K N v4 s1 t2 _ hk8)) ?_
      cases h
      exact px_E_ret hM rfl rfl rfl trivial
    · cases h
  · cases h
noncomputable def f_T_blockOf_22 (K : px_K) (N : Nat) (a0 : Int32) (a1 : Int32) (s : px_S) (t : px_W) : Option px_Res :=
  (if (4 : Int32) ≤ a1 then (px_bi (f_T_indirectOf_22 K N a0 s t) (fun v5 s2 t3 => (if ¬ v5 = 0 then (px_bi (f_T_at_22 K N v5 (a1 - (4 : Int32)) s2 t3) (fun v11 s8 t9 => (px_bi (f_T_blockNumber_22 K N v11 s8 t9) (fun v16 s13 t14 => (some (.inl (some (.int v16)), s13, t14))) (fun x17 s13 t14 => none))) (fun x12 s8 t9 => none)) else (some (.inl (some (.int (0 : Int32))), s2, t3)))) (fun x6 s2 t3 => none)) else (px_bi (f_T_inodeWord_22 K N a0 ((2 : Int32) + a1) s t) (fun v21 s18 t19 => (px_bi (f_T_blockNumber_22 K N v21 s18 t19) (fun v26 s23 t24 => (some (.inl (some (.int v26)), s23, t24))) (fun x27 s23 t24 => none))) (fun x22 s18 t19 => none)))
set_option maxRecDepth 100000 in
theorem e_T_blockOf_22 (K : px_K) (N : Nat) (a0 : Int32) (a1 : Int32) (s : px_S) (t : px_W) (r : px_Res) (h : f_T_blockOf_22 K N a0 a1 s t = some r) : px_E px_ET px_P 3 145 0 (px_ent 4 [.ref 22, .int a0, .int a1]) [] (px_w K s t) r.1 (px_w K r.2.1 r.2.2) := by
  have hM : px_P[145]? = some pm_T_blockOf := rfl
  unfold f_T_blockOf_22 at h
  refine px_blkif (c := (4 : Int32) ≤ a1) (t := 12) (e := 3) (L' := [some (.ref 22), some (.int a0), some (.int a1), none]) (S' := []) (w' := px_w K s t) (q := []) 3 hM rfl trivial (fun hc1 => ?_) (fun hc1 => ?_)
  · rw [if_pos hc1] at h
    refine px_blk (i' := 14) (L' := [some (.ref 22), some (.int a0), some (.int a1), none]) (S' := [.int a0, .ref 22]) (w' := px_w K s t) (q := []) 2 hM rfl trivial ?_
    rcases px_bi_some h with ⟨v5, s2, t3, hk4, h⟩ | ⟨x6, s2, t3, hk4, h⟩
    · refine px_E_call hM rfl rfl rfl rfl (px_E_mono (by decide) (e_T_indirectOf_22 K N a0 s t _ hk4)) ?_
      refine px_blkif (c := ¬ v5 = 0) (t := 20) (e := 18) (L' := [some (.ref 22), some (.int a0), some (.int a1), some (.int v5)]) (S' := []) (w' := px_w K s2 t3) (q := []) 3 hM rfl trivial (fun hc7 => ?_) (fun hc7 => ?_)
      · rw [if_pos hc7] at h
        refine px_blk (i' := 26) (L' := [some (.ref 22), some (.int a0), some (.int a1), some (.int v5)]) (S' := [.int (a1 - (4 : Int32)), .int v5, .ref 22, .ref 22]) (w' := px_w K s2 t3) (q := []) 6 hM rfl trivial ?_
        rcases px_bi_some h with ⟨v11, s8, t9, hk10, h⟩ | ⟨x12, s8, t9, hk10, h⟩
        · refine px_E_call hM rfl rfl rfl rfl (px_E_mono (by decide) (e_T_at_22 K N v5 (a1 - (4 : Int32)) s2 t3 _ hk10)) ?_
          rcases px_bi_some h with ⟨v16, s13, t14, hk15, h⟩ | ⟨x17, s13, t14, hk15, h⟩
          · refine px_E_call hM rfl rfl rfl rfl (px_E_mono (by decide) (e_T_blockNumber_22 K N v11 s8 t9 _ hk15)) ?_
            cases h
            exact px_E_ret hM rfl rfl rfl trivial
          · cases h
        · cases h
      · rw [if_neg hc7] at h
        refine px_blk (i' := 28) (L' := [some (.ref 22), some (.int a0), some (.int a1), some (.int v5)]) (S' := [.int (0 : Int32)]) (w' := px_w K s2 t3) (q := []) 2 hM rfl trivial ?_
        cases h
        exact px_E_ret hM rfl rfl rfl trivial
    · cases h
  · rw [if_neg hc1] at h
    refine px_blk (i' := 9) (L' := [some (.ref 22), some (.int a0), some (.int a1), none]) (S' := [.int ((2 : Int32) + a1), .int a0, .ref 22, .ref 22]) (w' := px_w K s t) (q := []) 6 hM rfl trivial ?_
    rcases px_bi_some h with ⟨v21, s18, t19, hk20, h⟩ | ⟨x22, s18, t19, hk20, h⟩
    · refine px_E_call hM rfl rfl rfl rfl (px_E_mono (by decide) (e_T_inodeWord_22 K N a0 ((2 : Int32) + a1) s t _ hk20)) ?_
      rcases px_bi_some h with ⟨v26, s23, t24, hk25, h⟩ | ⟨x27, s23, t24, hk25, h⟩
      · refine px_E_call hM rfl rfl rfl rfl (px_E_mono (by decide) (e_T_blockNumber_22 K N v21 s18 t19 _ hk25)) ?_
        cases h
        exact px_E_ret hM rfl rfl rfl trivial
      · cases h
    · cases h
noncomputable def f_T_entryWord_22 (K : px_K) (N : Nat) (a0 : Int32) (a1 : Int32) (a2 : Int32) (s : px_S) (t : px_W) : Option px_Res :=
  (px_bi (f_T_blockOf_22 K N a0 (a1 / (8 : Int32)) s t) (fun v4 s1 t2 => (px_bi (f_T_at_22 K N v4 (((2 : Int32) * (a1 - a1 / (8 : Int32) * (8 : Int32))) + a2) s1 t2) (fun v9 s6 t7 => (some (.inl (some (.int v9)), s6, t7))) (fun x10 s6 t7 => none))) (fun x5 s1 t2 => none))
set_option maxRecDepth 100000 in
theorem e_T_entryWord_22 (K : px_K) (N : Nat) (a0 : Int32) (a1 : Int32) (a2 : Int32) (s : px_S) (t : px_W) (r : px_Res) (h : f_T_entryWord_22 K N a0 a1 a2 s t = some r) : px_E px_ET px_P 4 151 0 (px_ent 4 [.ref 22, .int a0, .int a1, .int a2]) [] (px_w K s t) r.1 (px_w K r.2.1 r.2.2) := by
  have hM : px_P[151]? = some pm_T_entryWord := rfl
  unfold f_T_entryWord_22 at h
  refine px_blk (i' := 6) (L' := [some (.ref 22), some (.int a0), some (.int a1), some (.int a2)]) (S' := [.int (a1 / (8 : Int32)), .int a0, .ref 22, .ref 22]) (w' := px_w K s t) (q := [¬ (8 : Int32) = 0]) 6 hM rfl (show ¬ (8 : Int32) = 0 from (by decide)) ?_
  rcases px_bi_some h with ⟨v4, s1, t2, hk3, h⟩ | ⟨x5, s1, t2, hk3, h⟩
  · refine px_E_call hM rfl rfl rfl rfl (px_E_mono (by decide) (e_T_blockOf_22 K N a0 (a1 / (8 : Int32)) s t _ hk3)) ?_
    refine px_blk (i' := 14) (L' := [some (.ref 22), some (.int a0), some (.int a1), some (.int a2)]) (S' := [.int (((2 : Int32) * (a1 - a1 / (8 : Int32) * (8 : Int32))) + a2), .int v4, .ref 22]) (w' := px_w K s1 t2) (q := [¬ (8 : Int32) = 0]) 7 hM rfl (show ¬ (8 : Int32) = 0 from (by decide)) ?_
    rcases px_bi_some h with ⟨v9, s6, t7, hk8, h⟩ | ⟨x10, s6, t7, hk8, h⟩
    · refine px_E_call hM rfl rfl rfl rfl (px_E_mono (by decide) (e_T_at_22 K N v4 (((2 : Int32) * (a1 - a1 / (8 : Int32) * (8 : Int32))) + a2) s1 t2 _ hk8)) ?_
      cases h
      exact px_E_ret hM rfl rfl rfl trivial
    · cases h
  · cases h
