/-! THE METHODS AS FUNCTIONS (by program). -/
noncomputable def f_Math_min (K : px_K) (N : Nat) (a0 : Int32) (a1 : Int32) (s : px_S) (t : px_W) : Option px_Res :=
  (some (.inl (some (.int (if a1 < a0 then a1 else a0))), s, t))
set_option maxRecDepth 100000 in
theorem e_Math_min (K : px_K) (N : Nat) (a0 : Int32) (a1 : Int32) (s : px_S) (t : px_W) (r : px_Res) (h : f_Math_min K N a0 a1 s t = some r) : px_E px_ET px_P 1 205 0 (px_ent 2 [.int a0, .int a1]) [] (px_w K s t) r.1 (px_w K r.2.1 r.2.2) := by
  have hM : px_P[205]? = some pm_Math_min := rfl
  unfold f_Math_min at h
  refine px_blk (i' := 2) (L' := [some (.int a0), some (.int a1)]) (S' := [.int a1, .int a0]) (w' := px_w K s t) (q := []) 2 hM rfl trivial ?_
  have hK : px_E px_ET px_P 1 205 6 [some (.int a0), some (.int a1)] [.int (if a1 < a0 then a1 else a0)] (px_w K s t) r.1 (px_w K r.2.1 r.2.2) := by
    cases h
    exact px_E_ret hM rfl rfl rfl trivial
  clear h
  refine px_blkif (c := a1 < a0) (t := 5) (e := 3) (L' := [some (.int a0), some (.int a1)]) (S' := []) (w' := px_w K s t) (q := []) 1 hM rfl trivial (fun hc1 => ?_) (fun hc1 => ?_)
  · rw [if_pos hc1] at hK
    exact px_blk (i' := 6) (L' := [some (.int a0), some (.int a1)]) (S' := [.int a1]) (w' := px_w K s t) (q := []) 1 hM rfl trivial hK
  · rw [if_neg hc1] at hK
    exact px_blk (i' := 6) (L' := [some (.int a0), some (.int a1)]) (S' := [.int a0]) (w' := px_w K s t) (q := []) 2 hM rfl trivial hK
noncomputable def l_V_setRecord_13_44 (K : px_K) (N : Nat) (n : Nat) (u4 : Int32) (u5 : Int32) (m6 : Int32) (s : px_S) (t : px_W) : Option px_LO := match n with
  | 0 => none
  | n + 1 => (if u5 ≤ m6 then (some (.inl (78, [], s, t))) else (px_gd (vp_in (u4 + m6) (K.2.2 21)) (px_let ((s.2.2.1 21) (u4 + m6).toNatClampNeg) (fun v3 => (px_gd (vp_in ((4 : Int32) + ((2 : Int32) * m6)) (K.2.2 20)) (px_let (sA s 20 ((4 : Int32) + ((2 : Int32) * m6)).toNatClampNeg v3) (fun s6 => (px_gd (vp_in v3 (K.2.2 16)) (px_gd (vp_in ((5 : Int32) + ((2 : Int32) * m6)) (K.2.2 20)) (px_let (sA s6 20 ((5 : Int32) + ((2 : Int32) * m6)).toNatClampNeg ((s6.2.2.1 16) v3.toNatClampNeg)) (fun s10 => (l_V_setRecord_13_44 K N n u4 u5 (m6 + (1 : Int32)) s10 t))))))))))))
def a_l_V_setRecord_13_44 (K : px_K) (u4 : Int32) (u5 : Int32) (z : px_LO) (o : Option Value ⊕ Nat) (w2 : px_W) : Prop := match z with
  | .inr (o', s', t') => o = o' ∧ w2 = px_w K s' t'
  | .inl (78, [], s', t') => px_E px_ET px_P 2 190 78 [none, none, none, none, none, none, none, none] [] (px_w K s' t') o w2
  | _ => False
set_option maxRecDepth 100000 in
theorem e_l_V_setRecord_13_44 (K : px_K) (N : Nat) (u4 : Int32) (u5 : Int32) : ∀ (n : Nat) (m6 : Int32) (s : px_S) (t : px_W) (z : px_LO), l_V_setRecord_13_44 K N n u4 u5 m6 s t = some z → ∀ (o : Option Value ⊕ Nat) (w2 : px_W), a_l_V_setRecord_13_44 K u4 u5 z o w2 → px_E px_ET px_P 2 190 44 [some (.ref 13), none, none, none, some (.int u4), some (.int u5), some (.int m6), none] [] (px_w K s t) o w2 := by
  have hM : px_P[190]? = some pm_V_setRecord := rfl
  intro n
  induction n with
  | zero => intro m6 s t z h; cases h
  | succ n ih =>
    intro m6 s t z h o w2 ha
    unfold l_V_setRecord_13_44 at h
    refine px_blkif (c := u5 ≤ m6) (t := 78) (e := 47) (L' := [some (.ref 13), none, none, none, some (.int u4), some (.int u5), some (.int m6), none]) (S' := []) (w' := px_w K s t) (q := []) 3 hM rfl trivial (fun hc1 => ?_) (fun hc1 => ?_)
    · rw [if_pos hc1] at h
      cases h
      exact px_E_le (px_leC_L _ _ (by simp [px_leC, px_le1, Value.category])) ha
    · rw [if_neg hc1] at h
      obtain ⟨hq2, h⟩ := px_gd_some h
      refine px_blk (i' := 54) (L' := [some (.ref 13), none, none, none, some (.int u4), some (.int u5), some (.int m6), some (.int ((s.2.2.1 21) (u4 + m6).toNatClampNeg))]) (S' := []) (w' := px_w K s t) (q := [vp_in (u4 + m6) (K.2.2 21)]) 7 hM rfl (show vp_in (u4 + m6) (K.2.2 21) from hq2) ?_
      obtain ⟨v3, hv4, h⟩ := px_let_some h
      rw [← hv4]
      obtain ⟨hq5, h⟩ := px_gd_some h
      refine px_blk (i' := 63) (L' := [some (.ref 13), none, none, none, some (.int u4), some (.int u5), some (.int m6), some (.int v3)]) (S' := []) (w' := px_w K (sA s 20 ((4 : Int32) + ((2 : Int32) * m6)).toNatClampNeg v3) t) (q := [vp_in ((4 : Int32) + ((2 : Int32) * m6)) (K.2.2 20)]) 9 hM rfl (show vp_in ((4 : Int32) + ((2 : Int32) * m6)) (K.2.2 20) from hq5) ?_
      obtain ⟨s6, hs7, h⟩ := px_let_some h
      rw [← hs7]
      obtain ⟨hq8, h⟩ := px_gd_some h
      refine px_blk (i' := 75) (L' := [some (.ref 13), none, none, none, some (.int u4), some (.int u5), some (.int m6), some (.int v3)]) (S' := [.int ((s6.2.2.1 16) v3.toNatClampNeg), .int ((5 : Int32) + ((2 : Int32) * m6)), .ref 20]) (w' := px_w K s6 t) (q := [vp_in v3 (K.2.2 16)]) 12 hM rfl (show vp_in v3 (K.2.2 16) from hq8) ?_
      obtain ⟨hq9, h⟩ := px_gd_some h
      refine px_blk (i' := 76) (L' := [some (.ref 13), none, none, none, some (.int u4), some (.int u5), some (.int m6), some (.int v3)]) (S' := []) (w' := px_w K (sA s6 20 ((5 : Int32) + ((2 : Int32) * m6)).toNatClampNeg ((s6.2.2.1 16) v3.toNatClampNeg)) t) (q := [vp_in ((5 : Int32) + ((2 : Int32) * m6)) (K.2.2 20)]) 1 hM rfl (show vp_in ((5 : Int32) + ((2 : Int32) * m6)) (K.2.2 20) from hq9) ?_
      obtain ⟨s10, hs11, h⟩ := px_let_some h
      rw [← hs11]
      refine px_blk (i' := 44) (L' := [some (.ref 13), none, none, none, some (.int u4), some (.int u5), some (.int (m6 + (1 : Int32))), some (.int v3)]) (S' := []) (w' := px_w K s10 t) (q := []) 2 hM rfl trivial ?_
      exact px_E_le (px_leC_L _ _ (by simp [px_leC, px_le1, Value.category])) (ih (m6 + (1 : Int32)) s10 t z h o w2 ha)
noncomputable def f_V_setRecord_13 (K : px_K) (N : Nat) (a0 : Int32) (a1 : Int32) (a2 : Int32) (s : px_S) (t : px_W) : Option px_Res :=
  (px_bi (f_Math_min K N (6 : Int32) (a1 - (a2 * (6 : Int32))) s t) (fun v4 s1 t2 => (px_bv (f_Arrays_fill_20 K N (0 : Int32) s1 t2) (fun s6 t7 => (px_gd (vp_in (0 : Int32) (K.2.2 20)) (px_let (sA s6 20 (0 : Int32).toNatClampNeg (s6.1 14)) (fun s12 => (px_gd (vp_in (1 : Int32) (K.2.2 20)) (px_let (sA s12 20 (1 : Int32).toNatClampNeg a0) (fun s15 => (px_gd (vp_in (2 : Int32) (K.2.2 20)) (px_let (sA s15 20 (2 : Int32).toNatClampNeg (if ((a2 * (6 : Int32)) + (6 : Int32)) < a1 then (0 : Int32) else (1 : Int32))) (fun s18 => (px_gd (vp_in (3 : Int32) (K.2.2 20)) (px_let (sA s18 20 (3 : Int32).toNatClampNeg v4) (fun s21 => (px_lp (l_V_setRecord_13_44 K N N (a2 * (6 : Int32)) v4 (0 : Int32) s21 t7) (fun i23 vs24 s25 t26 => (if i23 = 78 then (px_v0 vs24 (some (.inl none, s25, t26))) else none)) (fun z28 => some z28))))))))))))))) (fun x10 s6 t7 => none))) (fun x5 s1 t2 => none))
set_option maxRecDepth 100000 in
theorem e_V_setRecord_13 (K : px_K) (N : Nat) (a0 : Int32) (a1 : Int32) (a2 : Int32) (s : px_S) (t : px_W) (r : px_Res) (h : f_V_setRecord_13 K N a0 a1 a2 s t = some r) : px_E px_ET px_P 2 190 0 (px_ent 8 [.ref 13, .int a0, .int a1, .int a2]) [] (px_w K s t) r.1 (px_w K r.2.1 r.2.2) := by
  have hM : px_P[190]? = some pm_V_setRecord := rfl
  unfold f_V_setRecord_13 at h
  refine px_blk (i' := 8) (L' := [some (.ref 13), some (.int a0), some (.int a1), some (.int a2), some (.int (a2 * (6 : Int32))), none, none, none]) (S' := [.int (a1 - (a2 * (6 : Int32))), .int (6 : Int32)]) (w' := px_w K s t) (q := []) 8 hM rfl trivial ?_
  rcases px_bi_some h with ⟨v4, s1, t2, hk3, h⟩ | ⟨x5, s1, t2, hk3, h⟩
  · refine px_E_call hM rfl rfl rfl rfl (px_E_mono (by decide) (e_Math_min K N (6 : Int32) (a1 - (a2 * (6 : Int32))) s t _ hk3)) ?_
    refine px_blk (i' := 13) (L' := [some (.ref 13), some (.int a0), some (.int a1), some (.int a2), some (.int (a2 * (6 : Int32))), some (.int v4), none, none]) (S' := [.int (0 : Int32), .ref 20]) (w' := px_w K s1 t2) (q := []) 4 hM rfl trivial ?_
    rcases px_bv_some h with ⟨s6, t7, hk8, h⟩ | ⟨x10, s6, t7, hk8, h⟩
    · refine px_E_call hM rfl rfl rfl rfl (px_E_mono (by decide) (e_Arrays_fill_20 K N (0 : Int32) s1 t2 _ hk8)) ?_
      obtain ⟨hq11, h⟩ := px_gd_some h
      refine px_blk (i' := 20) (L' := [some (.ref 13), some (.int a0), some (.int a1), some (.int a2), some (.int (a2 * (6 : Int32))), some (.int v4), none, none]) (S' := []) (w' := px_w K (sA s6 20 (0 : Int32).toNatClampNeg (s6.1 14)) t7) (q := [vp_in (0 : Int32) (K.2.2 20)]) 6 hM rfl (show vp_in (0 : Int32) (K.2.2 20) from hq11) ?_
      obtain ⟨s12, hs13, h⟩ := px_let_some h
      rw [← hs13]
      obtain ⟨hq14, h⟩ := px_gd_some h
      refine px_blk (i' := 25) (L' := [some (.ref 13), some (.int a0), some (.int a1), some (.int a2), some (.int (a2 * (6 : Int32))), some (.int v4), none, none]) (S' := []) (w' := px_w K (sA s12 20 (1 : Int32).toNatClampNeg a0) t7) (q := [vp_in (1 : Int32) (K.2.2 20)]) 5 hM rfl (show vp_in (1 : Int32) (K.2.2 20) from hq14) ?_
      obtain ⟨s15, hs16, h⟩ := px_let_some h
      rw [← hs16]
      refine px_blk (i' := 32) (L' := [some (.ref 13), some (.int a0), some (.int a1), some (.int a2), some (.int (a2 * (6 : Int32))), some (.int v4), none, none]) (S' := [.int a1, .int ((a2 * (6 : Int32)) + (6 : Int32)), .int (2 : Int32), .ref 20]) (w' := px_w K s15 t7) (q := []) 7 hM rfl trivial ?_
      have hK : px_E px_ET px_P 2 190 36 [some (.ref 13), some (.int a0), some (.int a1), some (.int a2), some (.int (a2 * (6 : Int32))), some (.int v4), none, none] [.int (if ((a2 * (6 : Int32)) + (6 : Int32)) < a1 then (0 : Int32) else (1 : Int32)), .int (2 : Int32), .ref 20] (px_w K s15 t7) r.1 (px_w K r.2.1 r.2.2) := by
        obtain ⟨hq17, h⟩ := px_gd_some h
        refine px_blk (i' := 37) (L' := [some (.ref 13), some (.int a0), some (.int a1), some (.int a2), some (.int (a2 * (6 : Int32))), some (.int v4), none, none]) (S' := []) (w' := px_w K (sA s15 20 (2 : Int32).toNatClampNeg (if ((a2 * (6 : Int32)) + (6 : Int32)) < a1 then (0 : Int32) else (1 : Int32))) t7) (q := [vp_in (2 : Int32) (K.2.2 20)]) 1 hM rfl (show vp_in (2 : Int32) (K.2.2 20) from hq17) ?_
        obtain ⟨s18, hs19, h⟩ := px_let_some h
        rw [← hs19]
        obtain ⟨hq20, h⟩ := px_gd_some h
        refine px_blk (i' := 42) (L' := [some (.ref 13), some (.int a0), some (.int a1), some (.int a2), some (.int (a2 * (6 : Int32))), some (.int v4), none, none]) (S' := []) (w' := px_w K (sA s18 20 (3 : Int32).toNatClampNeg v4) t7) (q := [vp_in (3 : Int32) (K.2.2 20)]) 5 hM rfl (show vp_in (3 : Int32) (K.2.2 20) from hq20) ?_
        obtain ⟨s21, hs22, h⟩ := px_let_some h
        rw [← hs22]
        refine px_blk (i' := 44) (L' := [some (.ref 13), some (.int a0), some (.int a1), some (.int a2), some (.int (a2 * (6 : Int32))), some (.int v4), some (.int (0 : Int32)), none]) (S' := []) (w' := px_w K s21 t7) (q := []) 2 hM rfl trivial ?_
        rcases px_lp_some h with ⟨i23, vs24, s25, t26, hl27, h⟩ | ⟨z28, hl27, h⟩
        · by_cases hi29 : i23 = 78
          · subst hi29
            rw [if_pos rfl] at h
            have h9 := px_v0_some h
            clear h
            obtain ⟨rfl, h⟩ := h9
            refine px_E_le (px_leC_L _ _ (by simp [px_leC, px_le1, Value.category])) (e_l_V_setRecord_13_44 K N (a2 * (6 : Int32)) v4 N (0 : Int32) s21 t7 _ hl27 _ _ ?_)
            show px_E px_ET px_P 2 190 78 [none, none, none, none, none, none, none, none] [] (px_w K s25 t26) _ _
            cases h
            exact px_E_ret hM rfl rfl rfl trivial
          · rw [if_neg hi29] at h
            cases h
        · cases h
          exact px_E_le (px_leC_L _ _ (by simp [px_leC, px_le1, Value.category])) (e_l_V_setRecord_13_44 K N (a2 * (6 : Int32)) v4 N (0 : Int32) s21 t7 _ hl27 _ _ ⟨rfl, rfl⟩)
      clear h
      refine px_blkif (c := ((a2 * (6 : Int32)) + (6 : Int32)) < a1) (t := 35) (e := 33) (L' := [some (.ref 13), some (.int a0), some (.int a1), some (.int a2), some (.int (a2 * (6 : Int32))), some (.int v4), none, none]) (S' := [.int (2 : Int32), .ref 20]) (w' := px_w K s15 t7) (q := []) 1 hM rfl trivial (fun hc30 => ?_) (fun hc30 => ?_)
      · rw [if_pos hc30] at hK
        exact px_blk (i' := 36) (L' := [some (.ref 13), some (.int a0), some (.int a1), some (.int a2), some (.int (a2 * (6 : Int32))), some (.int v4), none, none]) (S' := [.int (0 : Int32), .int (2 : Int32), .ref 20]) (w' := px_w K s15 t7) (q := []) 1 hM rfl trivial hK
      · rw [if_neg hc30] at hK
        exact px_blk (i' := 36) (L' := [some (.ref 13), some (.int a0), some (.int a1), some (.int a2), some (.int (a2 * (6 : Int32))), some (.int v4), none, none]) (S' := [.int (1 : Int32), .int (2 : Int32), .ref 20]) (w' := px_w K s15 t7) (q := []) 2 hM rfl trivial hK
    · cases h
  · cases h
noncomputable def f_D_has_8 (K : px_K) (N : Nat) (a0 : Int32) (s : px_S) (t : px_W) : Option px_Res :=
  (px_gd ((if a0 < 0 then (0 : Int32) else (if (s.1 6) ≤ a0 then (0 : Int32) else (1 : Int32))) = 0 ∨ (if a0 < 0 then (0 : Int32) else (if (s.1 6) ≤ a0 then (0 : Int32) else (1 : Int32))) = 1) (some (.inl (some (.int (if a0 < 0 then (0 : Int32) else (if (s.1 6) ≤ a0 then (0 : Int32) else (1 : Int32))))), s, t)))
set_option maxRecDepth 100000 in
theorem e_D_has_8 (K : px_K) (N : Nat) (a0 : Int32) (s : px_S) (t : px_W) (r : px_Res) (h : f_D_has_8 K N a0 s t = some r) : px_E px_ET px_P 1 110 0 (px_ent 2 [.ref 8, .int a0]) [] (px_w K s t) r.1 (px_w K r.2.1 r.2.2) := by
  have hM : px_P[110]? = some pm_D_has := rfl
  unfold f_D_has_8 at h
  refine px_blk (i' := 1) (L' := [some (.ref 8), some (.int a0)]) (S' := [.int a0]) (w' := px_w K s t) (q := []) 1 hM rfl trivial ?_
  have hK : px_E px_ET px_P 1 110 9 [some (.ref 8), some (.int a0)] [.int (if a0 < 0 then (0 : Int32) else (if (s.1 6) ≤ a0 then (0 : Int32) else (1 : Int32)))] (px_w K s t) r.1 (px_w K r.2.1 r.2.2) := by
    obtain ⟨hq1, h⟩ := px_gd_some h
    cases h
    exact px_E_ret hM rfl rfl rfl (show (if a0 < 0 then (0 : Int32) else (if (s.1 6) ≤ a0 then (0 : Int32) else (1 : Int32))) = 0 ∨ (if a0 < 0 then (0 : Int32) else (if (s.1 6) ≤ a0 then (0 : Int32) else (1 : Int32))) = 1 from hq1)
  clear h
  refine px_blkif (c := a0 < 0) (t := 8) (e := 2) (L' := [some (.ref 8), some (.int a0)]) (S' := []) (w' := px_w K s t) (q := []) 1 hM rfl trivial (fun hc2 => ?_) (fun hc2 => ?_)
  · rw [if_pos hc2] at hK
    exact px_blk (i' := 9) (L' := [some (.ref 8), some (.int a0)]) (S' := [.int (0 : Int32)]) (w' := px_w K s t) (q := []) 1 hM rfl trivial hK
  · rw [if_neg hc2] at hK
    refine px_blkif (c := (s.1 6) ≤ a0) (t := 8) (e := 6) (L' := [some (.ref 8), some (.int a0)]) (S' := []) (w' := px_w K s t) (q := []) 4 hM rfl trivial (fun hc3 => ?_) (fun hc3 => ?_)
    · rw [if_pos hc3] at hK
      exact px_blk (i' := 9) (L' := [some (.ref 8), some (.int a0)]) (S' := [.int (0 : Int32)]) (w' := px_w K s t) (q := []) 1 hM rfl trivial hK
    · rw [if_neg hc3] at hK
      exact px_blk (i' := 9) (L' := [some (.ref 8), some (.int a0)]) (S' := [.int (1 : Int32)]) (w' := px_w K s t) (q := []) 2 hM rfl trivial hK
noncomputable def f_D_put_8_20 (K : px_K) (N : Nat) (a0 : Int32) (a1 : Int32) (s : px_S) (t : px_W) : Option px_Res :=
  (px_bi (f_D_has_8 K N a0 s t) (fun v4 s1 t2 => (if v4 = 0 then (some (.inl none, s1, t2)) else (if a1 < 0 then (some (.inl none, s1, t2)) else (if a1 ≤ ((Int32.ofNat (K.2.2 20)) - (16 : Int32)) then (px_let (sQ s1 0 ((s1.2.1 0) + (1 : Int64))) (fun s9 => (if ¬ (lg_cmp (s9.2.1 0) (s9.2.1 1)) = 0 then (if ¬ (s9.1 8) = (64 : Int32) then (px_let (((s9.1 7) + (s9.1 8)) - ((s9.1 7) + (s9.1 8)) / (64 : Int32) * (64 : Int32)) (fun v13 => (px_gd (vp_in v13 (K.2.2 9)) (px_let (sA s9 9 v13.toNatClampNeg a0) (fun s16 => (px_gd (¬ a1 < 0 ∧ ¬ (v13 * (16 : Int32)) < 0 ∧ ¬ (16 : Int32) < 0 ∧ a1.toNatClampNeg + (16 : Int32).toNatClampNeg ≤ K.2.2 20 ∧ (v13 * (16 : Int32)).toNatClampNeg + (16 : Int32).toNatClampNeg ≤ K.2.2 10) (px_let (sF s16 10 (va_cpy (s16.2.2.1 20) (s16.2.2.1 10) a1.toNatClampNeg (v13 * (16 : Int32)).toNatClampNeg (16 : Int32).toNatClampNeg)) (fun s19 => (px_gd (¬ a1 < 0 ∧ ¬ (a0 * (16 : Int32)) < 0 ∧ ¬ (16 : Int32) < 0 ∧ a1.toNatClampNeg + (16 : Int32).toNatClampNeg ≤ K.2.2 20 ∧ (a0 * (16 : Int32)).toNatClampNeg + (16 : Int32).toNatClampNeg ≤ K.2.2 11) (px_let (sF s19 11 (va_cpy (s19.2.2.1 20) (s19.2.2.1 11) a1.toNatClampNeg (a0 * (16 : Int32)).toNatClampNeg (16 : Int32).toNatClampNeg)) (fun s22 => (px_let (sR s22 8 ((s22.1 8) + (1 : Int32))) (fun s24 => (px_let (sR s24 9 ((s24.1 9) + (1 : Int32))) (fun s26 => (some (.inl none, s26, t2))))))))))))))))) else (px_gd ((vp_in (s9.1 7) (K.2.2 9)) ∧ (¬ ((s9.1 7) * (16 : Int32)) < 0 ∧ ¬ (((s9.2.2.1 9) (s9.1 7).toNatClampNeg) * (16 : Int32)) < 0 ∧ ¬ (16 : Int32) < 0 ∧ ((s9.1 7) * (16 : Int32)).toNatClampNeg + (16 : Int32).toNatClampNeg ≤ K.2.2 10 ∧ (((s9.2.2.1 9) (s9.1 7).toNatClampNeg) * (16 : Int32)).toNatClampNeg + (16 : Int32).toNatClampNeg ≤ K.2.2 12)) (px_let (sF s9 12 (va_cpy (s9.2.2.1 10) (s9.2.2.1 12) ((s9.1 7) * (16 : Int32)).toNatClampNeg (((s9.2.2.1 9) (s9.1 7).toNatClampNeg) * (16 : Int32)).toNatClampNeg (16 : Int32).toNatClampNeg)) (fun s30 => (px_let (sR s30 7 (((s30.1 7) + (1 : Int32)) - ((s30.1 7) + (1 : Int32)) / (64 : Int32) * (64 : Int32))) (fun s32 => (px_let (sR s32 8 ((s32.1 8) - (1 : Int32))) (fun s34 => (px_let (((s34.1 7) + (s34.1 8)) - ((s34.1 7) + (s34.1 8)) / (64 : Int32) * (64 : Int32)) (fun v36 => (px_gd (vp_in v36 (K.2.2 9)) (px_let (sA s34 9 v36.toNatClampNeg a0) (fun s39 => (px_gd (¬ a1 < 0 ∧ ¬ (v36 * (16 : Int32)) < 0 ∧ ¬ (16 : Int32) < 0 ∧ a1.toNatClampNeg + (16 : Int32).toNatClampNeg ≤ K.2.2 20 ∧ (v36 * (16 : Int32)).toNatClampNeg + (16 : Int32).toNatClampNeg ≤ K.2.2 10) (px_let (sF s39 10 (va_cpy (s39.2.2.1 20) (s39.2.2.1 10) a1.toNatClampNeg (v36 * (16 : Int32)).toNatClampNeg (16 : Int32).toNatClampNeg)) (fun s42 => (px_gd (¬ a1 < 0 ∧ ¬ (a0 * (16 : Int32)) < 0 ∧ ¬ (16 : Int32) < 0 ∧ a1.toNatClampNeg + (16 : Int32).toNatClampNeg ≤ K.2.2 20 ∧ (a0 * (16 : Int32)).toNatClampNeg + (16 : Int32).toNatClampNeg ≤ K.2.2 11) (px_let (sF s42 11 (va_cpy (s42.2.2.1 20) (s42.2.2.1 11) a1.toNatClampNeg (a0 * (16 : Int32)).toNatClampNeg (16 : Int32).toNatClampNeg)) (fun s45 => (px_let (sR s45 8 ((s45.1 8) + (1 : Int32))) (fun s47 => (px_let (sR s47 9 ((s47.1 9) + (1 : Int32))) (fun s49 => (some (.inl none, s49, t2))))))))))))))))))))))))) else (some (.inr (t2.length + 47), s9, t2 ++ [px_exc 7]))))) else (some (.inl none, s1, t2)))))) (fun x5 s1 t2 => none))
set_option maxRecDepth 100000 in
theorem e_D_put_8_20 (K : px_K) (N : Nat) (a0 : Int32) (a1 : Int32) (s : px_S) (t : px_W) (r : px_Res) (h : f_D_put_8_20 K N a0 a1 s t = some r) : px_E px_ET px_P 9 113 0 (px_ent 5 [.ref 8, .int a0, .ref 20, .int a1]) [] (px_w K s t) r.1 (px_w K r.2.1 r.2.2) := by
  have hM : px_P[113]? = some pm_D_put := rfl
  unfold f_D_put_8_20 at h
  refine px_blk (i' := 2) (L' := [some (.ref 8), some (.int a0), some (.ref 20), some (.int a1), none]) (S' := [.int a0, .ref 8]) (w' := px_w K s t) (q := []) 2 hM rfl trivial ?_
  rcases px_bi_some h with ⟨v4, s1, t2, hk3, h⟩ | ⟨x5, s1, t2, hk3, h⟩
  · refine px_E_call hM rfl rfl rfl rfl (px_E_mono (by decide) (e_D_has_8 K N a0 s t _ hk3)) ?_
    refine px_blkif (c := v4 = 0) (t := 12) (e := 4) (L' := [some (.ref 8), some (.int a0), some (.ref 20), some (.int a1), none]) (S' := []) (w' := px_w K s1 t2) (q := []) 1 hM rfl trivial (fun hc6 => ?_) (fun hc6 => ?_)
    · rw [if_pos hc6] at h
      cases h
      exact px_E_ret hM rfl rfl rfl trivial
    · rw [if_neg hc6] at h
      refine px_blkif (c := a1 < 0) (t := 12) (e := 6) (L' := [some (.ref 8), some (.int a0), some (.ref 20), some (.int a1), none]) (S' := []) (w' := px_w K s1 t2) (q := []) 2 hM rfl trivial (fun hc7 => ?_) (fun hc7 => ?_)
      · rw [if_pos hc7] at h
        cases h
        exact px_E_ret hM rfl rfl rfl trivial
      · rw [if_neg hc7] at h
        refine px_blkif (c := a1 ≤ ((Int32.ofNat (K.2.2 20)) - (16 : Int32))) (t := 13) (e := 12) (L' := [some (.ref 8), some (.int a0), some (.ref 20), some (.int a1), none]) (S' := []) (w' := px_w K s1 t2) (q := []) 6 hM rfl trivial (fun hc8 => ?_) (fun hc8 => ?_)
        · rw [if_pos hc8] at h
          refine px_blk (i' := 20) (L' := [some (.ref 8), some (.int a0), some (.ref 20), some (.int a1), none]) (S' := []) (w' := px_w K (sQ s1 0 ((s1.2.1 0) + (1 : Int64))) t2) (q := []) 7 hM rfl trivial ?_
          obtain ⟨s9, hs10, h⟩ := px_let_some h
          rw [← hs10]
          refine px_blkif (c := ¬ (lg_cmp (s9.2.1 0) (s9.2.1 1)) = 0) (t := 29) (e := 28) (L' := [some (.ref 8), some (.int a0), some (.ref 20), some (.int a1), none]) (S' := []) (w' := px_w K s9 t2) (q := []) 8 hM rfl trivial (fun hc11 => ?_) (fun hc11 => ?_)
          · rw [if_pos hc11] at h
            refine px_blkif (c := ¬ (s9.1 8) = (64 : Int32)) (t := 64) (e := 33) (L' := [some (.ref 8), some (.int a0), some (.ref 20), some (.int a1), none]) (S' := []) (w' := px_w K s9 t2) (q := []) 4 hM rfl trivial (fun hc12 => ?_) (fun hc12 => ?_)
            · rw [if_pos hc12] at h
              refine px_blk (i' := 72) (L' := [some (.ref 8), some (.int a0), some (.ref 20), some (.int a1), some (.int (((s9.1 7) + (s9.1 8)) - ((s9.1 7) + (s9.1 8)) / (64 : Int32) * (64 : Int32)))]) (S' := []) (w' := px_w K s9 t2) (q := [¬ (64 : Int32) = 0]) 8 hM rfl (show ¬ (64 : Int32) = 0 from (by decide)) ?_
              obtain ⟨v13, hv14, h⟩ := px_let_some h
              rw [← hv14]
              obtain ⟨hq15, h⟩ := px_gd_some h
              refine px_blk (i' := 77) (L' := [some (.ref 8), some (.int a0), some (.ref 20), some (.int a1), some (.int v13)]) (S' := []) (w' := px_w K (sA s9 9 v13.toNatClampNeg a0) t2) (q := [vp_in v13 (K.2.2 9)]) 5 hM rfl (show vp_in v13 (K.2.2 9) from hq15) ?_
              obtain ⟨s16, hs17, h⟩ := px_let_some h
              rw [← hs17]
              obtain ⟨hq18, h⟩ := px_gd_some h
              refine px_blk (i' := 86) (L' := [some (.ref 8), some (.int a0), some (.ref 20), some (.int a1), some (.int v13)]) (S' := []) (w' := px_w K (sF s16 10 (va_cpy (s16.2.2.1 20) (s16.2.2.1 10) a1.toNatClampNeg (v13 * (16 : Int32)).toNatClampNeg (16 : Int32).toNatClampNeg)) t2) (q := [¬ a1 < 0 ∧ ¬ (v13 * (16 : Int32)) < 0 ∧ ¬ (16 : Int32) < 0 ∧ a1.toNatClampNeg + (16 : Int32).toNatClampNeg ≤ K.2.2 20 ∧ (v13 * (16 : Int32)).toNatClampNeg + (16 : Int32).toNatClampNeg ≤ K.2.2 10]) 9 hM rfl (show ¬ a1 < 0 ∧ ¬ (v13 * (16 : Int32)) < 0 ∧ ¬ (16 : Int32) < 0 ∧ a1.toNatClampNeg + (16 : Int32).toNatClampNeg ≤ K.2.2 20 ∧ (v13 * (16 : Int32)).toNatClampNeg + (16 : Int32).toNatClampNeg ≤ K.2.2 10 from hq18) ?_
              obtain ⟨s19, hs20, h⟩ := px_let_some h
              rw [← hs20]
              obtain ⟨hq21, h⟩ := px_gd_some h
              refine px_blk (i' := 95) (L' := [some (.ref 8), some (.int a0), some (.ref 20), some (.int a1), some (.int v13)]) (S' := []) (w' := px_w K (sF s19 11 (va_cpy (s19.2.2.1 20) (s19.2.2.1 11) a1.toNatClampNeg (a0 * (16 : Int32)).toNatClampNeg (16 : Int32).toNatClampNeg)) t2) (q := [¬ a1 < 0 ∧ ¬ (a0 * (16 : Int32)) < 0 ∧ ¬ (16 : Int32) < 0 ∧ a1.toNatClampNeg + (16 : Int32).toNatClampNeg ≤ K.2.2 20 ∧ (a0 * (16 : Int32)).toNatClampNeg + (16 : Int32).toNatClampNeg ≤ K.2.2 11]) 9 hM rfl (show ¬ a1 < 0 ∧ ¬ (a0 * (16 : Int32)) < 0 ∧ ¬ (16 : Int32) < 0 ∧ a1.toNatClampNeg + (16 : Int32).toNatClampNeg ≤ K.2.2 20 ∧ (a0 * (16 : Int32)).toNatClampNeg + (16 : Int32).toNatClampNeg ≤ K.2.2 11 from hq21) ?_
              obtain ⟨s22, hs23, h⟩ := px_let_some h
              rw [← hs23]
              refine px_blk (i' := 101) (L' := [some (.ref 8), some (.int a0), some (.ref 20), some (.int a1), some (.int v13)]) (S' := []) (w' := px_w K (sR s22 8 ((s22.1 8) + (1 : Int32))) t2) (q := []) 6 hM rfl trivial ?_
              obtain ⟨s24, hs25, h⟩ := px_let_some h
              rw [← hs25]
              refine px_blk (i' := 107) (L' := [some (.ref 8), some (.int a0), some (.ref 20), some (.int a1), some (.int v13)]) (S' := []) (w' := px_w K (sR s24 9 ((s24.1 9) + (1 : Int32))) t2) (q := []) 6 hM rfl trivial ?_
              obtain ⟨s26, hs27, h⟩ := px_let_some h
              rw [← hs27]
              cases h
              exact px_E_ret hM rfl rfl rfl trivial
            · rw [if_neg hc12] at h
              refine px_blk (i' := 45) (L' := [some (.ref 8), some (.int a0), some (.ref 20), some (.int a1), none]) (S' := [.int (s9.1 7), .ref 9, .ref 12, .int ((s9.1 7) * (16 : Int32)), .ref 10]) (w' := px_w K s9 t2) (q := []) 12 hM rfl trivial ?_
              obtain ⟨⟨hq28, hq29⟩, h⟩ := px_gd_some h
              refine px_blk (i' := 50) (L' := [some (.ref 8), some (.int a0), some (.ref 20), some (.int a1), none]) (S' := []) (w' := px_w K (sF s9 12 (va_cpy (s9.2.2.1 10) (s9.2.2.1 12) ((s9.1 7) * (16 : Int32)).toNatClampNeg (((s9.2.2.1 9) (s9.1 7).toNatClampNeg) * (16 : Int32)).toNatClampNeg (16 : Int32).toNatClampNeg)) t2) (q := [vp_in (s9.1 7) (K.2.2 9), ¬ ((s9.1 7) * (16 : Int32)) < 0 ∧ ¬ (((s9.2.2.1 9) (s9.1 7).toNatClampNeg) * (16 : Int32)) < 0 ∧ ¬ (16 : Int32) < 0 ∧ ((s9.1 7) * (16 : Int32)).toNatClampNeg + (16 : Int32).toNatClampNeg ≤ K.2.2 10 ∧ (((s9.2.2.1 9) (s9.1 7).toNatClampNeg) * (16 : Int32)).toNatClampNeg + (16 : Int32).toNatClampNeg ≤ K.2.2 12]) 5 hM rfl (show (vp_in (s9.1 7) (K.2.2 9)) ∧ (¬ ((s9.1 7) * (16 : Int32)) < 0 ∧ ¬ (((s9.2.2.1 9) (s9.1 7).toNatClampNeg) * (16 : Int32)) < 0 ∧ ¬ (16 : Int32) < 0 ∧ ((s9.1 7) * (16 : Int32)).toNatClampNeg + (16 : Int32).toNatClampNeg ≤ K.2.2 10 ∧ (((s9.2.2.1 9) (s9.1 7).toNatClampNeg) * (16 : Int32)).toNatClampNeg + (16 : Int32).toNatClampNeg ≤ K.2.2 12) from ⟨hq28, hq29⟩) ?_
              obtain ⟨s30, hs31, h⟩ := px_let_some h
              rw [← hs31]
              refine px_blk (i' := 58) (L' := [some (.ref 8), some (.int a0), some (.ref 20), some (.int a1), none]) (S' := []) (w' := px_w K (sR s30 7 (((s30.1 7) + (1 : Int32)) - ((s30.1 7) + (1 : Int32)) / (64 : Int32) * (64 : Int32))) t2) (q := [¬ (64 : Int32) = 0]) 8 hM rfl (show ¬ (64 : Int32) = 0 from (by decide)) ?_
              obtain ⟨s32, hs33, h⟩ := px_let_some h
              rw [← hs33]
              refine px_blk (i' := 64) (L' := [some (.ref 8), some (.int a0), some (.ref 20), some (.int a1), none]) (S' := []) (w' := px_w K (sR s32 8 ((s32.1 8) - (1 : Int32))) t2) (q := []) 6 hM rfl trivial ?_
              obtain ⟨s34, hs35, h⟩ := px_let_some h
              rw [← hs35]
              refine px_blk (i' := 72) (L' := [some (.ref 8), some (.int a0), some (.ref 20), some (.int a1), some (.int (((s34.1 7) + (s34.1 8)) - ((s34.1 7) + (s34.1 8)) / (64 : Int32) * (64 : Int32)))]) (S' := []) (w' := px_w K s34 t2) (q := [¬ (64 : Int32) = 0]) 8 hM rfl (show ¬ (64 : Int32) = 0 from (by decide)) ?_
              obtain ⟨v36, hv37, h⟩ := px_let_some h
              rw [← hv37]
              obtain ⟨hq38, h⟩ := px_gd_some h
              refine px_blk (i' := 77) (L' := [some (.ref 8), some (.int a0), some (.ref 20), some (.int a1), some (.int v36)]) (S' := []) (w' := px_w K (sA s34 9 v36.toNatClampNeg a0) t2) (q := [vp_in v36 (K.2.2 9)]) 5 hM rfl (show vp_in v36 (K.2.2 9) from hq38) ?_
              obtain ⟨s39, hs40, h⟩ := px_let_some h
              rw [← hs40]
              obtain ⟨hq41, h⟩ := px_gd_some h
              refine px_blk (i' := 86) (L' := [some (.ref 8), some (.int a0), some (.ref 20), some (.int a1), some (.int v36)]) (S' := []) (w' := px_w K (sF s39 10 (va_cpy (s39.2.2.1 20) (s39.2.2.1 10) a1.toNatClampNeg (v36 * (16 : Int32)).toNatClampNeg (16 : Int32).toNatClampNeg)) t2) (q := [¬ a1 < 0 ∧ ¬ (v36 * (16 : Int32)) < 0 ∧ ¬ (16 : Int32) < 0 ∧ a1.toNatClampNeg + (16 : Int32).toNatClampNeg ≤ K.2.2 20 ∧ (v36 * (16 : Int32)).toNatClampNeg + (16 : Int32).toNatClampNeg ≤ K.2.2 10]) 9 hM rfl (show ¬ a1 < 0 ∧ ¬ (v36 * (16 : Int32)) < 0 ∧ ¬ (16 : Int32) < 0 ∧ a1.toNatClampNeg + (16 : Int32).toNatClampNeg ≤ K.2.2 20 ∧ (v36 * (16 : Int32)).toNatClampNeg + (16 : Int32).toNatClampNeg ≤ K.2.2 10 from hq41) ?_
              obtain ⟨s42, hs43, h⟩ := px_let_some h
              rw [← hs43]
              obtain ⟨hq44, h⟩ := px_gd_some h
              refine px_blk (i' := 95) (L' := [some (.ref 8), some (.int a0), some (.ref 20), some (.int a1), some (.int v36)]) (S' := []) (w' := px_w K (sF s42 11 (va_cpy (s42.2.2.1 20) (s42.2.2.1 11) a1.toNatClampNeg (a0 * (16 : Int32)).toNatClampNeg (16 : Int32).toNatClampNeg)) t2) (q := [¬ a1 < 0 ∧ ¬ (a0 * (16 : Int32)) < 0 ∧ ¬ (16 : Int32) < 0 ∧ a1.toNatClampNeg + (16 : Int32).toNatClampNeg ≤ K.2.2 20 ∧ (a0 * (16 : Int32)).toNatClampNeg + (16 : Int32).toNatClampNeg ≤ K.2.2 11]) 9 hM rfl (show ¬ a1 < 0 ∧ ¬ (a0 * (16 : Int32)) < 0 ∧ ¬ (16 : Int32) < 0 ∧ a1.toNatClampNeg + (16 : Int32).toNatClampNeg ≤ K.2.2 20 ∧ (a0 * (16 : Int32)).toNatClampNeg + (16 : Int32).toNatClampNeg ≤ K.2.2 11 from hq44) ?_
              obtain ⟨s45, hs46, h⟩ := px_let_some h
              rw [← hs46]
              refine px_blk (i' := 101) (L' := [some (.ref 8), some (.int a0), some (.ref 20), some (.int a1), some (.int v36)]) (S' := []) (w' := px_w K (sR s45 8 ((s45.1 8) + (1 : Int32))) t2) (q := []) 6 hM rfl trivial ?_
              obtain ⟨s47, hs48, h⟩ := px_let_some h
              rw [← hs48]
              refine px_blk (i' := 107) (L' := [some (.ref 8), some (.int a0), some (.ref 20), some (.int a1), some (.int v36)]) (S' := []) (w' := px_w K (sR s47 9 ((s47.1 9) + (1 : Int32))) t2) (q := []) 6 hM rfl trivial ?_
              obtain ⟨s49, hs50, h⟩ := px_let_some h
              rw [← hs50]
              cases h
              exact px_E_ret hM rfl rfl rfl trivial
          · rw [if_neg hc11] at h
            cases h
            exact px_E_throw2 hM rfl rfl (by decide) (by decide) rfl rfl
        · rw [if_neg hc8] at h
          cases h
          exact px_E_ret hM rfl rfl rfl trivial
  · cases h
noncomputable def l_D_flush_8_18 (K : px_K) (N : Nat) (n : Nat) (m1 : Int32) (s : px_S) (t : px_W) : Option px_LO := match n with
  | 0 => none
  | n + 1 => (if (s.1 8) ≤ m1 then (some (.inl (46, [], s, t))) else (px_let (((s.1 7) + m1) - ((s.1 7) + m1) / (64 : Int32) * (64 : Int32)) (fun v2 => (px_gd (vp_in v2 (K.2.2 9)) (px_gd (¬ (v2 * (16 : Int32)) < 0 ∧ ¬ (((s.2.2.1 9) v2.toNatClampNeg) * (16 : Int32)) < 0 ∧ ¬ (16 : Int32) < 0 ∧ (v2 * (16 : Int32)).toNatClampNeg + (16 : Int32).toNatClampNeg ≤ K.2.2 10 ∧ (((s.2.2.1 9) v2.toNatClampNeg) * (16 : Int32)).toNatClampNeg + (16 : Int32).toNatClampNeg ≤ K.2.2 12) (px_let (sF s 12 (va_cpy (s.2.2.1 10) (s.2.2.1 12) (v2 * (16 : Int32)).toNatClampNeg (((s.2.2.1 9) v2.toNatClampNeg) * (16 : Int32)).toNatClampNeg (16 : Int32).toNatClampNeg)) (fun s6 => (l_D_flush_8_18 K N n (m1 + (1 : Int32)) s6 t))))))))
def a_l_D_flush_8_18 (K : px_K) (z : px_LO) (o : Option Value ⊕ Nat) (w2 : px_W) : Prop := match z with
  | .inr (o', s', t') => o = o' ∧ w2 = px_w K s' t'
  | .inl (46, [], s', t') => px_E px_ET px_P 9 114 46 [some (.ref 8), none, none] [] (px_w K s' t') o w2
  | _ => False
set_option maxRecDepth 100000 in
theorem e_l_D_flush_8_18 (K : px_K) (N : Nat) : ∀ (n : Nat) (m1 : Int32) (s : px_S) (t : px_W) (z : px_LO), l_D_flush_8_18 K N n m1 s t = some z → ∀ (o : Option Value ⊕ Nat) (w2 : px_W), a_l_D_flush_8_18 K z o w2 → px_E px_ET px_P 9 114 18 [some (.ref 8), some (.int m1), none] [] (px_w K s t) o w2 := by
  have hM : px_P[114]? = some pm_D_flush := rfl
  intro n
  induction n with
  | zero => intro m1 s t z h; cases h
  | succ n ih =>
    intro m1 s t z h o w2 ha
    unfold l_D_flush_8_18 at h
    refine px_blkif (c := (s.1 8) ≤ m1) (t := 46) (e := 22) (L' := [some (.ref 8), some (.int m1), none]) (S' := []) (w' := px_w K s t) (q := []) 4 hM rfl trivial (fun hc1 => ?_) (fun hc1 => ?_)
    · rw [if_pos hc1] at h
      cases h
      exact px_E_le (px_leC_L _ _ (by simp [px_leC, px_le1, Value.category])) ha
    · rw [if_neg hc1] at h
      refine px_blk (i' := 29) (L' := [some (.ref 8), some (.int m1), some (.int (((s.1 7) + m1) - ((s.1 7) + m1) / (64 : Int32) * (64 : Int32)))]) (S' := []) (w' := px_w K s t) (q := [¬ (64 : Int32) = 0]) 7 hM rfl (show ¬ (64 : Int32) = 0 from (by decide)) ?_
      obtain ⟨v2, hv3, h⟩ := px_let_some h
      rw [← hv3]
      obtain ⟨hq4, h⟩ := px_gd_some h
      refine px_blk (i' := 41) (L' := [some (.ref 8), some (.int m1), some (.int v2)]) (S' := [.int (16 : Int32), .int ((s.2.2.1 9) v2.toNatClampNeg), .ref 12, .int (v2 * (16 : Int32)), .ref 10]) (w' := px_w K s t) (q := [vp_in v2 (K.2.2 9)]) 12 hM rfl (show vp_in v2 (K.2.2 9) from hq4) ?_
      obtain ⟨hq5, h⟩ := px_gd_some h
      refine px_blk (i' := 44) (L' := [some (.ref 8), some (.int m1), some (.int v2)]) (S' := []) (w' := px_w K (sF s 12 (va_cpy (s.2.2.1 10) (s.2.2.1 12) (v2 * (16 : Int32)).toNatClampNeg (((s.2.2.1 9) v2.toNatClampNeg) * (16 : Int32)).toNatClampNeg (16 : Int32).toNatClampNeg)) t) (q := [¬ (v2 * (16 : Int32)) < 0 ∧ ¬ (((s.2.2.1 9) v2.toNatClampNeg) * (16 : Int32)) < 0 ∧ ¬ (16 : Int32) < 0 ∧ (v2 * (16 : Int32)).toNatClampNeg + (16 : Int32).toNatClampNeg ≤ K.2.2 10 ∧ (((s.2.2.1 9) v2.toNatClampNeg) * (16 : Int32)).toNatClampNeg + (16 : Int32).toNatClampNeg ≤ K.2.2 12]) 3 hM rfl (show ¬ (v2 * (16 : Int32)) < 0 ∧ ¬ (((s.2.2.1 9) v2.toNatClampNeg) * (16 : Int32)) < 0 ∧ ¬ (16 : Int32) < 0 ∧ (v2 * (16 : Int32)).toNatClampNeg + (16 : Int32).toNatClampNeg ≤ K.2.2 10 ∧ (((s.2.2.1 9) v2.toNatClampNeg) * (16 : Int32)).toNatClampNeg + (16 : Int32).toNatClampNeg ≤ K.2.2 12 from hq5) ?_
      obtain ⟨s6, hs7, h⟩ := px_let_some h
      rw [← hs7]
      refine px_blk (i' := 18) (L' := [some (.ref 8), some (.int (m1 + (1 : Int32))), some (.int v2)]) (S' := []) (w' := px_w K s6 t) (q := []) 2 hM rfl trivial ?_
      exact px_E_le (px_leC_L _ _ (by simp [px_leC, px_le1, Value.category])) (ih (m1 + (1 : Int32)) s6 t z h o w2 ha)
noncomputable def f_D_flush_8 (K : px_K) (N : Nat) (s : px_S) (t : px_W) : Option px_Res :=
  (px_let (sQ s 0 ((s.2.1 0) + (1 : Int64))) (fun s1 => (if ¬ (lg_cmp (s1.2.1 0) (s1.2.1 1)) = 0 then (px_lp (l_D_flush_8_18 K N N (0 : Int32) s1 t) (fun i4 vs5 s6 t7 => (if i4 = 46 then (px_v0 vs5 (px_let (sR s6 8 (0 : Int32)) (fun s11 => (px_let (sR s11 10 ((s11.1 10) + (1 : Int32))) (fun s13 => (some (.inl none, s13, t7))))))) else none)) (fun z9 => some z9)) else (some (.inr (t.length + 47), s1, t ++ [px_exc 7])))))
set_option maxRecDepth 100000 in
theorem e_D_flush_8 (K : px_K) (N : Nat) (s : px_S) (t : px_W) (r : px_Res) (h : f_D_flush_8 K N s t = some r) : px_E px_ET px_P 9 114 0 (px_ent 3 [.ref 8]) [] (px_w K s t) r.1 (px_w K r.2.1 r.2.2) := by
  have hM : px_P[114]? = some pm_D_flush := rfl
  unfold f_D_flush_8 at h
  refine px_blk (i' := 7) (L' := [some (.ref 8), none, none]) (S' := []) (w' := px_w K (sQ s 0 ((s.2.1 0) + (1 : Int64))) t) (q := []) 7 hM rfl trivial ?_
  obtain ⟨s1, hs2, h⟩ := px_let_some h
  rw [← hs2]
  refine px_blkif (c := ¬ (lg_cmp (s1.2.1 0) (s1.2.1 1)) = 0) (t := 16) (e := 15) (L' := [some (.ref 8), none, none]) (S' := []) (w' := px_w K s1 t) (q := []) 8 hM rfl trivial (fun hc3 => ?_) (fun hc3 => ?_)
  · rw [if_pos hc3] at h
    refine px_blk (i' := 18) (L' := [some (.ref 8), some (.int (0 : Int32)), none]) (S' := []) (w' := px_w K s1 t) (q := []) 2 hM rfl trivial ?_
    rcases px_lp_some h with ⟨i4, vs5, s6, t7, hl8, h⟩ | ⟨z9, hl8, h⟩
    · by_cases hi10 : i4 = 46
      · subst hi10
        rw [if_pos rfl] at h
        have h9 := px_v0_some h
        clear h
        obtain ⟨rfl, h⟩ := h9
        refine e_l_D_flush_8_18 K N N (0 : Int32) s1 t _ hl8 _ _ ?_
        show px_E px_ET px_P 9 114 46 [some (.ref 8), none, none] [] (px_w K s6 t7) _ _
        refine px_blk (i' := 49) (L' := [some (.ref 8), none, none]) (S' := []) (w' := px_w K (sR s6 8 (0 : Int32)) t7) (q := []) 3 hM rfl trivial ?_
        obtain ⟨s11, hs12, h⟩ := px_let_some h
        rw [← hs12]
        refine px_blk (i' := 55) (L' := [some (.ref 8), none, none]) (S' := []) (w' := px_w K (sR s11 10 ((s11.1 10) + (1 : Int32))) t7) (q := []) 6 hM rfl trivial ?_
        obtain ⟨s13, hs14, h⟩ := px_let_some h
        rw [← hs14]
        cases h
        exact px_E_ret hM rfl rfl rfl trivial
      · rw [if_neg hi10] at h
        cases h
    · cases h
      exact e_l_D_flush_8_18 K N N (0 : Int32) s1 t _ hl8 _ _ ⟨rfl, rfl⟩
  · rw [if_neg hc3] at h
    cases h
    exact px_E_throw2 hM rfl rfl (by decide) (by decide) rfl rfl
noncomputable def f_D_at_3 (K : px_K) (N : Nat) (a0 : Int32) (a1 : Int32) (s : px_S) (t : px_W) : Option px_Res :=
  (px_bi (f_D_has_3 K N a0 s t) (fun v4 s1 t2 => (if v4 = 0 then (some (.inl (some (.int (0 : Int32))), s1, t2)) else (if a1 < 0 then (some (.inl (some (.int (0 : Int32))), s1, t2)) else (if (16 : Int32) ≤ a1 then (some (.inl (some (.int (0 : Int32))), s1, t2)) else (px_gd (vp_in ((a0 * (16 : Int32)) + a1) (K.2.2 6)) (some (.inl (some (.int ((s1.2.2.1 6) ((a0 * (16 : Int32)) + a1).toNatClampNeg))), s1, t2))))))) (fun x5 s1 t2 => none))
set_option maxRecDepth 100000 in
theorem e_D_at_3 (K : px_K) (N : Nat) (a0 : Int32) (a1 : Int32) (s : px_S) (t : px_W) (r : px_Res) (h : f_D_at_3 K N a0 a1 s t = some r) : px_E px_ET px_P 2 112 0 (px_ent 3 [.ref 3, .int a0, .int a1]) [] (px_w K s t) r.1 (px_w K r.2.1 r.2.2) := by
  have hM : px_P[112]? = some pm_D_at := rfl
  unfold f_D_at_3 at h
  refine px_blk (i' := 2) (L' := [some (.ref 3), some (.int a0), some (.int a1)]) (S' := [.int a0, .ref 3]) (w' := px_w K s t) (q := []) 2 hM rfl trivial ?_
  rcases px_bi_some h with ⟨v4, s1, t2, hk3, h⟩ | ⟨x5, s1, t2, hk3, h⟩
  · refine px_E_call hM rfl rfl rfl rfl (px_E_mono (by decide) (e_D_has_3 K N a0 s t _ hk3)) ?_
    refine px_blkif (c := v4 = 0) (t := 18) (e := 4) (L' := [some (.ref 3), some (.int a0), some (.int a1)]) (S' := []) (w' := px_w K s1 t2) (q := []) 1 hM rfl trivial (fun hc6 => ?_) (fun hc6 => ?_)
    · rw [if_pos hc6] at h
      refine px_blk (i' := 19) (L' := [some (.ref 3), some (.int a0), some (.int a1)]) (S' := [.int (0 : Int32)]) (w' := px_w K s1 t2) (q := []) 1 hM rfl trivial ?_
      cases h
      exact px_E_ret hM rfl rfl rfl trivial
    · rw [if_neg hc6] at h
      refine px_blkif (c := a1 < 0) (t := 18) (e := 6) (L' := [some (.ref 3), some (.int a0), some (.int a1)]) (S' := []) (w' := px_w K s1 t2) (q := []) 2 hM rfl trivial (fun hc7 => ?_) (fun hc7 => ?_)
      · rw [if_pos hc7] at h
        refine px_blk (i' := 19) (L' := [some (.ref 3), some (.int a0), some (.int a1)]) (S' := [.int (0 : Int32)]) (w' := px_w K s1 t2) (q := []) 1 hM rfl trivial ?_
        cases h
        exact px_E_ret hM rfl rfl rfl trivial
      · rw [if_neg hc7] at h
        refine px_blkif (c := (16 : Int32) ≤ a1) (t := 18) (e := 9) (L' := [some (.ref 3), some (.int a0), some (.int a1)]) (S' := []) (w' := px_w K s1 t2) (q := []) 3 hM rfl trivial (fun hc8 => ?_) (fun hc8 => ?_)
        · rw [if_pos hc8] at h
          refine px_blk (i' := 19) (L' := [some (.ref 3), some (.int a0), some (.int a1)]) (S' := [.int (0 : Int32)]) (w' := px_w K s1 t2) (q := []) 1 hM rfl trivial ?_
          cases h
          exact px_E_ret hM rfl rfl rfl trivial
        · rw [if_neg hc8] at h
          obtain ⟨hq9, h⟩ := px_gd_some h
          refine px_blk (i' := 19) (L' := [some (.ref 3), some (.int a0), some (.int a1)]) (S' := [.int ((s1.2.2.1 6) ((a0 * (16 : Int32)) + a1).toNatClampNeg)]) (w' := px_w K s1 t2) (q := [vp_in ((a0 * (16 : Int32)) + a1) (K.2.2 6)]) 9 hM rfl (show vp_in ((a0 * (16 : Int32)) + a1) (K.2.2 6) from hq9) ?_
          cases h
          exact px_E_ret hM rfl rfl rfl trivial
  · cases h
noncomputable def l_V_changeHalves_13_33 (K : px_K) (N : Nat) (n : Nat) (u1 : Int32) (u2 : Int32) (m3 : Int32) (s : px_S) (t : px_W) : Option px_LO := match n with
  | 0 => none
  | n + 1 => (if u2 ≤ (m3 * (6 : Int32)) then (some (.inl (70, [], s, t))) else (if (24 : Int32) ≤ (s.1 15) then (some (.inl (70, [], s, t))) else (px_bv (f_V_setRecord_13 K N u1 u2 m3 s t) (fun s3 t4 => (px_bv (f_D_put_8_20 K N ((((s3.1 13) * (25 : Int32)) + (1 : Int32)) + (s3.1 15)) (0 : Int32) s3 t4) (fun s8 t9 => (px_let (sR s8 15 ((s8.1 15) + (1 : Int32))) (fun s13 => (l_V_changeHalves_13_33 K N n u1 u2 (m3 + (1 : Int32)) s13 t9)))) (fun x12 s8 t9 => (some (.inr (.inr x12, s8, t9)))))) (fun x7 s3 t4 => none))))
def a_l_V_changeHalves_13_33 (K : px_K) (u1 : Int32) (u2 : Int32) (z : px_LO) (o : Option Value ⊕ Nat) (w2 : px_W) : Prop := match z with
  | .inr (o', s', t') => o = o' ∧ w2 = px_w K s' t'
  | .inl (70, [], s', t') => px_E px_ET px_P 10 191 70 [some (.ref 13), some (.int u1), none, none] [] (px_w K s' t') o w2
  | _ => False
noncomputable def l_V_changeHalves_13_20 (K : px_K) (N : Nat) (n : Nat) (m1 : Int32) (s : px_S) (t : px_W) : Option px_LO := match n with
  | 0 => none
  | n + 1 => (if (s.1 16) ≤ m1 then (some (.inl (72, [], s, t))) else (px_bi (f_S_gather_14_21 K N m1 s t) (fun v5 s2 t3 => (px_lp (l_V_changeHalves_13_33 K N N m1 v5 (0 : Int32) s2 t3) (fun i7 vs8 s9 t10 => (if i7 = 70 then (px_v0 vs8 (l_V_changeHalves_13_20 K N n (m1 + (1 : Int32)) s9 t10)) else none)) (fun z12 => some (.inr z12)))) (fun x6 s2 t3 => none)))
def a_l_V_changeHalves_13_20 (K : px_K) (z : px_LO) (o : Option Value ⊕ Nat) (w2 : px_W) : Prop := match z with
  | .inr (o', s', t') => o = o' ∧ w2 = px_w K s' t'
  | .inl (72, [], s', t') => px_E px_ET px_P 10 191 72 [some (.ref 13), none, none, none] [] (px_w K s' t') o w2
  | _ => False
set_option maxRecDepth 100000 in
theorem e_l_V_changeHalves_13_33 (K : px_K) (N : Nat) (u1 : Int32) (u2 : Int32) : ∀ (n : Nat) (m3 : Int32) (s : px_S) (t : px_W) (z : px_LO), l_V_changeHalves_13_33 K N n u1 u2 m3 s t = some z → ∀ (o : Option Value ⊕ Nat) (w2 : px_W), a_l_V_changeHalves_13_33 K u1 u2 z o w2 → px_E px_ET px_P 10 191 33 [some (.ref 13), some (.int u1), some (.int u2), some (.int m3)] [] (px_w K s t) o w2 := by
  have hM : px_P[191]? = some pm_V_changeHalves := rfl
  intro n
  induction n with
  | zero => intro m3 s t z h; cases h
  | succ n ih =>
    intro m3 s t z h o w2 ha
    unfold l_V_changeHalves_13_33 at h
    refine px_blkif (c := u2 ≤ (m3 * (6 : Int32))) (t := 70) (e := 38) (L' := [some (.ref 13), some (.int u1), some (.int u2), some (.int m3)]) (S' := []) (w' := px_w K s t) (q := []) 5 hM rfl trivial (fun hc1 => ?_) (fun hc1 => ?_)
    · rw [if_pos hc1] at h
      cases h
      exact px_E_le (px_leC_L _ _ (by simp [px_leC, px_le1, Value.category])) ha
    · rw [if_neg hc1] at h
      refine px_blkif (c := (24 : Int32) ≤ (s.1 15)) (t := 70) (e := 42) (L' := [some (.ref 13), some (.int u1), some (.int u2), some (.int m3)]) (S' := []) (w' := px_w K s t) (q := []) 4 hM rfl trivial (fun hc2 => ?_) (fun hc2 => ?_)
      · rw [if_pos hc2] at h
        cases h
        exact px_E_le (px_leC_L _ _ (by simp [px_leC, px_le1, Value.category])) ha
      · rw [if_neg hc2] at h
        refine px_blk (i' := 46) (L' := [some (.ref 13), some (.int u1), some (.int u2), some (.int m3)]) (S' := [.int m3, .int u2, .int u1, .ref 13]) (w' := px_w K s t) (q := []) 4 hM rfl trivial ?_
        rcases px_bv_some h with ⟨s3, t4, hk5, h⟩ | ⟨x7, s3, t4, hk5, h⟩
        · refine px_E_call hM rfl rfl rfl rfl (px_E_mono (by decide) (e_V_setRecord_13 K N u1 u2 m3 s t _ hk5)) ?_
          refine px_blk (i' := 59) (L' := [some (.ref 13), some (.int u1), some (.int u2), some (.int m3)]) (S' := [.ref 13, .int ((((s3.1 13) * (25 : Int32)) + (1 : Int32)) + (s3.1 15)), .ref 8]) (w' := px_w K s3 t4) (q := []) 12 hM rfl trivial ?_
          refine px_blk (i' := 61) (L' := [some (.ref 13), some (.int u1), some (.int u2), some (.int m3)]) (S' := [.int (0 : Int32), .ref 20, .int ((((s3.1 13) * (25 : Int32)) + (1 : Int32)) + (s3.1 15)), .ref 8]) (w' := px_w K s3 t4) (q := []) 2 hM rfl trivial ?_
          rcases px_bv_some h with ⟨s8, t9, hk10, h⟩ | ⟨x12, s8, t9, hk10, h⟩
          · refine px_E_call hM rfl rfl rfl rfl (px_E_mono (by decide) (e_D_put_8_20 K N ((((s3.1 13) * (25 : Int32)) + (1 : Int32)) + (s3.1 15)) (0 : Int32) s3 t4 _ hk10)) ?_
            refine px_blk (i' := 68) (L' := [some (.ref 13), some (.int u1), some (.int u2), some (.int m3)]) (S' := []) (w' := px_w K (sR s8 15 ((s8.1 15) + (1 : Int32))) t9) (q := []) 6 hM rfl trivial ?_
            obtain ⟨s13, hs14, h⟩ := px_let_some h
            rw [← hs14]
            refine px_blk (i' := 33) (L' := [some (.ref 13), some (.int u1), some (.int u2), some (.int (m3 + (1 : Int32)))]) (S' := []) (w' := px_w K s13 t9) (q := []) 2 hM rfl trivial ?_
            exact ih (m3 + (1 : Int32)) s13 t9 z h o w2 ha
          · cases h
            obtain ⟨rfl, rfl⟩ := ha
            exact px_E_callT hM rfl rfl rfl rfl (px_E_mono (by decide) (e_D_put_8_20 K N ((((s3.1 13) * (25 : Int32)) + (1 : Int32)) + (s3.1 15)) (0 : Int32) s3 t4 _ hk10)) rfl
        · cases h
set_option maxRecDepth 100000 in
theorem e_l_V_changeHalves_13_20 (K : px_K) (N : Nat) : ∀ (n : Nat) (m1 : Int32) (s : px_S) (t : px_W) (z : px_LO), l_V_changeHalves_13_20 K N n m1 s t = some z → ∀ (o : Option Value ⊕ Nat) (w2 : px_W), a_l_V_changeHalves_13_20 K z o w2 → px_E px_ET px_P 10 191 20 [some (.ref 13), some (.int m1), none, none] [] (px_w K s t) o w2 := by
  have hM : px_P[191]? = some pm_V_changeHalves := rfl
  intro n
  induction n with
  | zero => intro m1 s t z h; cases h
  | succ n ih =>
    intro m1 s t z h o w2 ha
    unfold l_V_changeHalves_13_20 at h
    refine px_blkif (c := (s.1 16) ≤ m1) (t := 72) (e := 24) (L' := [some (.ref 13), some (.int m1), none, none]) (S' := []) (w' := px_w K s t) (q := []) 4 hM rfl trivial (fun hc1 => ?_) (fun hc1 => ?_)
    · rw [if_pos hc1] at h
      cases h
      exact px_E_le (px_leC_L _ _ (by simp [px_leC, px_le1, Value.category])) ha
    · rw [if_neg hc1] at h
      refine px_blk (i' := 29) (L' := [some (.ref 13), some (.int m1), none, none]) (S' := [.ref 21, .int m1, .ref 14]) (w' := px_w K s t) (q := []) 5 hM rfl trivial ?_
      rcases px_bi_some h with ⟨v5, s2, t3, hk4, h⟩ | ⟨x6, s2, t3, hk4, h⟩
      · refine px_E_call hM rfl rfl rfl rfl (px_E_mono (by decide) (e_S_gather_14_21 K N m1 s t _ hk4)) ?_
        refine px_blk (i' := 33) (L' := [some (.ref 13), some (.int m1), some (.int v5), some (.int (0 : Int32))]) (S' := []) (w' := px_w K s2 t3) (q := []) 3 hM rfl trivial ?_
        rcases px_lp_some h with ⟨i7, vs8, s9, t10, hl11, h⟩ | ⟨z12, hl11, h⟩
        · by_cases hi13 : i7 = 70
          · subst hi13
            rw [if_pos rfl] at h
            have h9 := px_v0_some h
            clear h
            obtain ⟨rfl, h⟩ := h9
            refine e_l_V_changeHalves_13_33 K N m1 v5 N (0 : Int32) s2 t3 _ hl11 _ _ ?_
            show px_E px_ET px_P 10 191 70 [some (.ref 13), some (.int m1), none, none] [] (px_w K s9 t10) _ _
            refine px_blk (i' := 20) (L' := [some (.ref 13), some (.int (m1 + (1 : Int32))), none, none]) (S' := []) (w' := px_w K s9 t10) (q := []) 2 hM rfl trivial ?_
            exact ih (m1 + (1 : Int32)) s9 t10 z h o w2 ha
          · rw [if_neg hi13] at h
            cases h
        · cases h
          obtain ⟨rfl, rfl⟩ := ha
          exact e_l_V_changeHalves_13_33 K N m1 v5 N (0 : Int32) s2 t3 _ hl11 _ _ ⟨rfl, rfl⟩
      · cases h
noncomputable def f_V_changeHalves_13 (K : px_K) (N : Nat) (s : px_S) (t : px_W) : Option px_Res :=
  (px_let (sR s 14 ((s.1 14) + (1 : Int32))) (fun s1 => (px_let (sR s1 13 ((1 : Int32) - (s1.1 13))) (fun s3 => (px_let (sR s3 15 (0 : Int32)) (fun s5 => (px_bi (f_V_landed_13 K N s5 t) (fun v10 s7 t8 => (px_let (v10 + (1 : Int32)) (fun v12 => (px_lp (l_V_changeHalves_13_20 K N N v12 s7 t8) (fun i14 vs15 s16 t17 => (if i14 = 72 then (px_v0 vs15 (px_bv (f_D_flush_8 K N s16 t17) (fun s21 t22 => (px_bi (f_D_at_3 K N (0 : Int32) (0 : Int32) s21 t22) (fun v29 s26 t27 => (px_bv (f_V_setRow_13 K N (s21.1 14) v29 (0 : Int32) s26 t27) (fun s31 t32 => (px_bv (f_D_put_8_20 K N ((s31.1 13) * (25 : Int32)) (0 : Int32) s31 t32) (fun s36 t37 => (px_bv (f_D_flush_8 K N s36 t37) (fun s41 t42 => (some (.inl none, s41, t42))) (fun x45 s41 t42 => (some (.inr x45, s41, t42))))) (fun x40 s36 t37 => (some (.inr x40, s36, t37))))) (fun x35 s31 t32 => none))) (fun x30 s26 t27 => none))) (fun x25 s21 t22 => (some (.inr x25, s21, t22))))) else none)) (fun z19 => some z19))))) (fun x11 s7 t8 => none))))))))
set_option maxRecDepth 100000 in
theorem e_V_changeHalves_13 (K : px_K) (N : Nat) (s : px_S) (t : px_W) (r : px_Res) (h : f_V_changeHalves_13 K N s t = some r) : px_E px_ET px_P 10 191 0 (px_ent 4 [.ref 13]) [] (px_w K s t) r.1 (px_w K r.2.1 r.2.2) := by
  have hM : px_P[191]? = some pm_V_changeHalves := rfl
  unfold f_V_changeHalves_13 at h
  refine px_blk (i' := 6) (L' := [some (.ref 13), none, none, none]) (S' := []) (w' := px_w K (sR s 14 ((s.1 14) + (1 : Int32))) t) (q := []) 6 hM rfl trivial ?_
  obtain ⟨s1, hs2, h⟩ := px_let_some h
  rw [← hs2]
  refine px_blk (i' := 12) (L' := [some (.ref 13), none, none, none]) (S' := []) (w' := px_w K (sR s1 13 ((1 : Int32) - (s1.1 13))) t) (q := []) 6 hM rfl trivial ?_
  obtain ⟨s3, hs4, h⟩ := px_let_some h
  rw [← hs4]
  refine px_blk (i' := 15) (L' := [some (.ref 13), none, none, none]) (S' := []) (w' := px_w K (sR s3 15 (0 : Int32)) t) (q := []) 3 hM rfl trivial ?_
  obtain ⟨s5, hs6, h⟩ := px_let_some h
  rw [← hs6]
  refine px_blk (i' := 16) (L' := [some (.ref 13), none, none, none]) (S' := [.ref 13]) (w' := px_w K s5 t) (q := []) 1 hM rfl trivial ?_
  rcases px_bi_some h with ⟨v10, s7, t8, hk9, h⟩ | ⟨x11, s7, t8, hk9, h⟩
  · refine px_E_call hM rfl rfl rfl rfl (px_E_mono (by decide) (e_V_landed_13 K N s5 t _ hk9)) ?_
    refine px_blk (i' := 20) (L' := [some (.ref 13), some (.int (v10 + (1 : Int32))), none, none]) (S' := []) (w' := px_w K s7 t8) (q := []) 3 hM rfl trivial ?_
    obtain ⟨v12, hv13, h⟩ := px_let_some h
    rw [← hv13]
    rcases px_lp_some h with ⟨i14, vs15, s16, t17, hl18, h⟩ | ⟨z19, hl18, h⟩
    · by_cases hi20 : i14 = 72
      · subst hi20
        rw [if_pos rfl] at h
        have h9 := px_v0_some h
        clear h
        obtain ⟨rfl, h⟩ := h9
        refine e_l_V_changeHalves_13_20 K N N v12 s7 t8 _ hl18 _ _ ?_
        show px_E px_ET px_P 10 191 72 [some (.ref 13), none, none, none] [] (px_w K s16 t17) _ _
        refine px_blk (i' := 74) (L' := [some (.ref 13), none, none, none]) (S' := [.ref 8]) (w' := px_w K s16 t17) (q := []) 2 hM rfl trivial ?_
        rcases px_bv_some h with ⟨s21, t22, hk23, h⟩ | ⟨x25, s21, t22, hk23, h⟩
        · refine px_E_call hM rfl rfl rfl rfl (px_E_mono (by decide) (e_D_flush_8 K N s16 t17 _ hk23)) ?_
          refine px_blk (i' := 82) (L' := [some (.ref 13), none, none, none]) (S' := [.int (0 : Int32), .int (0 : Int32), .ref 3, .int (s21.1 14), .ref 13]) (w' := px_w K s21 t22) (q := []) 7 hM rfl trivial ?_
          rcases px_bi_some h with ⟨v29, s26, t27, hk28, h⟩ | ⟨x30, s26, t27, hk28, h⟩
          · refine px_E_call hM rfl rfl rfl rfl (px_E_mono (by decide) (e_D_at_3 K N (0 : Int32) (0 : Int32) s21 t22 _ hk28)) ?_
            refine px_blk (i' := 84) (L' := [some (.ref 13), none, none, none]) (S' := [.int (0 : Int32), .int v29, .int (s21.1 14), .ref 13]) (w' := px_w K s26 t27) (q := []) 1 hM rfl trivial ?_
            rcases px_bv_some h with ⟨s31, t32, hk33, h⟩ | ⟨x35, s31, t32, hk33, h⟩
            · refine px_E_call hM rfl rfl rfl rfl (px_E_mono (by decide) (e_V_setRow_13 K N (s21.1 14) v29 (0 : Int32) s26 t27 _ hk33)) ?_
              refine px_blk (i' := 94) (L' := [some (.ref 13), none, none, none]) (S' := [.int (0 : Int32), .ref 20, .int ((s31.1 13) * (25 : Int32)), .ref 8]) (w' := px_w K s31 t32) (q := []) 9 hM rfl trivial ?_
              rcases px_bv_some h with ⟨s36, t37, hk38, h⟩ | ⟨x40, s36, t37, hk38, h⟩
              · refine px_E_call hM rfl rfl rfl rfl (px_E_mono (by decide) (e_D_put_8_20 K N ((s31.1 13) * (25 : Int32)) (0 : Int32) s31 t32 _ hk38)) ?_
                refine px_blk (i' := 97) (L' := [some (.ref 13), none, none, none]) (S' := [.ref 8]) (w' := px_w K s36 t37) (q := []) 2 hM rfl trivial ?_
                rcases px_bv_some h with ⟨s41, t42, hk43, h⟩ | ⟨x45, s41, t42, hk43, h⟩
                · refine px_E_call hM rfl rfl rfl rfl (px_E_mono (by decide) (e_D_flush_8 K N s36 t37 _ hk43)) ?_
                  cases h
                  exact px_E_ret hM rfl rfl rfl trivial
                · cases h
                  exact px_E_callT hM rfl rfl rfl rfl (px_E_mono (by decide) (e_D_flush_8 K N s36 t37 _ hk43)) rfl
              · cases h
                exact px_E_callT hM rfl rfl rfl rfl (px_E_mono (by decide) (e_D_put_8_20 K N ((s31.1 13) * (25 : Int32)) (0 : Int32) s31 t32 _ hk38)) rfl
            · cases h
          · cases h
        · cases h
          exact px_E_callT hM rfl rfl rfl rfl (px_E_mono (by decide) (e_D_flush_8 K N s16 t17 _ hk23)) rfl
      · rw [if_neg hi20] at h
        cases h
    · cases h
      exact e_l_V_changeHalves_13_20 K N N v12 s7 t8 _ hl18 _ _ ⟨rfl, rfl⟩
  · cases h
noncomputable def l_V_close_13_6 (K : px_K) (N : Nat) (n : Nat) (m1 : Int32) (s : px_S) (t : px_W) : Option px_LO := match n with
  | 0 => none
  | n + 1 => (if (1000 : Int32) ≤ m1 then (some (.inl (24, [], s, t))) else (px_bi (f_V_landed_13 K N s t) (fun v5 s2 t3 => (if (((s.1 16) - (1 : Int32)) - v5) < (s2.1 11) then (some (.inl (24, [], s2, t3))) else (px_bi (f_V_landOldest_13 K N s2 t3) (fun v11 s8 t9 => (l_V_close_13_6 K N n (m1 + (1 : Int32)) s8 t9)) (fun x12 s8 t9 => (some (.inr (.inr x12, s8, t9))))))) (fun x6 s2 t3 => none)))
def a_l_V_close_13_6 (K : px_K) (z : px_LO) (o : Option Value ⊕ Nat) (w2 : px_W) : Prop := match z with
  | .inr (o', s', t') => o = o' ∧ w2 = px_w K s' t'
  | .inl (24, [], s', t') => px_E px_ET px_P 11 189 24 [some (.ref 13), none, none, none] [] (px_w K s' t') o w2
  | _ => False
noncomputable def l_V_close_13_51 (K : px_K) (N : Nat) (n : Nat) (u1 : Int32) (u2 : Int32) (m3 : Int32) (s : px_S) (t : px_W) : Option px_LO := match n with
  | 0 => none
  | n + 1 => (if u1 ≤ m3 then (some (.inl (91, [], s, t))) else (if ¬ m3 = (u1 - (1 : Int32)) then (px_bv (f_V_setRecord_13 K N (s.1 16) u2 m3 s t) (fun s3 t4 => (px_bv (f_D_put_8_20 K N ((((s3.1 13) * (25 : Int32)) + (1 : Int32)) + (s3.1 15)) (0 : Int32) s3 t4) (fun s8 t9 => (px_let (sR s8 15 ((s8.1 15) + (1 : Int32))) (fun s13 => (l_V_close_13_51 K N n u1 u2 (m3 + (1 : Int32)) s13 t9)))) (fun x12 s8 t9 => (some (.inr (.inr x12, s8, t9)))))) (fun x7 s3 t4 => none)) else (px_bv (f_D_flush_8 K N s t) (fun s15 t16 => (px_bv (f_V_setRecord_13 K N (s15.1 16) u2 m3 s15 t16) (fun s20 t21 => (px_bv (f_D_put_8_20 K N ((((s20.1 13) * (25 : Int32)) + (1 : Int32)) + (s20.1 15)) (0 : Int32) s20 t21) (fun s25 t26 => (px_let (sR s25 15 ((s25.1 15) + (1 : Int32))) (fun s30 => (l_V_close_13_51 K N n u1 u2 (m3 + (1 : Int32)) s30 t26)))) (fun x29 s25 t26 => (some (.inr (.inr x29, s25, t26)))))) (fun x24 s20 t21 => none))) (fun x19 s15 t16 => (some (.inr (.inr x19, s15, t16)))))))
def a_l_V_close_13_51 (K : px_K) (u1 : Int32) (u2 : Int32) (z : px_LO) (o : Option Value ⊕ Nat) (w2 : px_W) : Prop := match z with
  | .inr (o', s', t') => o = o' ∧ w2 = px_w K s' t'
  | .inl (91, [], s', t') => px_E px_ET px_P 11 189 91 [some (.ref 13), none, none, none] [] (px_w K s' t') o w2
  | _ => False
set_option maxRecDepth 100000 in
theorem e_l_V_close_13_6 (K : px_K) (N : Nat) : ∀ (n : Nat) (m1 : Int32) (s : px_S) (t : px_W) (z : px_LO), l_V_close_13_6 K N n m1 s t = some z → ∀ (o : Option Value ⊕ Nat) (w2 : px_W), a_l_V_close_13_6 K z o w2 → px_E px_ET px_P 11 189 6 [some (.ref 13), some (.int m1), none, none] [] (px_w K s t) o w2 := by
  have hM : px_P[189]? = some pm_V_close := rfl
  intro n
  induction n with
  | zero => intro m1 s t z h; cases h
  | succ n ih =>
    intro m1 s t z h o w2 ha
    unfold l_V_close_13_6 at h
    refine px_blkif (c := (1000 : Int32) ≤ m1) (t := 24) (e := 9) (L' := [some (.ref 13), some (.int m1), none, none]) (S' := []) (w' := px_w K s t) (q := []) 3 hM rfl trivial (fun hc1 => ?_) (fun hc1 => ?_)
    · rw [if_pos hc1] at h
      cases h
      exact px_E_le (px_leC_L _ _ (by simp [px_leC, px_le1, Value.category])) ha
    · rw [if_neg hc1] at h
      refine px_blk (i' := 14) (L' := [some (.ref 13), some (.int m1), none, none]) (S' := [.ref 13, .int ((s.1 16) - (1 : Int32))]) (w' := px_w K s t) (q := []) 5 hM rfl trivial ?_
      rcases px_bi_some h with ⟨v5, s2, t3, hk4, h⟩ | ⟨x6, s2, t3, hk4, h⟩
      · refine px_E_call hM rfl rfl rfl rfl (px_E_mono (by decide) (e_V_landed_13 K N s t _ hk4)) ?_
        refine px_blkif (c := (((s.1 16) - (1 : Int32)) - v5) < (s2.1 11)) (t := 24) (e := 19) (L' := [some (.ref 13), some (.int m1), none, none]) (S' := []) (w' := px_w K s2 t3) (q := []) 4 hM rfl trivial (fun hc7 => ?_) (fun hc7 => ?_)
        · rw [if_pos hc7] at h
          cases h
          exact px_E_le (px_leC_L _ _ (by simp [px_leC, px_le1, Value.category])) ha
        · rw [if_neg hc7] at h
          refine px_blk (i' := 20) (L' := [some (.ref 13), some (.int m1), none, none]) (S' := [.ref 13]) (w' := px_w K s2 t3) (q := []) 1 hM rfl trivial ?_
          rcases px_bi_some h with ⟨v11, s8, t9, hk10, h⟩ | ⟨x12, s8, t9, hk10, h⟩
          · refine px_E_call hM rfl rfl rfl rfl (px_E_mono (by decide) (e_V_landOldest_13 K N s2 t3 _ hk10)) ?_
            refine px_blk (i' := 6) (L' := [some (.ref 13), some (.int (m1 + (1 : Int32))), none, none]) (S' := []) (w' := px_w K s8 t9) (q := []) 3 hM rfl trivial ?_
            exact ih (m1 + (1 : Int32)) s8 t9 z h o w2 ha
          · cases h
            obtain ⟨rfl, rfl⟩ := ha
            exact px_E_callT hM rfl rfl rfl rfl (px_E_mono (by decide) (e_V_landOldest_13 K N s2 t3 _ hk10)) rfl
      · cases h
set_option maxRecDepth 100000 in
theorem e_l_V_close_13_51 (K : px_K) (N : Nat) (u1 : Int32) (u2 : Int32) : ∀ (n : Nat) (m3 : Int32) (s : px_S) (t : px_W) (z : px_LO), l_V_close_13_51 K N n u1 u2 m3 s t = some z → ∀ (o : Option Value ⊕ Nat) (w2 : px_W), a_l_V_close_13_51 K u1 u2 z o w2 → px_E px_ET px_P 11 189 51 [some (.ref 13), some (.int u1), some (.int u2), some (.int m3)] [] (px_w K s t) o w2 := by
  have hM : px_P[189]? = some pm_V_close := rfl
  intro n
  induction n with
  | zero => intro m3 s t z h; cases h
  | succ n ih =>
    intro m3 s t z h o w2 ha
    unfold l_V_close_13_51 at h
    refine px_blkif (c := u1 ≤ m3) (t := 91) (e := 54) (L' := [some (.ref 13), some (.int u1), some (.int u2), some (.int m3)]) (S' := []) (w' := px_w K s t) (q := []) 3 hM rfl trivial (fun hc1 => ?_) (fun hc1 => ?_)
    · rw [if_pos hc1] at h
      cases h
      exact px_E_le (px_leC_L _ _ (by simp [px_leC, px_le1, Value.category])) ha
    · rw [if_neg hc1] at h
      refine px_blkif (c := ¬ m3 = (u1 - (1 : Int32))) (t := 62) (e := 59) (L' := [some (.ref 13), some (.int u1), some (.int u2), some (.int m3)]) (S' := []) (w' := px_w K s t) (q := []) 5 hM rfl trivial (fun hc2 => ?_) (fun hc2 => ?_)
      · rw [if_pos hc2] at h
        refine px_blk (i' := 67) (L' := [some (.ref 13), some (.int u1), some (.int u2), some (.int m3)]) (S' := [.int m3, .int u2, .int (s.1 16), .ref 13]) (w' := px_w K s t) (q := []) 5 hM rfl trivial ?_
        rcases px_bv_some h with ⟨s3, t4, hk5, h⟩ | ⟨x7, s3, t4, hk5, h⟩
        · refine px_E_call hM rfl rfl rfl rfl (px_E_mono (by decide) (e_V_setRecord_13 K N (s.1 16) u2 m3 s t _ hk5)) ?_
          refine px_blk (i' := 80) (L' := [some (.ref 13), some (.int u1), some (.int u2), some (.int m3)]) (S' := [.ref 13, .int ((((s3.1 13) * (25 : Int32)) + (1 : Int32)) + (s3.1 15)), .ref 8]) (w' := px_w K s3 t4) (q := []) 12 hM rfl trivial ?_
          refine px_blk (i' := 82) (L' := [some (.ref 13), some (.int u1), some (.int u2), some (.int m3)]) (S' := [.int (0 : Int32), .ref 20, .int ((((s3.1 13) * (25 : Int32)) + (1 : Int32)) + (s3.1 15)), .ref 8]) (w' := px_w K s3 t4) (q := []) 2 hM rfl trivial ?_
          rcases px_bv_some h with ⟨s8, t9, hk10, h⟩ | ⟨x12, s8, t9, hk10, h⟩
          · refine px_E_call hM rfl rfl rfl rfl (px_E_mono (by decide) (e_D_put_8_20 K N ((((s3.1 13) * (25 : Int32)) + (1 : Int32)) + (s3.1 15)) (0 : Int32) s3 t4 _ hk10)) ?_
            refine px_blk (i' := 89) (L' := [some (.ref 13), some (.int u1), some (.int u2), some (.int m3)]) (S' := []) (w' := px_w K (sR s8 15 ((s8.1 15) + (1 : Int32))) t9) (q := []) 6 hM rfl trivial ?_
            obtain ⟨s13, hs14, h⟩ := px_let_some h
            rw [← hs14]
            refine px_blk (i' := 51) (L' := [some (.ref 13), some (.int u1), some (.int u2), some (.int (m3 + (1 : Int32)))]) (S' := []) (w' := px_w K s13 t9) (q := []) 2 hM rfl trivial ?_
            exact ih (m3 + (1 : Int32)) s13 t9 z h o w2 ha
          · cases h
            obtain ⟨rfl, rfl⟩ := ha
            exact px_E_callT hM rfl rfl rfl rfl (px_E_mono (by decide) (e_D_put_8_20 K N ((((s3.1 13) * (25 : Int32)) + (1 : Int32)) + (s3.1 15)) (0 : Int32) s3 t4 _ hk10)) rfl
        · cases h
      · rw [if_neg hc2] at h
        refine px_blk (i' := 61) (L' := [some (.ref 13), some (.int u1), some (.int u2), some (.int m3)]) (S' := [.ref 8]) (w' := px_w K s t) (q := []) 2 hM rfl trivial ?_
        rcases px_bv_some h with ⟨s15, t16, hk17, h⟩ | ⟨x19, s15, t16, hk17, h⟩
        · refine px_E_call hM rfl rfl rfl rfl (px_E_mono (by decide) (e_D_flush_8 K N s t _ hk17)) ?_
          refine px_blk (i' := 67) (L' := [some (.ref 13), some (.int u1), some (.int u2), some (.int m3)]) (S' := [.int m3, .int u2, .int (s15.1 16), .ref 13]) (w' := px_w K s15 t16) (q := []) 5 hM rfl trivial ?_
          rcases px_bv_some h with ⟨s20, t21, hk22, h⟩ | ⟨x24, s20, t21, hk22, h⟩
          · refine px_E_call hM rfl rfl rfl rfl (px_E_mono (by decide) (e_V_setRecord_13 K N (s15.1 16) u2 m3 s15 t16 _ hk22)) ?_
            refine px_blk (i' := 80) (L' := [some (.ref 13), some (.int u1), some (.int u2), some (.int m3)]) (S' := [.ref 13, .int ((((s20.1 13) * (25 : Int32)) + (1 : Int32)) + (s20.1 15)), .ref 8]) (w' := px_w K s20 t21) (q := []) 12 hM rfl trivial ?_
            refine px_blk (i' := 82) (L' := [some (.ref 13), some (.int u1), some (.int u2), some (.int m3)]) (S' := [.int (0 : Int32), .ref 20, .int ((((s20.1 13) * (25 : Int32)) + (1 : Int32)) + (s20.1 15)), .ref 8]) (w' := px_w K s20 t21) (q := []) 2 hM rfl trivial ?_
            rcases px_bv_some h with ⟨s25, t26, hk27, h⟩ | ⟨x29, s25, t26, hk27, h⟩
            · refine px_E_call hM rfl rfl rfl rfl (px_E_mono (by decide) (e_D_put_8_20 K N ((((s20.1 13) * (25 : Int32)) + (1 : Int32)) + (s20.1 15)) (0 : Int32) s20 t21 _ hk27)) ?_
              refine px_blk (i' := 89) (L' := [some (.ref 13), some (.int u1), some (.int u2), some (.int m3)]) (S' := []) (w' := px_w K (sR s25 15 ((s25.1 15) + (1 : Int32))) t26) (q := []) 6 hM rfl trivial ?_
              obtain ⟨s30, hs31, h⟩ := px_let_some h
              rw [← hs31]
              refine px_blk (i' := 51) (L' := [some (.ref 13), some (.int u1), some (.int u2), some (.int (m3 + (1 : Int32)))]) (S' := []) (w' := px_w K s30 t26) (q := []) 2 hM rfl trivial ?_
              exact ih (m3 + (1 : Int32)) s30 t26 z h o w2 ha
            · cases h
              obtain ⟨rfl, rfl⟩ := ha
              exact px_E_callT hM rfl rfl rfl rfl (px_E_mono (by decide) (e_D_put_8_20 K N ((((s20.1 13) * (25 : Int32)) + (1 : Int32)) + (s20.1 15)) (0 : Int32) s20 t21 _ hk27)) rfl
          · cases h
        · cases h
          obtain ⟨rfl, rfl⟩ := ha
          exact px_E_callT hM rfl rfl rfl rfl (px_E_mono (by decide) (e_D_flush_8 K N s t _ hk17)) rfl
noncomputable def f_V_close_13 (K : px_K) (N : Nat) (s : px_S) (t : px_W) : Option px_Res :=
  (if ¬ (s.1 17) = 0 then (px_lp (l_V_close_13_6 K N N (0 : Int32) s t) (fun i2 vs3 s4 t5 => (if i2 = 24 then (px_v0 vs3 (px_let ((((s4.1 17) + (6 : Int32)) - (1 : Int32)) / (6 : Int32)) (fun v9 => (if v9 ≤ ((24 : Int32) - (s4.1 15)) then (px_bi (f_S_gather_14_21 K N (s4.1 16) s4 t5) (fun v15 s12 t13 => (px_lp (l_V_close_13_51 K N N v9 v15 (0 : Int32) s12 t13) (fun i17 vs18 s19 t20 => (if i17 = 91 then (px_v0 vs18 (px_bv (f_D_flush_8 K N s19 t20) (fun s24 t25 => (px_let (sR s24 16 ((s24.1 16) + (1 : Int32))) (fun s29 => (px_let (sR s29 17 (0 : Int32)) (fun s31 => (some (.inl none, s31, t25))))))) (fun x28 s24 t25 => (some (.inr x28, s24, t25))))) else none)) (fun z22 => some z22))) (fun x16 s12 t13 => none)) else (px_bv (f_V_changeHalves_13 K N s4 t5) (fun s33 t34 => (px_bi (f_S_gather_14_21 K N (s33.1 16) s33 t34) (fun v41 s38 t39 => (px_lp (l_V_close_13_51 K N N v9 v41 (0 : Int32) s38 t39) (fun i43 vs44 s45 t46 => (if i43 = 91 then (px_v0 vs44 (px_bv (f_D_flush_8 K N s45 t46) (fun s50 t51 => (px_let (sR s50 16 ((s50.1 16) + (1 : Int32))) (fun s55 => (px_let (sR s55 17 (0 : Int32)) (fun s57 => (some (.inl none, s57, t51))))))) (fun x54 s50 t51 => (some (.inr x54, s50, t51))))) else none)) (fun z48 => some z48))) (fun x42 s38 t39 => none))) (fun x37 s33 t34 => (some (.inr x37, s33, t34)))))))) else none)) (fun z7 => some z7)) else (some (.inl none, s, t)))
set_option maxRecDepth 100000 in
theorem e_V_close_13 (K : px_K) (N : Nat) (s : px_S) (t : px_W) (r : px_Res) (h : f_V_close_13 K N s t = some r) : px_E px_ET px_P 11 189 0 (px_ent 4 [.ref 13]) [] (px_w K s t) r.1 (px_w K r.2.1 r.2.2) := by
  have hM : px_P[189]? = some pm_V_close := rfl
  unfold f_V_close_13 at h
  refine px_blkif (c := ¬ (s.1 17) = 0) (t := 4) (e := 3) (L' := [some (.ref 13), none, none, none]) (S' := []) (w' := px_w K s t) (q := []) 3 hM rfl trivial (fun hc1 => ?_) (fun hc1 => ?_)
  · rw [if_pos hc1] at h
    refine px_blk (i' := 6) (L' := [some (.ref 13), some (.int (0 : Int32)), none, none]) (S' := []) (w' := px_w K s t) (q := []) 2 hM rfl trivial ?_
    rcases px_lp_some h with ⟨i2, vs3, s4, t5, hl6, h⟩ | ⟨z7, hl6, h⟩
    · by_cases hi8 : i2 = 24
      · subst hi8
        rw [if_pos rfl] at h
        have h9 := px_v0_some h
        clear h
        obtain ⟨rfl, h⟩ := h9
        refine e_l_V_close_13_6 K N N (0 : Int32) s t _ hl6 _ _ ?_
        show px_E px_ET px_P 11 189 24 [some (.ref 13), none, none, none] [] (px_w K s4 t5) _ _
        refine px_blk (i' := 33) (L' := [some (.ref 13), some (.int ((((s4.1 17) + (6 : Int32)) - (1 : Int32)) / (6 : Int32))), none, none]) (S' := []) (w' := px_w K s4 t5) (q := [¬ (6 : Int32) = 0]) 9 hM rfl (show ¬ (6 : Int32) = 0 from (by decide)) ?_
        obtain ⟨v9, hv10, h⟩ := px_let_some h
        rw [← hv10]
        refine px_blkif (c := v9 ≤ ((24 : Int32) - (s4.1 15))) (t := 41) (e := 39) (L' := [some (.ref 13), some (.int v9), none, none]) (S' := []) (w' := px_w K s4 t5) (q := []) 6 hM rfl trivial (fun hc11 => ?_) (fun hc11 => ?_)
        · rw [if_pos hc11] at h
          refine px_blk (i' := 47) (L' := [some (.ref 13), some (.int v9), none, none]) (S' := [.ref 21, .int (s4.1 16), .ref 14]) (w' := px_w K s4 t5) (q := []) 6 hM rfl trivial ?_
          rcases px_bi_some h with ⟨v15, s12, t13, hk14, h⟩ | ⟨x16, s12, t13, hk14, h⟩
          · refine px_E_call hM rfl rfl rfl rfl (px_E_mono (by decide) (e_S_gather_14_21 K N (s4.1 16) s4 t5 _ hk14)) ?_
            refine px_blk (i' := 51) (L' := [some (.ref 13), some (.int v9), some (.int v15), some (.int (0 : Int32))]) (S' := []) (w' := px_w K s12 t13) (q := []) 3 hM rfl trivial ?_
            rcases px_lp_some h with ⟨i17, vs18, s19, t20, hl21, h⟩ | ⟨z22, hl21, h⟩
            · by_cases hi23 : i17 = 91
              · subst hi23
                rw [if_pos rfl] at h
                have h9 := px_v0_some h
                clear h
                obtain ⟨rfl, h⟩ := h9
                refine e_l_V_close_13_51 K N v9 v15 N (0 : Int32) s12 t13 _ hl21 _ _ ?_
                show px_E px_ET px_P 11 189 91 [some (.ref 13), none, none, none] [] (px_w K s19 t20) _ _
                refine px_blk (i' := 93) (L' := [some (.ref 13), none, none, none]) (S' := [.ref 8]) (w' := px_w K s19 t20) (q := []) 2 hM rfl trivial ?_
                rcases px_bv_some h with ⟨s24, t25, hk26, h⟩ | ⟨x28, s24, t25, hk26, h⟩
                · refine px_E_call hM rfl rfl rfl rfl (px_E_mono (by decide) (e_D_flush_8 K N s19 t20 _ hk26)) ?_
                  refine px_blk (i' := 100) (L' := [some (.ref 13), none, none, none]) (S' := []) (w' := px_w K (sR s24 16 ((s24.1 16) + (1 : Int32))) t25) (q := []) 6 hM rfl trivial ?_
                  obtain ⟨s29, hs30, h⟩ := px_let_some h
                  rw [← hs30]
                  refine px_blk (i' := 103) (L' := [some (.ref 13), none, none, none]) (S' := []) (w' := px_w K (sR s29 17 (0 : Int32)) t25) (q := []) 3 hM rfl trivial ?_
                  obtain ⟨s31, hs32, h⟩ := px_let_some h
                  rw [← hs32]
                  cases h
                  exact px_E_ret hM rfl rfl rfl trivial
                · cases h
                  exact px_E_callT hM rfl rfl rfl rfl (px_E_mono (by decide) (e_D_flush_8 K N s19 t20 _ hk26)) rfl
              · rw [if_neg hi23] at h
                cases h
            · cases h
              exact e_l_V_close_13_51 K N v9 v15 N (0 : Int32) s12 t13 _ hl21 _ _ ⟨rfl, rfl⟩
          · cases h
        · rw [if_neg hc11] at h
          refine px_blk (i' := 40) (L' := [some (.ref 13), some (.int v9), none, none]) (S' := [.ref 13]) (w' := px_w K s4 t5) (q := []) 1 hM rfl trivial ?_
          rcases px_bv_some h with ⟨s33, t34, hk35, h⟩ | ⟨x37, s33, t34, hk35, h⟩
          · refine px_E_call hM rfl rfl rfl rfl (px_E_mono (by decide) (e_V_changeHalves_13 K N s4 t5 _ hk35)) ?_
            refine px_blk (i' := 47) (L' := [some (.ref 13), some (.int v9), none, none]) (S' := [.ref 21, .int (s33.1 16), .ref 14]) (w' := px_w K s33 t34) (q := []) 6 hM rfl trivial ?_
            rcases px_bi_some h with ⟨v41, s38, t39, hk40, h⟩ | ⟨x42, s38, t39, hk40, h⟩
            · refine px_E_call hM rfl rfl rfl rfl (px_E_mono (by decide) (e_S_gather_14_21 K N (s33.1 16) s33 t34 _ hk40)) ?_
              refine px_blk (i' := 51) (L' := [some (.ref 13), some (.int v9), some (.int v41), some (.int (0 : Int32))]) (S' := []) (w' := px_w K s38 t39) (q := []) 3 hM rfl trivial ?_
              rcases px_lp_some h with ⟨i43, vs44, s45, t46, hl47, h⟩ | ⟨z48, hl47, h⟩
              · by_cases hi49 : i43 = 91
                · subst hi49
                  rw [if_pos rfl] at h
                  have h9 := px_v0_some h
                  clear h
                  obtain ⟨rfl, h⟩ := h9
                  refine e_l_V_close_13_51 K N v9 v41 N (0 : Int32) s38 t39 _ hl47 _ _ ?_
                  show px_E px_ET px_P 11 189 91 [some (.ref 13), none, none, none] [] (px_w K s45 t46) _ _
                  refine px_blk (i' := 93) (L' := [some (.ref 13), none, none, none]) (S' := [.ref 8]) (w' := px_w K s45 t46) (q := []) 2 hM rfl trivial ?_
                  rcases px_bv_some h with ⟨s50, t51, hk52, h⟩ | ⟨x54, s50, t51, hk52, h⟩
                  · refine px_E_call hM rfl rfl rfl rfl (px_E_mono (by decide) (e_D_flush_8 K N s45 t46 _ hk52)) ?_
                    refine px_blk (i' := 100) (L' := [some (.ref 13), none, none, none]) (S' := []) (w' := px_w K (sR s50 16 ((s50.1 16) + (1 : Int32))) t51) (q := []) 6 hM rfl trivial ?_
                    obtain ⟨s55, hs56, h⟩ := px_let_some h
                    rw [← hs56]
                    refine px_blk (i' := 103) (L' := [some (.ref 13), none, none, none]) (S' := []) (w' := px_w K (sR s55 17 (0 : Int32)) t51) (q := []) 3 hM rfl trivial ?_
                    obtain ⟨s57, hs58, h⟩ := px_let_some h
                    rw [← hs58]
                    cases h
                    exact px_E_ret hM rfl rfl rfl trivial
                  · cases h
                    exact px_E_callT hM rfl rfl rfl rfl (px_E_mono (by decide) (e_D_flush_8 K N s45 t46 _ hk52)) rfl
                · rw [if_neg hi49] at h
                  cases h
              · cases h
                exact e_l_V_close_13_51 K N v9 v41 N (0 : Int32) s38 t39 _ hl47 _ _ ⟨rfl, rfl⟩
            · cases h
          · cases h
            exact px_E_callT hM rfl rfl rfl rfl (px_E_mono (by decide) (e_V_changeHalves_13 K N s4 t5 _ hk35)) rfl
      · rw [if_neg hi8] at h
        cases h
    · cases h
      exact e_l_V_close_13_6 K N N (0 : Int32) s t _ hl6 _ _ ⟨rfl, rfl⟩
  · rw [if_neg hc1] at h
    cases h
    exact px_E_ret hM rfl rfl rfl trivial
noncomputable def f_S_setDirty_14 (K : px_K) (N : Nat) (a0 : Int32) (a1 : Int32) (a2 : Int32) (s : px_S) (t : px_W) : Option px_Res :=
  (px_gd (vp_in a0 (K.2.2 15)) (px_let (sA s 15 a0.toNatClampNeg (2 : Int32)) (fun s2 => (px_gd (vp_in a0 (K.2.2 16)) (px_let (sA s2 16 a0.toNatClampNeg a1) (fun s5 => (px_gd (vp_in a0 (K.2.2 17)) (px_let (sA s5 17 a0.toNatClampNeg a2) (fun s8 => (some (.inl none, s8, t)))))))))))
set_option maxRecDepth 100000 in
theorem e_S_setDirty_14 (K : px_K) (N : Nat) (a0 : Int32) (a1 : Int32) (a2 : Int32) (s : px_S) (t : px_W) (r : px_Res) (h : f_S_setDirty_14 K N a0 a1 a2 s t = some r) : px_E px_ET px_P 1 123 0 (px_ent 4 [.ref 14, .int a0, .int a1, .int a2]) [] (px_w K s t) r.1 (px_w K r.2.1 r.2.2) := by
  have hM : px_P[123]? = some pm_S_setDirty := rfl
  unfold f_S_setDirty_14 at h
  obtain ⟨hq1, h⟩ := px_gd_some h
  refine px_blk (i' := 5) (L' := [some (.ref 14), some (.int a0), some (.int a1), some (.int a2)]) (S' := []) (w' := px_w K (sA s 15 a0.toNatClampNeg (2 : Int32)) t) (q := [vp_in a0 (K.2.2 15)]) 5 hM rfl (show vp_in a0 (K.2.2 15) from hq1) ?_
  obtain ⟨s2, hs3, h⟩ := px_let_some h
  rw [← hs3]
  obtain ⟨hq4, h⟩ := px_gd_some h
  refine px_blk (i' := 10) (L' := [some (.ref 14), some (.int a0), some (.int a1), some (.int a2)]) (S' := []) (w' := px_w K (sA s2 16 a0.toNatClampNeg a1) t) (q := [vp_in a0 (K.2.2 16)]) 5 hM rfl (show vp_in a0 (K.2.2 16) from hq4) ?_
  obtain ⟨s5, hs6, h⟩ := px_let_some h
  rw [← hs6]
  obtain ⟨hq7, h⟩ := px_gd_some h
  refine px_blk (i' := 15) (L' := [some (.ref 14), some (.int a0), some (.int a1), some (.int a2)]) (S' := []) (w' := px_w K (sA s5 17 a0.toNatClampNeg a2) t) (q := [vp_in a0 (K.2.2 17)]) 5 hM rfl (show vp_in a0 (K.2.2 17) from hq7) ?_
  obtain ⟨s8, hs9, h⟩ := px_let_some h
  rw [← hs9]
  cases h
  exact px_E_ret hM rfl rfl rfl trivial
noncomputable def f_D_put_8_27 (K : px_K) (N : Nat) (a0 : Int32) (a1 : Int32) (s : px_S) (t : px_W) : Option px_Res :=
  (px_bi (f_D_has_8 K N a0 s t) (fun v4 s1 t2 => (if v4 = 0 then (some (.inl none, s1, t2)) else (if a1 < 0 then (some (.inl none, s1, t2)) else (if a1 ≤ ((Int32.ofNat (K.2.2 27)) - (16 : Int32)) then (px_let (sQ s1 0 ((s1.2.1 0) + (1 : Int64))) (fun s9 => (if ¬ (lg_cmp (s9.2.1 0) (s9.2.1 1)) = 0 then (if ¬ (s9.1 8) = (64 : Int32) then (px_let (((s9.1 7) + (s9.1 8)) - ((s9.1 7) + (s9.1 8)) / (64 : Int32) * (64 : Int32)) (fun v13 => (px_gd (vp_in v13 (K.2.2 9)) (px_let (sA s9 9 v13.toNatClampNeg a0) (fun s16 => (px_gd (¬ a1 < 0 ∧ ¬ (v13 * (16 : Int32)) < 0 ∧ ¬ (16 : Int32) < 0 ∧ a1.toNatClampNeg + (16 : Int32).toNatClampNeg ≤ K.2.2 27 ∧ (v13 * (16 : Int32)).toNatClampNeg + (16 : Int32).toNatClampNeg ≤ K.2.2 10) (px_let (sF s16 10 (va_cpy (s16.2.2.1 27) (s16.2.2.1 10) a1.toNatClampNeg (v13 * (16 : Int32)).toNatClampNeg (16 : Int32).toNatClampNeg)) (fun s19 => (px_gd (¬ a1 < 0 ∧ ¬ (a0 * (16 : Int32)) < 0 ∧ ¬ (16 : Int32) < 0 ∧ a1.toNatClampNeg + (16 : Int32).toNatClampNeg ≤ K.2.2 27 ∧ (a0 * (16 : Int32)).toNatClampNeg + (16 : Int32).toNatClampNeg ≤ K.2.2 11) (px_let (sF s19 11 (va_cpy (s19.2.2.1 27) (s19.2.2.1 11) a1.toNatClampNeg (a0 * (16 : Int32)).toNatClampNeg (16 : Int32).toNatClampNeg)) (fun s22 => (px_let (sR s22 8 ((s22.1 8) + (1 : Int32))) (fun s24 => (px_let (sR s24 9 ((s24.1 9) + (1 : Int32))) (fun s26 => (some (.inl none, s26, t2))))))))))))))))) else (px_gd ((vp_in (s9.1 7) (K.2.2 9)) ∧ (¬ ((s9.1 7) * (16 : Int32)) < 0 ∧ ¬ (((s9.2.2.1 9) (s9.1 7).toNatClampNeg) * (16 : Int32)) < 0 ∧ ¬ (16 : Int32) < 0 ∧ ((s9.1 7) * (16 : Int32)).toNatClampNeg + (16 : Int32).toNatClampNeg ≤ K.2.2 10 ∧ (((s9.2.2.1 9) (s9.1 7).toNatClampNeg) * (16 : Int32)).toNatClampNeg + (16 : Int32).toNatClampNeg ≤ K.2.2 12)) (px_let (sF s9 12 (va_cpy (s9.2.2.1 10) (s9.2.2.1 12) ((s9.1 7) * (16 : Int32)).toNatClampNeg (((s9.2.2.1 9) (s9.1 7).toNatClampNeg) * (16 : Int32)).toNatClampNeg (16 : Int32).toNatClampNeg)) (fun s30 => (px_let (sR s30 7 (((s30.1 7) + (1 : Int32)) - ((s30.1 7) + (1 : Int32)) / (64 : Int32) * (64 : Int32))) (fun s32 => (px_let (sR s32 8 ((s32.1 8) - (1 : Int32))) (fun s34 => (px_let (((s34.1 7) + (s34.1 8)) - ((s34.1 7) + (s34.1 8)) / (64 : Int32) * (64 : Int32)) (fun v36 => (px_gd (vp_in v36 (K.2.2 9)) (px_let (sA s34 9 v36.toNatClampNeg a0) (fun s39 => (px_gd (¬ a1 < 0 ∧ ¬ (v36 * (16 : Int32)) < 0 ∧ ¬ (16 : Int32) < 0 ∧ a1.toNatClampNeg + (16 : Int32).toNatClampNeg ≤ K.2.2 27 ∧ (v36 * (16 : Int32)).toNatClampNeg + (16 : Int32).toNatClampNeg ≤ K.2.2 10) (px_let (sF s39 10 (va_cpy (s39.2.2.1 27) (s39.2.2.1 10) a1.toNatClampNeg (v36 * (16 : Int32)).toNatClampNeg (16 : Int32).toNatClampNeg)) (fun s42 => (px_gd (¬ a1 < 0 ∧ ¬ (a0 * (16 : Int32)) < 0 ∧ ¬ (16 : Int32) < 0 ∧ a1.toNatClampNeg + (16 : Int32).toNatClampNeg ≤ K.2.2 27 ∧ (a0 * (16 : Int32)).toNatClampNeg + (16 : Int32).toNatClampNeg ≤ K.2.2 11) (px_let (sF s42 11 (va_cpy (s42.2.2.1 27) (s42.2.2.1 11) a1.toNatClampNeg (a0 * (16 : Int32)).toNatClampNeg (16 : Int32).toNatClampNeg)) (fun s45 => (px_let (sR s45 8 ((s45.1 8) + (1 : Int32))) (fun s47 => (px_let (sR s47 9 ((s47.1 9) + (1 : Int32))) (fun s49 => (some (.inl none, s49, t2))))))))))))))))))))))))) else (some (.inr (t2.length + 47), s9, t2 ++ [px_exc 7]))))) else (some (.inl none, s1, t2)))))) (fun x5 s1 t2 => none))
set_option maxRecDepth 100000 in
theorem e_D_put_8_27 (K : px_K) (N : Nat) (a0 : Int32) (a1 : Int32) (s : px_S) (t : px_W) (r : px_Res) (h : f_D_put_8_27 K N a0 a1 s t = some r) : px_E px_ET px_P 9 113 0 (px_ent 5 [.ref 8, .int a0, .ref 27, .int a1]) [] (px_w K s t) r.1 (px_w K r.2.1 r.2.2) := by
  have hM : px_P[113]? = some pm_D_put := rfl
  unfold f_D_put_8_27 at h
  refine px_blk (i' := 2) (L' := [some (.ref 8), some (.int a0), some (.ref 27), some (.int a1), none]) (S' := [.int a0, .ref 8]) (w' := px_w K s t) (q := []) 2 hM rfl trivial ?_
  rcases px_bi_some h with ⟨v4, s1, t2, hk3, h⟩ | ⟨x5, s1, t2, hk3, h⟩
  · refine px_E_call hM rfl rfl rfl rfl (px_E_mono (by decide) (e_D_has_8 K N a0 s t _ hk3)) ?_
    refine px_blkif (c := v4 = 0) (t := 12) (e := 4) (L' := [some (.ref 8), some (.int a0), some (.ref 27), some (.int a1), none]) (S' := []) (w' := px_w K s1 t2) (q := []) 1 hM rfl trivial (fun hc6 => ?_) (fun hc6 => ?_)
    · rw [if_pos hc6] at h
      cases h
      exact px_E_ret hM rfl rfl rfl trivial
    · rw [if_neg hc6] at h
      refine px_blkif (c := a1 < 0) (t := 12) (e := 6) (L' := [some (.ref 8), some (.int a0), some (.ref 27), some (.int a1), none]) (S' := []) (w' := px_w K s1 t2) (q := []) 2 hM rfl trivial (fun hc7 => ?_) (fun hc7 => ?_)
      · rw [if_pos hc7] at h
        cases h
        exact px_E_ret hM rfl rfl rfl trivial
      · rw [if_neg hc7] at h
        refine px_blkif (c := a1 ≤ ((Int32.ofNat (K.2.2 27)) - (16 : Int32))) (t := 13) (e := 12) (L' := [some (.ref 8), some (.int a0), some (.ref 27), some (.int a1), none]) (S' := []) (w' := px_w K s1 t2) (q := []) 6 hM rfl trivial (fun hc8 => ?_) (fun hc8 => ?_)
        · rw [if_pos hc8] at h
          refine px_blk (i' := 20) (L' := [some (.ref 8), some (.int a0), some (.ref 27), some (.int a1), none]) (S' := []) (w' := px_w K (sQ s1 0 ((s1.2.1 0) + (1 : Int64))) t2) (q := []) 7 hM rfl trivial ?_
          obtain ⟨s9, hs10, h⟩ := px_let_some h
          rw [← hs10]
          refine px_blkif (c := ¬ (lg_cmp (s9.2.1 0) (s9.2.1 1)) = 0) (t := 29) (e := 28) (L' := [some (.ref 8), some (.int a0), some (.ref 27), some (.int a1), none]) (S' := []) (w' := px_w K s9 t2) (q := []) 8 hM rfl trivial (fun hc11 => ?_) (fun hc11 => ?_)
          · rw [if_pos hc11] at h
            refine px_blkif (c := ¬ (s9.1 8) = (64 : Int32)) (t := 64) (e := 33) (L' := [some (.ref 8), some (.int a0), some (.ref 27), some (.int a1), none]) (S' := []) (w' := px_w K s9 t2) (q := []) 4 hM rfl trivial (fun hc12 => ?_) (fun hc12 => ?_)
            · rw [if_pos hc12] at h
              refine px_blk (i' := 72) (L' := [some (.ref 8), some (.int a0), some (.ref 27), some (.int a1), some (.int (((s9.1 7) + (s9.1 8)) - ((s9.1 7) + (s9.1 8)) / (64 : Int32) * (64 : Int32)))]) (S' := []) (w' := px_w K s9 t2) (q := [¬ (64 : Int32) = 0]) 8 hM rfl (show ¬ (64 : Int32) = 0 from (by decide)) ?_
              obtain ⟨v13, hv14, h⟩ := px_let_some h
              rw [← hv14]
              obtain ⟨hq15, h⟩ := px_gd_some h
              refine px_blk (i' := 77) (L' := [some (.ref 8), some (.int a0), some (.ref 27), some (.int a1), some (.int v13)]) (S' := []) (w' := px_w K (sA s9 9 v13.toNatClampNeg a0) t2) (q := [vp_in v13 (K.2.2 9)]) 5 hM rfl (show vp_in v13 (K.2.2 9) from hq15) ?_
              obtain ⟨s16, hs17, h⟩ := px_let_some h
              rw [← hs17]
              obtain ⟨hq18, h⟩ := px_gd_some h
              refine px_blk (i' := 86) (L' := [some (.ref 8), some (.int a0), some (.ref 27), some (.int a1), some (.int v13)]) (S' := []) (w' := px_w K (sF s16 10 (va_cpy (s16.2.2.1 27) (s16.2.2.1 10) a1.toNatClampNeg (v13 * (16 : Int32)).toNatClampNeg (16 : Int32).toNatClampNeg)) t2) (q := [¬ a1 < 0 ∧ ¬ (v13 * (16 : Int32)) < 0 ∧ ¬ (16 : Int32) < 0 ∧ a1.toNatClampNeg + (16 : Int32).toNatClampNeg ≤ K.2.2 27 ∧ (v13 * (16 : Int32)).toNatClampNeg + (16 : Int32).toNatClampNeg ≤ K.2.2 10]) 9 hM rfl (show ¬ a1 < 0 ∧ ¬ (v13 * (16 : Int32)) < 0 ∧ ¬ (16 : Int32) < 0 ∧ a1.toNatClampNeg + (16 : Int32).toNatClampNeg ≤ K.2.2 27 ∧ (v13 * (16 : Int32)).toNatClampNeg + (16 : Int32).toNatClampNeg ≤ K.2.2 10 from hq18) ?_
              obtain ⟨s19, hs20, h⟩ := px_let_some h
              rw [← hs20]
              obtain ⟨hq21, h⟩ := px_gd_some h
              refine px_blk (i' := 95) (L' := [some (.ref 8), some (.int a0), some (.ref 27), some (.int a1), some (.int v13)]) (S' := []) (w' := px_w K (sF s19 11 (va_cpy (s19.2.2.1 27) (s19.2.2.1 11) a1.toNatClampNeg (a0 * (16 : Int32)).toNatClampNeg (16 : Int32).toNatClampNeg)) t2) (q := [¬ a1 < 0 ∧ ¬ (a0 * (16 : Int32)) < 0 ∧ ¬ (16 : Int32) < 0 ∧ a1.toNatClampNeg + (16 : Int32).toNatClampNeg ≤ K.2.2 27 ∧ (a0 * (16 : Int32)).toNatClampNeg + (16 : Int32).toNatClampNeg ≤ K.2.2 11]) 9 hM rfl (show ¬ a1 < 0 ∧ ¬ (a0 * (16 : Int32)) < 0 ∧ ¬ (16 : Int32) < 0 ∧ a1.toNatClampNeg + (16 : Int32).toNatClampNeg ≤ K.2.2 27 ∧ (a0 * (16 : Int32)).toNatClampNeg + (16 : Int32).toNatClampNeg ≤ K.2.2 11 from hq21) ?_
              obtain ⟨s22, hs23, h⟩ := px_let_some h
              rw [← hs23]
              refine px_blk (i' := 101) (L' := [some (.ref 8), some (.int a0), some (.ref 27), some (.int a1), some (.int v13)]) (S' := []) (w' := px_w K (sR s22 8 ((s22.1 8) + (1 : Int32))) t2) (q := []) 6 hM rfl trivial ?_
              obtain ⟨s24, hs25, h⟩ := px_let_some h
              rw [← hs25]
              refine px_blk (i' := 107) (L' := [some (.ref 8), some (.int a0), some (.ref 27), some (.int a1), some (.int v13)]) (S' := []) (w' := px_w K (sR s24 9 ((s24.1 9) + (1 : Int32))) t2) (q := []) 6 hM rfl trivial ?_
              obtain ⟨s26, hs27, h⟩ := px_let_some h
              rw [← hs27]
              cases h
              exact px_E_ret hM rfl rfl rfl trivial
            · rw [if_neg hc12] at h
              refine px_blk (i' := 45) (L' := [some (.ref 8), some (.int a0), some (.ref 27), some (.int a1), none]) (S' := [.int (s9.1 7), .ref 9, .ref 12, .int ((s9.1 7) * (16 : Int32)), .ref 10]) (w' := px_w K s9 t2) (q := []) 12 hM rfl trivial ?_
              obtain ⟨⟨hq28, hq29⟩, h⟩ := px_gd_some h
              refine px_blk (i' := 50) (L' := [some (.ref 8), some (.int a0), some (.ref 27), some (.int a1), none]) (S' := []) (w' := px_w K (sF s9 12 (va_cpy (s9.2.2.1 10) (s9.2.2.1 12) ((s9.1 7) * (16 : Int32)).toNatClampNeg (((s9.2.2.1 9) (s9.1 7).toNatClampNeg) * (16 : Int32)).toNatClampNeg (16 : Int32).toNatClampNeg)) t2) (q := [vp_in (s9.1 7) (K.2.2 9), ¬ ((s9.1 7) * (16 : Int32)) < 0 ∧ ¬ (((s9.2.2.1 9) (s9.1 7).toNatClampNeg) * (16 : Int32)) < 0 ∧ ¬ (16 : Int32) < 0 ∧ ((s9.1 7) * (16 : Int32)).toNatClampNeg + (16 : Int32).toNatClampNeg ≤ K.2.2 10 ∧ (((s9.2.2.1 9) (s9.1 7).toNatClampNeg) * (16 : Int32)).toNatClampNeg + (16 : Int32).toNatClampNeg ≤ K.2.2 12]) 5 hM rfl (show (vp_in (s9.1 7) (K.2.2 9)) ∧ (¬ ((s9.1 7) * (16 : Int32)) < 0 ∧ ¬ (((s9.2.2.1 9) (s9.1 7).toNatClampNeg) * (16 : Int32)) < 0 ∧ ¬ (16 : Int32) < 0 ∧ ((s9.1 7) * (16 : Int32)).toNatClampNeg + (16 : Int32).toNatClampNeg ≤ K.2.2 10 ∧ (((s9.2.2.1 9) (s9.1 7).toNatClampNeg) * (16 : Int32)).toNatClampNeg + (16 : Int32).toNatClampNeg ≤ K.2.2 12) from ⟨hq28, hq29⟩) ?_
              obtain ⟨s30, hs31, h⟩ := px_let_some h
              rw [← hs31]
              refine px_blk (i' := 58) (L' := [some (.ref 8), some (.int a0), some (.ref 27), some (.int a1), none]) (S' := []) (w' := px_w K (sR s30 7 (((s30.1 7) + (1 : Int32)) - ((s30.1 7) + (1 : Int32)) / (64 : Int32) * (64 : Int32))) t2) (q := [¬ (64 : Int32) = 0]) 8 hM rfl (show ¬ (64 : Int32) = 0 from (by decide)) ?_
              obtain ⟨s32, hs33, h⟩ := px_let_some h
              rw [← hs33]
              refine px_blk (i' := 64) (L' := [some (.ref 8), some (.int a0), some (.ref 27), some (.int a1), none]) (S' := []) (w' := px_w K (sR s32 8 ((s32.1 8) - (1 : Int32))) t2) (q := []) 6 hM rfl trivial ?_
              obtain ⟨s34, hs35, h⟩ := px_let_some h
              rw [← hs35]
              refine px_blk (i' := 72) (L' := [some (.ref 8), some (.int a0), some (.ref 27), some (.int a1), some (.int (((s34.1 7) + (s34.1 8)) - ((s34.1 7) + (s34.1 8)) / (64 : Int32) * (64 : Int32)))]) (S' := []) (w' := px_w K s34 t2) (q := [¬ (64 : Int32) = 0]) 8 hM rfl (show ¬ (64 : Int32) = 0 from (by decide)) ?_
              obtain ⟨v36, hv37, h⟩ := px_let_some h
              rw [← hv37]
              obtain ⟨hq38, h⟩ := px_gd_some h
              refine px_blk (i' := 77) (L' := [some (.ref 8), some (.int a0), some (.ref 27), some (.int a1), some (.int v36)]) (S' := []) (w' := px_w K (sA s34 9 v36.toNatClampNeg a0) t2) (q := [vp_in v36 (K.2.2 9)]) 5 hM rfl (show vp_in v36 (K.2.2 9) from hq38) ?_
              obtain ⟨s39, hs40, h⟩ := px_let_some h
              rw [← hs40]
              obtain ⟨hq41, h⟩ := px_gd_some h
              refine px_blk (i' := 86) (L' := [some (.ref 8), some (.int a0), some (.ref 27), some (.int a1), some (.int v36)]) (S' := []) (w' := px_w K (sF s39 10 (va_cpy (s39.2.2.1 27) (s39.2.2.1 10) a1.toNatClampNeg (v36 * (16 : Int32)).toNatClampNeg (16 : Int32).toNatClampNeg)) t2) (q := [¬ a1 < 0 ∧ ¬ (v36 * (16 : Int32)) < 0 ∧ ¬ (16 : Int32) < 0 ∧ a1.toNatClampNeg + (16 : Int32).toNatClampNeg ≤ K.2.2 27 ∧ (v36 * (16 : Int32)).toNatClampNeg + (16 : Int32).toNatClampNeg ≤ K.2.2 10]) 9 hM rfl (show ¬ a1 < 0 ∧ ¬ (v36 * (16 : Int32)) < 0 ∧ ¬ (16 : Int32) < 0 ∧ a1.toNatClampNeg + (16 : Int32).toNatClampNeg ≤ K.2.2 27 ∧ (v36 * (16 : Int32)).toNatClampNeg + (16 : Int32).toNatClampNeg ≤ K.2.2 10 from hq41) ?_
              obtain ⟨s42, hs43, h⟩ := px_let_some h
              rw [← hs43]
              obtain ⟨hq44, h⟩ := px_gd_some h
              refine px_blk (i' := 95) (L' := [some (.ref 8), some (.int a0), some (.ref 27), some (.int a1), some (.int v36)]) (S' := []) (w' := px_w K (sF s42 11 (va_cpy (s42.2.2.1 27) (s42.2.2.1 11) a1.toNatClampNeg (a0 * (16 : Int32)).toNatClampNeg (16 : Int32).toNatClampNeg)) t2) (q := [¬ a1 < 0 ∧ ¬ (a0 * (16 : Int32)) < 0 ∧ ¬ (16 : Int32) < 0 ∧ a1.toNatClampNeg + (16 : Int32).toNatClampNeg ≤ K.2.2 27 ∧ (a0 * (16 : Int32)).toNatClampNeg + (16 : Int32).toNatClampNeg ≤ K.2.2 11]) 9 hM rfl (show ¬ a1 < 0 ∧ ¬ (a0 * (16 : Int32)) < 0 ∧ ¬ (16 : Int32) < 0 ∧ a1.toNatClampNeg + (16 : Int32).toNatClampNeg ≤ K.2.2 27 ∧ (a0 * (16 : Int32)).toNatClampNeg + (16 : Int32).toNatClampNeg ≤ K.2.2 11 from hq44) ?_
              obtain ⟨s45, hs46, h⟩ := px_let_some h
              rw [← hs46]
              refine px_blk (i' := 101) (L' := [some (.ref 8), some (.int a0), some (.ref 27), some (.int a1), some (.int v36)]) (S' := []) (w' := px_w K (sR s45 8 ((s45.1 8) + (1 : Int32))) t2) (q := []) 6 hM rfl trivial ?_
              obtain ⟨s47, hs48, h⟩ := px_let_some h
              rw [← hs48]
              refine px_blk (i' := 107) (L' := [some (.ref 8), some (.int a0), some (.ref 27), some (.int a1), some (.int v36)]) (S' := []) (w' := px_w K (sR s47 9 ((s47.1 9) + (1 : Int32))) t2) (q := []) 6 hM rfl trivial ?_
              obtain ⟨s49, hs50, h⟩ := px_let_some h
              rw [← hs50]
              cases h
              exact px_E_ret hM rfl rfl rfl trivial
          · rw [if_neg hc11] at h
            cases h
            exact px_E_throw2 hM rfl rfl (by decide) (by decide) rfl rfl
        · rw [if_neg hc8] at h
          cases h
          exact px_E_ret hM rfl rfl rfl trivial
  · cases h
noncomputable def f_D_put_3_27 (K : px_K) (N : Nat) (a0 : Int32) (a1 : Int32) (s : px_S) (t : px_W) : Option px_Res :=
  (px_bi (f_D_has_3 K N a0 s t) (fun v4 s1 t2 => (if v4 = 0 then (some (.inl none, s1, t2)) else (if a1 < 0 then (some (.inl none, s1, t2)) else (if a1 ≤ ((Int32.ofNat (K.2.2 27)) - (16 : Int32)) then (px_let (sQ s1 0 ((s1.2.1 0) + (1 : Int64))) (fun s9 => (if ¬ (lg_cmp (s9.2.1 0) (s9.2.1 1)) = 0 then (if ¬ (s9.1 3) = (64 : Int32) then (px_let (((s9.1 2) + (s9.1 3)) - ((s9.1 2) + (s9.1 3)) / (64 : Int32) * (64 : Int32)) (fun v13 => (px_gd (vp_in v13 (K.2.2 4)) (px_let (sA s9 4 v13.toNatClampNeg a0) (fun s16 => (px_gd (¬ a1 < 0 ∧ ¬ (v13 * (16 : Int32)) < 0 ∧ ¬ (16 : Int32) < 0 ∧ a1.toNatClampNeg + (16 : Int32).toNatClampNeg ≤ K.2.2 27 ∧ (v13 * (16 : Int32)).toNatClampNeg + (16 : Int32).toNatClampNeg ≤ K.2.2 5) (px_let (sF s16 5 (va_cpy (s16.2.2.1 27) (s16.2.2.1 5) a1.toNatClampNeg (v13 * (16 : Int32)).toNatClampNeg (16 : Int32).toNatClampNeg)) (fun s19 => (px_gd (¬ a1 < 0 ∧ ¬ (a0 * (16 : Int32)) < 0 ∧ ¬ (16 : Int32) < 0 ∧ a1.toNatClampNeg + (16 : Int32).toNatClampNeg ≤ K.2.2 27 ∧ (a0 * (16 : Int32)).toNatClampNeg + (16 : Int32).toNatClampNeg ≤ K.2.2 6) (px_let (sF s19 6 (va_cpy (s19.2.2.1 27) (s19.2.2.1 6) a1.toNatClampNeg (a0 * (16 : Int32)).toNatClampNeg (16 : Int32).toNatClampNeg)) (fun s22 => (px_let (sR s22 3 ((s22.1 3) + (1 : Int32))) (fun s24 => (px_let (sR s24 4 ((s24.1 4) + (1 : Int32))) (fun s26 => (some (.inl none, s26, t2))))))))))))))))) else (px_gd ((vp_in (s9.1 2) (K.2.2 4)) ∧ (¬ ((s9.1 2) * (16 : Int32)) < 0 ∧ ¬ (((s9.2.2.1 4) (s9.1 2).toNatClampNeg) * (16 : Int32)) < 0 ∧ ¬ (16 : Int32) < 0 ∧ ((s9.1 2) * (16 : Int32)).toNatClampNeg + (16 : Int32).toNatClampNeg ≤ K.2.2 5 ∧ (((s9.2.2.1 4) (s9.1 2).toNatClampNeg) * (16 : Int32)).toNatClampNeg + (16 : Int32).toNatClampNeg ≤ K.2.2 7)) (px_let (sF s9 7 (va_cpy (s9.2.2.1 5) (s9.2.2.1 7) ((s9.1 2) * (16 : Int32)).toNatClampNeg (((s9.2.2.1 4) (s9.1 2).toNatClampNeg) * (16 : Int32)).toNatClampNeg (16 : Int32).toNatClampNeg)) (fun s30 => (px_let (sR s30 2 (((s30.1 2) + (1 : Int32)) - ((s30.1 2) + (1 : Int32)) / (64 : Int32) * (64 : Int32))) (fun s32 => (px_let (sR s32 3 ((s32.1 3) - (1 : Int32))) (fun s34 => (px_let (((s34.1 2) + (s34.1 3)) - ((s34.1 2) + (s34.1 3)) / (64 : Int32) * (64 : Int32)) (fun v36 => (px_gd (vp_in v36 (K.2.2 4)) (px_let (sA s34 4 v36.toNatClampNeg a0) (fun s39 => (px_gd (¬ a1 < 0 ∧ ¬ (v36 * (16 : Int32)) < 0 ∧ ¬ (16 : Int32) < 0 ∧ a1.toNatClampNeg + (16 : Int32).toNatClampNeg ≤ K.2.2 27 ∧ (v36 * (16 : Int32)).toNatClampNeg + (16 : Int32).toNatClampNeg ≤ K.2.2 5) (px_let (sF s39 5 (va_cpy (s39.2.2.1 27) (s39.2.2.1 5) a1.toNatClampNeg (v36 * (16 : Int32)).toNatClampNeg (16 : Int32).toNatClampNeg)) (fun s42 => (px_gd (¬ a1 < 0 ∧ ¬ (a0 * (16 : Int32)) < 0 ∧ ¬ (16 : Int32) < 0 ∧ a1.toNatClampNeg + (16 : Int32).toNatClampNeg ≤ K.2.2 27 ∧ (a0 * (16 : Int32)).toNatClampNeg + (16 : Int32).toNatClampNeg ≤ K.2.2 6) (px_let (sF s42 6 (va_cpy (s42.2.2.1 27) (s42.2.2.1 6) a1.toNatClampNeg (a0 * (16 : Int32)).toNatClampNeg (16 : Int32).toNatClampNeg)) (fun s45 => (px_let (sR s45 3 ((s45.1 3) + (1 : Int32))) (fun s47 => (px_let (sR s47 4 ((s47.1 4) + (1 : Int32))) (fun s49 => (some (.inl none, s49, t2))))))))))))))))))))))))) else (some (.inr (t2.length + 47), s9, t2 ++ [px_exc 7]))))) else (some (.inl none, s1, t2)))))) (fun x5 s1 t2 => none))
set_option maxRecDepth 100000 in
theorem e_D_put_3_27 (K : px_K) (N : Nat) (a0 : Int32) (a1 : Int32) (s : px_S) (t : px_W) (r : px_Res) (h : f_D_put_3_27 K N a0 a1 s t = some r) : px_E px_ET px_P 9 113 0 (px_ent 5 [.ref 3, .int a0, .ref 27, .int a1]) [] (px_w K s t) r.1 (px_w K r.2.1 r.2.2) := by
  have hM : px_P[113]? = some pm_D_put := rfl
  unfold f_D_put_3_27 at h
  refine px_blk (i' := 2) (L' := [some (.ref 3), some (.int a0), some (.ref 27), some (.int a1), none]) (S' := [.int a0, .ref 3]) (w' := px_w K s t) (q := []) 2 hM rfl trivial ?_
  rcases px_bi_some h with ⟨v4, s1, t2, hk3, h⟩ | ⟨x5, s1, t2, hk3, h⟩
  · refine px_E_call hM rfl rfl rfl rfl (px_E_mono (by decide) (e_D_has_3 K N a0 s t _ hk3)) ?_
    refine px_blkif (c := v4 = 0) (t := 12) (e := 4) (L' := [some (.ref 3), some (.int a0), some (.ref 27), some (.int a1), none]) (S' := []) (w' := px_w K s1 t2) (q := []) 1 hM rfl trivial (fun hc6 => ?_) (fun hc6 => ?_)
    · rw [if_pos hc6] at h
      cases h
      exact px_E_ret hM rfl rfl rfl trivial
    · rw [if_neg hc6] at h
      refine px_blkif (c := a1 < 0) (t := 12) (e := 6) (L' := [some (.ref 3), some (.int a0), some (.ref 27), some (.int a1), none]) (S' := []) (w' := px_w K s1 t2) (q := []) 2 hM rfl trivial (fun hc7 => ?_) (fun hc7 => ?_)
      · rw [if_pos hc7] at h
        cases h
        exact px_E_ret hM rfl rfl rfl trivial
      · rw [if_neg hc7] at h
        refine px_blkif (c := a1 ≤ ((Int32.ofNat (K.2.2 27)) - (16 : Int32))) (t := 13) (e := 12) (L' := [some (.ref 3), some (.int a0), some (.ref 27), some (.int a1), none]) (S' := []) (w' := px_w K s1 t2) (q := []) 6 hM rfl trivial (fun hc8 => ?_) (fun hc8 => ?_)
        · rw [if_pos hc8] at h
          refine px_blk (i' := 20) (L' := [some (.ref 3), some (.int a0), some (.ref 27), some (.int a1), none]) (S' := []) (w' := px_w K (sQ s1 0 ((s1.2.1 0) + (1 : Int64))) t2) (q := []) 7 hM rfl trivial ?_
          obtain ⟨s9, hs10, h⟩ := px_let_some h
          rw [← hs10]
          refine px_blkif (c := ¬ (lg_cmp (s9.2.1 0) (s9.2.1 1)) = 0) (t := 29) (e := 28) (L' := [some (.ref 3), some (.int a0), some (.ref 27), some (.int a1), none]) (S' := []) (w' := px_w K s9 t2) (q := []) 8 hM rfl trivial (fun hc11 => ?_) (fun hc11 => ?_)
          · rw [if_pos hc11] at h
            refine px_blkif (c := ¬ (s9.1 3) = (64 : Int32)) (t := 64) (e := 33) (L' := [some (.ref 3), some (.int a0), some (.ref 27), some (.int a1), none]) (S' := []) (w' := px_w K s9 t2) (q := []) 4 hM rfl trivial (fun hc12 => ?_) (fun hc12 => ?_)
            · rw [if_pos hc12] at h
              refine px_blk (i' := 72) (L' := [some (.ref 3), some (.int a0), some (.ref 27), some (.int a1), some (.int (((s9.1 2) + (s9.1 3)) - ((s9.1 2) + (s9.1 3)) / (64 : Int32) * (64 : Int32)))]) (S' := []) (w' := px_w K s9 t2) (q := [¬ (64 : Int32) = 0]) 8 hM rfl (show ¬ (64 : Int32) = 0 from (by decide)) ?_
              obtain ⟨v13, hv14, h⟩ := px_let_some h
              rw [← hv14]
              obtain ⟨hq15, h⟩ := px_gd_some h
              refine px_blk (i' := 77) (L' := [some (.ref 3), some (.int a0), some (.ref 27), some (.int a1), some (.int v13)]) (S' := []) (w' := px_w K (sA s9 4 v13.toNatClampNeg a0) t2) (q := [vp_in v13 (K.2.2 4)]) 5 hM rfl (show vp_in v13 (K.2.2 4) from hq15) ?_
              obtain ⟨s16, hs17, h⟩ := px_let_some h
              rw [← hs17]
              obtain ⟨hq18, h⟩ := px_gd_some h
              refine px_blk (i' := 86) (L' := [some (.ref 3), some (.int a0), some (.ref 27), some (.int a1), some (.int v13)]) (S' := []) (w' := px_w K (sF s16 5 (va_cpy (s16.2.2.1 27) (s16.2.2.1 5) a1.toNatClampNeg (v13 * (16 : Int32)).toNatClampNeg (16 : Int32).toNatClampNeg)) t2) (q := [¬ a1 < 0 ∧ ¬ (v13 * (16 : Int32)) < 0 ∧ ¬ (16 : Int32) < 0 ∧ a1.toNatClampNeg + (16 : Int32).toNatClampNeg ≤ K.2.2 27 ∧ (v13 * (16 : Int32)).toNatClampNeg + (16 : Int32).toNatClampNeg ≤ K.2.2 5]) 9 hM rfl (show ¬ a1 < 0 ∧ ¬ (v13 * (16 : Int32)) < 0 ∧ ¬ (16 : Int32) < 0 ∧ a1.toNatClampNeg + (16 : Int32).toNatClampNeg ≤ K.2.2 27 ∧ (v13 * (16 : Int32)).toNatClampNeg + (16 : Int32).toNatClampNeg ≤ K.2.2 5 from hq18) ?_
              obtain ⟨s19, hs20, h⟩ := px_let_some h
              rw [← hs20]
              obtain ⟨hq21, h⟩ := px_gd_some h
              refine px_blk (i' := 95) (L' := [some (.ref 3), some (.int a0), some (.ref 27), some (.int a1), some (.int v13)]) (S' := []) (w' := px_w K (sF s19 6 (va_cpy (s19.2.2.1 27) (s19.2.2.1 6) a1.toNatClampNeg (a0 * (16 : Int32)).toNatClampNeg (16 : Int32).toNatClampNeg)) t2) (q := [¬ a1 < 0 ∧ ¬ (a0 * (16 : Int32)) < 0 ∧ ¬ (16 : Int32) < 0 ∧ a1.toNatClampNeg + (16 : Int32).toNatClampNeg ≤ K.2.2 27 ∧ (a0 * (16 : Int32)).toNatClampNeg + (16 : Int32).toNatClampNeg ≤ K.2.2 6]) 9 hM rfl (show ¬ a1 < 0 ∧ ¬ (a0 * (16 : Int32)) < 0 ∧ ¬ (16 : Int32) < 0 ∧ a1.toNatClampNeg + (16 : Int32).toNatClampNeg ≤ K.2.2 27 ∧ (a0 * (16 : Int32)).toNatClampNeg + (16 : Int32).toNatClampNeg ≤ K.2.2 6 from hq21) ?_
              obtain ⟨s22, hs23, h⟩ := px_let_some h
              rw [← hs23]
              refine px_blk (i' := 101) (L' := [some (.ref 3), some (.int a0), some (.ref 27), some (.int a1), some (.int v13)]) (S' := []) (w' := px_w K (sR s22 3 ((s22.1 3) + (1 : Int32))) t2) (q := []) 6 hM rfl trivial ?_
              obtain ⟨s24, hs25, h⟩ := px_let_some h
              rw [← hs25]
              refine px_blk (i' := 107) (L' := [some (.ref 3), some (.int a0), some (.ref 27), some (.int a1), some (.int v13)]) (S' := []) (w' := px_w K (sR s24 4 ((s24.1 4) + (1 : Int32))) t2) (q := []) 6 hM rfl trivial ?_
              obtain ⟨s26, hs27, h⟩ := px_let_some h
              rw [← hs27]
              cases h
              exact px_E_ret hM rfl rfl rfl trivial
            · rw [if_neg hc12] at h
              refine px_blk (i' := 45) (L' := [some (.ref 3), some (.int a0), some (.ref 27), some (.int a1), none]) (S' := [.int (s9.1 2), .ref 4, .ref 7, .int ((s9.1 2) * (16 : Int32)), .ref 5]) (w' := px_w K s9 t2) (q := []) 12 hM rfl trivial ?_
              obtain ⟨⟨hq28, hq29⟩, h⟩ := px_gd_some h
              refine px_blk (i' := 50) (L' := [some (.ref 3), some (.int a0), some (.ref 27), some (.int a1), none]) (S' := []) (w' := px_w K (sF s9 7 (va_cpy (s9.2.2.1 5) (s9.2.2.1 7) ((s9.1 2) * (16 : Int32)).toNatClampNeg (((s9.2.2.1 4) (s9.1 2).toNatClampNeg) * (16 : Int32)).toNatClampNeg (16 : Int32).toNatClampNeg)) t2) (q := [vp_in (s9.1 2) (K.2.2 4), ¬ ((s9.1 2) * (16 : Int32)) < 0 ∧ ¬ (((s9.2.2.1 4) (s9.1 2).toNatClampNeg) * (16 : Int32)) < 0 ∧ ¬ (16 : Int32) < 0 ∧ ((s9.1 2) * (16 : Int32)).toNatClampNeg + (16 : Int32).toNatClampNeg ≤ K.2.2 5 ∧ (((s9.2.2.1 4) (s9.1 2).toNatClampNeg) * (16 : Int32)).toNatClampNeg + (16 : Int32).toNatClampNeg ≤ K.2.2 7]) 5 hM rfl (show (vp_in (s9.1 2) (K.2.2 4)) ∧ (¬ ((s9.1 2) * (16 : Int32)) < 0 ∧ ¬ (((s9.2.2.1 4) (s9.1 2).toNatClampNeg) * (16 : Int32)) < 0 ∧ ¬ (16 : Int32) < 0 ∧ ((s9.1 2) * (16 : Int32)).toNatClampNeg + (16 : Int32).toNatClampNeg ≤ K.2.2 5 ∧ (((s9.2.2.1 4) (s9.1 2).toNatClampNeg) * (16 : Int32)).toNatClampNeg + (16 : Int32).toNatClampNeg ≤ K.2.2 7) from ⟨hq28, hq29⟩) ?_
              obtain ⟨s30, hs31, h⟩ := px_let_some h
              rw [← hs31]
              refine px_blk (i' := 58) (L' := [some (.ref 3), some (.int a0), some (.ref 27), some (.int a1), none]) (S' := []) (w' := px_w K (sR s30 2 (((s30.1 2) + (1 : Int32)) - ((s30.1 2) + (1 : Int32)) / (64 : Int32) * (64 : Int32))) t2) (q := [¬ (64 : Int32) = 0]) 8 hM rfl (show ¬ (64 : Int32) = 0 from (by decide)) ?_
              obtain ⟨s32, hs33, h⟩ := px_let_some h
              rw [← hs33]
              refine px_blk (i' := 64) (L' := [some (.ref 3), some (.int a0), some (.ref 27), some (.int a1), none]) (S' := []) (w' := px_w K (sR s32 3 ((s32.1 3) - (1 : Int32))) t2) (q := []) 6 hM rfl trivial ?_
              obtain ⟨s34, hs35, h⟩ := px_let_some h
              rw [← hs35]
              refine px_blk (i' := 72) (L' := [some (.ref 3), some (.int a0), some (.ref 27), some (.int a1), some (.int (((s34.1 2) + (s34.1 3)) - ((s34.1 2) + (s34.1 3)) / (64 : Int32) * (64 : Int32)))]) (S' := []) (w' := px_w K s34 t2) (q := [¬ (64 : Int32) = 0]) 8 hM rfl (show ¬ (64 : Int32) = 0 from (by decide)) ?_
              obtain ⟨v36, hv37, h⟩ := px_let_some h
              rw [← hv37]
              obtain ⟨hq38, h⟩ := px_gd_some h
              refine px_blk (i' := 77) (L' := [some (.ref 3), some (.int a0), some (.ref 27), some (.int a1), some (.int v36)]) (S' := []) (w' := px_w K (sA s34 4 v36.toNatClampNeg a0) t2) (q := [vp_in v36 (K.2.2 4)]) 5 hM rfl (show vp_in v36 (K.2.2 4) from hq38) ?_
              obtain ⟨s39, hs40, h⟩ := px_let_some h
              rw [← hs40]
              obtain ⟨hq41, h⟩ := px_gd_some h
              refine px_blk (i' := 86) (L' := [some (.ref 3), some (.int a0), some (.ref 27), some (.int a1), some (.int v36)]) (S' := []) (w' := px_w K (sF s39 5 (va_cpy (s39.2.2.1 27) (s39.2.2.1 5) a1.toNatClampNeg (v36 * (16 : Int32)).toNatClampNeg (16 : Int32).toNatClampNeg)) t2) (q := [¬ a1 < 0 ∧ ¬ (v36 * (16 : Int32)) < 0 ∧ ¬ (16 : Int32) < 0 ∧ a1.toNatClampNeg + (16 : Int32).toNatClampNeg ≤ K.2.2 27 ∧ (v36 * (16 : Int32)).toNatClampNeg + (16 : Int32).toNatClampNeg ≤ K.2.2 5]) 9 hM rfl (show ¬ a1 < 0 ∧ ¬ (v36 * (16 : Int32)) < 0 ∧ ¬ (16 : Int32) < 0 ∧ a1.toNatClampNeg + (16 : Int32).toNatClampNeg ≤ K.2.2 27 ∧ (v36 * (16 : Int32)).toNatClampNeg + (16 : Int32).toNatClampNeg ≤ K.2.2 5 from hq41) ?_
              obtain ⟨s42, hs43, h⟩ := px_let_some h
              rw [← hs43]
              obtain ⟨hq44, h⟩ := px_gd_some h
              refine px_blk (i' := 95) (L' := [some (.ref 3), some (.int a0), some (.ref 27), some (.int a1), some (.int v36)]) (S' := []) (w' := px_w K (sF s42 6 (va_cpy (s42.2.2.1 27) (s42.2.2.1 6) a1.toNatClampNeg (a0 * (16 : Int32)).toNatClampNeg (16 : Int32).toNatClampNeg)) t2) (q := [¬ a1 < 0 ∧ ¬ (a0 * (16 : Int32)) < 0 ∧ ¬ (16 : Int32) < 0 ∧ a1.toNatClampNeg + (16 : Int32).toNatClampNeg ≤ K.2.2 27 ∧ (a0 * (16 : Int32)).toNatClampNeg + (16 : Int32).toNatClampNeg ≤ K.2.2 6]) 9 hM rfl (show ¬ a1 < 0 ∧ ¬ (a0 * (16 : Int32)) < 0 ∧ ¬ (16 : Int32) < 0 ∧ a1.toNatClampNeg + (16 : Int32).toNatClampNeg ≤ K.2.2 27 ∧ (a0 * (16 : Int32)).toNatClampNeg + (16 : Int32).toNatClampNeg ≤ K.2.2 6 from hq44) ?_
              obtain ⟨s45, hs46, h⟩ := px_let_some h
              rw [← hs46]
              refine px_blk (i' := 101) (L' := [some (.ref 3), some (.int a0), some (.ref 27), some (.int a1), some (.int v36)]) (S' := []) (w' := px_w K (sR s45 3 ((s45.1 3) + (1 : Int32))) t2) (q := []) 6 hM rfl trivial ?_
              obtain ⟨s47, hs48, h⟩ := px_let_some h
              rw [← hs48]
              refine px_blk (i' := 107) (L' := [some (.ref 3), some (.int a0), some (.ref 27), some (.int a1), some (.int v36)]) (S' := []) (w' := px_w K (sR s47 4 ((s47.1 4) + (1 : Int32))) t2) (q := []) 6 hM rfl trivial ?_
              obtain ⟨s49, hs50, h⟩ := px_let_some h
              rw [← hs50]
              cases h
              exact px_E_ret hM rfl rfl rfl trivial
          · rw [if_neg hc11] at h
            cases h
            exact px_E_throw2 hM rfl rfl (by decide) (by decide) rfl rfl
        · rw [if_neg hc8] at h
          cases h
          exact px_E_ret hM rfl rfl rfl trivial
  · cases h
noncomputable def l_V_store_13_27_46 (K : px_K) (N : Nat) (n : Nat) (u1 : Int32) (u3 : Int32) (m4 : Int32) (m5 : Int32) (s : px_S) (t : px_W) : Option px_LO := match n with
  | 0 => none
  | n + 1 => (if (1000 : Int32) ≤ m5 then (some (.inl (74, [m4], s, t))) else (if 0 ≤ m4 then (some (.inl (74, [m4], s, t))) else (px_gd (¬ (s.1 18) = 0) (px_bi (f_S_hasClosed_14 K N (u1 - u1 / (s.1 18) * (s.1 18)) (s.1 16) s t) (fun v7 s4 t5 => (if ¬ v7 = 0 then (px_bi (f_V_landOldest_13 K N s4 t5) (fun v13 s10 t11 => (px_bi (f_S_toWrite_14 K N u1 s10 t11) (fun v18 s15 t16 => (l_V_store_13_27_46 K N n u1 u3 v18 (m5 + (1 : Int32)) s15 t16)) (fun x19 s15 t16 => none))) (fun x14 s10 t11 => (some (.inr (.inr x14, s10, t11))))) else (px_bv (f_V_close_13 K N s4 t5) (fun s20 t21 => (px_bi (f_V_landOldest_13 K N s20 t21) (fun v28 s25 t26 => (px_bi (f_S_toWrite_14 K N u1 s25 t26) (fun v33 s30 t31 => (l_V_store_13_27_46 K N n u1 u3 v33 (m5 + (1 : Int32)) s30 t31)) (fun x34 s30 t31 => none))) (fun x29 s25 t26 => (some (.inr (.inr x29, s25, t26)))))) (fun x24 s20 t21 => (some (.inr (.inr x24, s20, t21))))))) (fun x8 s4 t5 => none)))))
def a_l_V_store_13_27_46 (K : px_K) (u1 : Int32) (u3 : Int32) (z : px_LO) (o : Option Value ⊕ Nat) (w2 : px_W) : Prop := match z with
  | .inr (o', s', t') => o = o' ∧ w2 = px_w K s' t'
  | .inl (74, [y4], s', t') => px_E px_ET px_P 12 187 74 [some (.ref 13), some (.int u1), some (.ref 27), some (.int u3), some (.int y4), none] [] (px_w K s' t') o w2
  | _ => False
set_option maxRecDepth 100000 in
theorem e_l_V_store_13_27_46 (K : px_K) (N : Nat) (u1 : Int32) (u3 : Int32) : ∀ (n : Nat) (m4 : Int32) (m5 : Int32) (s : px_S) (t : px_W) (z : px_LO), l_V_store_13_27_46 K N n u1 u3 m4 m5 s t = some z → ∀ (o : Option Value ⊕ Nat) (w2 : px_W), a_l_V_store_13_27_46 K u1 u3 z o w2 → px_E px_ET px_P 12 187 46 [some (.ref 13), some (.int u1), some (.ref 27), some (.int u3), some (.int m4), some (.int m5)] [] (px_w K s t) o w2 := by
  have hM : px_P[187]? = some pm_V_store := rfl
  intro n
  induction n with
  | zero => intro m4 m5 s t z h; cases h
  | succ n ih =>
    intro m4 m5 s t z h o w2 ha
    unfold l_V_store_13_27_46 at h
    refine px_blkif (c := (1000 : Int32) ≤ m5) (t := 74) (e := 49) (L' := [some (.ref 13), some (.int u1), some (.ref 27), some (.int u3), some (.int m4), some (.int m5)]) (S' := []) (w' := px_w K s t) (q := []) 3 hM rfl trivial (fun hc1 => ?_) (fun hc1 => ?_)
    · rw [if_pos hc1] at h
      cases h
      exact px_E_le (px_leC_L _ _ (by simp [px_leC, px_le1, Value.category])) ha
    · rw [if_neg hc1] at h
      refine px_blkif (c := 0 ≤ m4) (t := 74) (e := 51) (L' := [some (.ref 13), some (.int u1), some (.ref 27), some (.int u3), some (.int m4), some (.int m5)]) (S' := []) (w' := px_w K s t) (q := []) 2 hM rfl trivial (fun hc2 => ?_) (fun hc2 => ?_)
      · rw [if_pos hc2] at h
        cases h
        exact px_E_le (px_leC_L _ _ (by simp [px_leC, px_le1, Value.category])) ha
      · rw [if_neg hc2] at h
        obtain ⟨hq3, h⟩ := px_gd_some h
        refine px_blk (i' := 60) (L' := [some (.ref 13), some (.int u1), some (.ref 27), some (.int u3), some (.int m4), some (.int m5)]) (S' := [.int (s.1 16), .int (u1 - u1 / (s.1 18) * (s.1 18)), .ref 14]) (w' := px_w K s t) (q := [¬ (s.1 18) = 0]) 9 hM rfl (show ¬ (s.1 18) = 0 from hq3) ?_
        rcases px_bi_some h with ⟨v7, s4, t5, hk6, h⟩ | ⟨x8, s4, t5, hk6, h⟩
        · refine px_E_call hM rfl rfl rfl rfl (px_E_mono (by decide) (e_S_hasClosed_14 K N (u1 - u1 / (s.1 18) * (s.1 18)) (s.1 16) s t _ hk6)) ?_
          refine px_blkif (c := ¬ v7 = 0) (t := 64) (e := 62) (L' := [some (.ref 13), some (.int u1), some (.ref 27), some (.int u3), some (.int m4), some (.int m5)]) (S' := []) (w' := px_w K s4 t5) (q := []) 1 hM rfl trivial (fun hc9 => ?_) (fun hc9 => ?_)
          · rw [if_pos hc9] at h
            refine px_blk (i' := 65) (L' := [some (.ref 13), some (.int u1), some (.ref 27), some (.int u3), some (.int m4), some (.int m5)]) (S' := [.ref 13]) (w' := px_w K s4 t5) (q := []) 1 hM rfl trivial ?_
            rcases px_bi_some h with ⟨v13, s10, t11, hk12, h⟩ | ⟨x14, s10, t11, hk12, h⟩
            · refine px_E_call hM rfl rfl rfl rfl (px_E_mono (by decide) (e_V_landOldest_13 K N s4 t5 _ hk12)) ?_
              refine px_blk (i' := 70) (L' := [some (.ref 13), some (.int u1), some (.ref 27), some (.int u3), some (.int m4), some (.int m5)]) (S' := [.int u1, .ref 14]) (w' := px_w K s10 t11) (q := []) 4 hM rfl trivial ?_
              rcases px_bi_some h with ⟨v18, s15, t16, hk17, h⟩ | ⟨x19, s15, t16, hk17, h⟩
              · refine px_E_call hM rfl rfl rfl rfl (px_E_mono (by decide) (e_S_toWrite_14 K N u1 s10 t11 _ hk17)) ?_
                refine px_blk (i' := 46) (L' := [some (.ref 13), some (.int u1), some (.ref 27), some (.int u3), some (.int v18), some (.int (m5 + (1 : Int32)))]) (S' := []) (w' := px_w K s15 t16) (q := []) 3 hM rfl trivial ?_
                exact ih v18 (m5 + (1 : Int32)) s15 t16 z h o w2 ha
              · cases h
            · cases h
              obtain ⟨rfl, rfl⟩ := ha
              exact px_E_callT hM rfl rfl rfl rfl (px_E_mono (by decide) (e_V_landOldest_13 K N s4 t5 _ hk12)) rfl
          · rw [if_neg hc9] at h
            refine px_blk (i' := 63) (L' := [some (.ref 13), some (.int u1), some (.ref 27), some (.int u3), some (.int m4), some (.int m5)]) (S' := [.ref 13]) (w' := px_w K s4 t5) (q := []) 1 hM rfl trivial ?_
            rcases px_bv_some h with ⟨s20, t21, hk22, h⟩ | ⟨x24, s20, t21, hk22, h⟩
            · refine px_E_call hM rfl rfl rfl rfl (px_E_mono (by decide) (e_V_close_13 K N s4 t5 _ hk22)) ?_
              refine px_blk (i' := 65) (L' := [some (.ref 13), some (.int u1), some (.ref 27), some (.int u3), some (.int m4), some (.int m5)]) (S' := [.ref 13]) (w' := px_w K s20 t21) (q := []) 1 hM rfl trivial ?_
              rcases px_bi_some h with ⟨v28, s25, t26, hk27, h⟩ | ⟨x29, s25, t26, hk27, h⟩
              · refine px_E_call hM rfl rfl rfl rfl (px_E_mono (by decide) (e_V_landOldest_13 K N s20 t21 _ hk27)) ?_
                refine px_blk (i' := 70) (L' := [some (.ref 13), some (.int u1), some (.ref 27), some (.int u3), some (.int m4), some (.int m5)]) (S' := [.int u1, .ref 14]) (w' := px_w K s25 t26) (q := []) 4 hM rfl trivial ?_
                rcases px_bi_some h with ⟨v33, s30, t31, hk32, h⟩ | ⟨x34, s30, t31, hk32, h⟩
                · refine px_E_call hM rfl rfl rfl rfl (px_E_mono (by decide) (e_S_toWrite_14 K N u1 s25 t26 _ hk32)) ?_
                  refine px_blk (i' := 46) (L' := [some (.ref 13), some (.int u1), some (.ref 27), some (.int u3), some (.int v33), some (.int (m5 + (1 : Int32)))]) (S' := []) (w' := px_w K s30 t31) (q := []) 3 hM rfl trivial ?_
                  exact ih v33 (m5 + (1 : Int32)) s30 t31 z h o w2 ha
                · cases h
              · cases h
                obtain ⟨rfl, rfl⟩ := ha
                exact px_E_callT hM rfl rfl rfl rfl (px_E_mono (by decide) (e_V_landOldest_13 K N s20 t21 _ hk27)) rfl
            · cases h
              obtain ⟨rfl, rfl⟩ := ha
              exact px_E_callT hM rfl rfl rfl rfl (px_E_mono (by decide) (e_V_close_13 K N s4 t5 _ hk22)) rfl
        · cases h
noncomputable def f_V_store_13_27 (K : px_K) (N : Nat) (a0 : Int32) (a1 : Int32) (s : px_S) (t : px_W) : Option px_Res :=
  (if a0 < 0 then (some (.inl none, s, t)) else (if a0 < (106 : Int32) then (if ¬ (s.1 12) = 0 then (px_bi (f_S_newest_14 K N a0 s t) (fun v7 s4 t5 => (if v7 < 0 then (if ¬ (s4.1 17) = (16 : Int32) then (px_bi (f_S_toWrite_14 K N a0 s4 t5) (fun v14 s11 t12 => (px_lp (l_V_store_13_27_46 K N N a0 a1 v14 (0 : Int32) s11 t12) (fun i16 vs17 s18 t19 => (if i16 = 74 then (px_v1 vs17 (fun y22 => (if 0 ≤ y22 then (px_bv (f_S_setDirty_14 K N y22 a0 (s18.1 16) s18 t19) (fun s25 t26 => (px_gd (vp_in y22 (K.2.2 18)) (px_let (sA s25 18 y22.toNatClampNeg (1 : Int32)) (fun s31 => (px_let (sR s31 17 ((s31.1 17) + (1 : Int32))) (fun s33 => (px_bv (f_D_put_8_27 K N ((50 : Int32) + y22) a1 s33 t26) (fun s35 t36 => (some (.inl none, s35, t36))) (fun x39 s35 t36 => (some (.inr x39, s35, t36)))))))))) (fun x29 s25 t26 => none)) else (some (.inl none, s18, t19))))) else none)) (fun z21 => some z21))) (fun x15 s11 t12 => none)) else (px_bv (f_V_close_13 K N s4 t5) (fun s40 t41 => (px_bi (f_S_toWrite_14 K N a0 s40 t41) (fun v48 s45 t46 => (px_lp (l_V_store_13_27_46 K N N a0 a1 v48 (0 : Int32) s45 t46) (fun i50 vs51 s52 t53 => (if i50 = 74 then (px_v1 vs51 (fun y56 => (if 0 ≤ y56 then (px_bv (f_S_setDirty_14 K N y56 a0 (s52.1 16) s52 t53) (fun s59 t60 => (px_gd (vp_in y56 (K.2.2 18)) (px_let (sA s59 18 y56.toNatClampNeg (1 : Int32)) (fun s65 => (px_let (sR s65 17 ((s65.1 17) + (1 : Int32))) (fun s67 => (px_bv (f_D_put_8_27 K N ((50 : Int32) + y56) a1 s67 t60) (fun s69 t70 => (some (.inl none, s69, t70))) (fun x73 s69 t70 => (some (.inr x73, s69, t70)))))))))) (fun x63 s59 t60 => none)) else (some (.inl none, s52, t53))))) else none)) (fun z55 => some z55))) (fun x49 s45 t46 => none))) (fun x44 s40 t41 => (some (.inr x44, s40, t41))))) else (px_gd (vp_in v7 (K.2.2 17)) (if ((s4.2.2.1 17) v7.toNatClampNeg) = (s4.1 16) then (px_bv (f_D_put_8_27 K N ((50 : Int32) + v7) a1 s4 t5) (fun s76 t77 => (some (.inl none, s76, t77))) (fun x80 s76 t77 => (some (.inr x80, s76, t77)))) else (if ¬ (s4.1 17) = (16 : Int32) then (px_bi (f_S_toWrite_14 K N a0 s4 t5) (fun v85 s82 t83 => (px_lp (l_V_store_13_27_46 K N N a0 a1 v85 (0 : Int32) s82 t83) (fun i87 vs88 s89 t90 => (if i87 = 74 then (px_v1 vs88 (fun y93 => (if 0 ≤ y93 then (px_bv (f_S_setDirty_14 K N y93 a0 (s89.1 16) s89 t90) (fun s96 t97 => (px_gd (vp_in y93 (K.2.2 18)) (px_let (sA s96 18 y93.toNatClampNeg (1 : Int32)) (fun s102 => (px_let (sR s102 17 ((s102.1 17) + (1 : Int32))) (fun s104 => (px_bv (f_D_put_8_27 K N ((50 : Int32) + y93) a1 s104 t97) (fun s106 t107 => (some (.inl none, s106, t107))) (fun x110 s106 t107 => (some (.inr x110, s106, t107)))))))))) (fun x100 s96 t97 => none)) else (some (.inl none, s89, t90))))) else none)) (fun z92 => some z92))) (fun x86 s82 t83 => none)) else (px_bv (f_V_close_13 K N s4 t5) (fun s111 t112 => (px_bi (f_S_toWrite_14 K N a0 s111 t112) (fun v119 s116 t117 => (px_lp (l_V_store_13_27_46 K N N a0 a1 v119 (0 : Int32) s116 t117) (fun i121 vs122 s123 t124 => (if i121 = 74 then (px_v1 vs122 (fun y127 => (if 0 ≤ y127 then (px_bv (f_S_setDirty_14 K N y127 a0 (s123.1 16) s123 t124) (fun s130 t131 => (px_gd (vp_in y127 (K.2.2 18)) (px_let (sA s130 18 y127.toNatClampNeg (1 : Int32)) (fun s136 => (px_let (sR s136 17 ((s136.1 17) + (1 : Int32))) (fun s138 => (px_bv (f_D_put_8_27 K N ((50 : Int32) + y127) a1 s138 t131) (fun s140 t141 => (some (.inl none, s140, t141))) (fun x144 s140 t141 => (some (.inr x144, s140, t141)))))))))) (fun x134 s130 t131 => none)) else (some (.inl none, s123, t124))))) else none)) (fun z126 => some z126))) (fun x120 s116 t117 => none))) (fun x115 s111 t112 => (some (.inr x115, s111, t112))))))))) (fun x8 s4 t5 => none)) else (px_bv (f_D_put_3_27 K N ((19 : Int32) + a0) a1 s t) (fun s145 t146 => (some (.inl none, s145, t146))) (fun x149 s145 t146 => (some (.inr x149, s145, t146))))) else (some (.inl none, s, t))))
set_option maxRecDepth 100000 in
theorem e_V_store_13_27 (K : px_K) (N : Nat) (a0 : Int32) (a1 : Int32) (s : px_S) (t : px_W) (r : px_Res) (h : f_V_store_13_27 K N a0 a1 s t = some r) : px_E px_ET px_P 12 187 0 (px_ent 6 [.ref 13, .int a0, .ref 27, .int a1]) [] (px_w K s t) r.1 (px_w K r.2.1 r.2.2) := by
  have hM : px_P[187]? = some pm_V_store := rfl
  unfold f_V_store_13_27 at h
  refine px_blkif (c := a0 < 0) (t := 5) (e := 2) (L' := [some (.ref 13), some (.int a0), some (.ref 27), some (.int a1), none, none]) (S' := []) (w' := px_w K s t) (q := []) 2 hM rfl trivial (fun hc1 => ?_) (fun hc1 => ?_)
  · rw [if_pos hc1] at h
    cases h
    exact px_E_ret hM rfl rfl rfl trivial
  · rw [if_neg hc1] at h
    refine px_blkif (c := a0 < (106 : Int32)) (t := 6) (e := 5) (L' := [some (.ref 13), some (.int a0), some (.ref 27), some (.int a1), none, none]) (S' := []) (w' := px_w K s t) (q := []) 3 hM rfl trivial (fun hc2 => ?_) (fun hc2 => ?_)
    · rw [if_pos hc2] at h
      refine px_blkif (c := ¬ (s.1 12) = 0) (t := 18) (e := 9) (L' := [some (.ref 13), some (.int a0), some (.ref 27), some (.int a1), none, none]) (S' := []) (w' := px_w K s t) (q := []) 3 hM rfl trivial (fun hc3 => ?_) (fun hc3 => ?_)
      · rw [if_pos hc3] at h
        refine px_blk (i' := 21) (L' := [some (.ref 13), some (.int a0), some (.ref 27), some (.int a1), none, none]) (S' := [.int a0, .ref 14]) (w' := px_w K s t) (q := []) 3 hM rfl trivial ?_
        rcases px_bi_some h with ⟨v7, s4, t5, hk6, h⟩ | ⟨x8, s4, t5, hk6, h⟩
        · refine px_E_call hM rfl rfl rfl rfl (px_E_mono (by decide) (e_S_newest_14 K N a0 s t _ hk6)) ?_
          refine px_blkif (c := v7 < 0) (t := 33) (e := 25) (L' := [some (.ref 13), some (.int a0), some (.ref 27), some (.int a1), some (.int v7), none]) (S' := []) (w' := px_w K s4 t5) (q := []) 3 hM rfl trivial (fun hc9 => ?_) (fun hc9 => ?_)
          · rw [if_pos hc9] at h
            refine px_blkif (c := ¬ (s4.1 17) = (16 : Int32)) (t := 39) (e := 37) (L' := [some (.ref 13), some (.int a0), some (.ref 27), some (.int a1), some (.int v7), none]) (S' := []) (w' := px_w K s4 t5) (q := []) 4 hM rfl trivial (fun hc10 => ?_) (fun hc10 => ?_)
            · rw [if_pos hc10] at h
              refine px_blk (i' := 42) (L' := [some (.ref 13), some (.int a0), some (.ref 27), some (.int a1), some (.int v7), none]) (S' := [.int a0, .ref 14]) (w' := px_w K s4 t5) (q := []) 3 hM rfl trivial ?_
              rcases px_bi_some h with ⟨v14, s11, t12, hk13, h⟩ | ⟨x15, s11, t12, hk13, h⟩
              · refine px_E_call hM rfl rfl rfl rfl (px_E_mono (by decide) (e_S_toWrite_14 K N a0 s4 t5 _ hk13)) ?_
                refine px_blk (i' := 46) (L' := [some (.ref 13), some (.int a0), some (.ref 27), some (.int a1), some (.int v14), some (.int (0 : Int32))]) (S' := []) (w' := px_w K s11 t12) (q := []) 3 hM rfl trivial ?_
                rcases px_lp_some h with ⟨i16, vs17, s18, t19, hl20, h⟩ | ⟨z21, hl20, h⟩
                · by_cases hi23 : i16 = 74
                  · subst hi23
                    rw [if_pos rfl] at h
                    have h9 := px_v1_some h
                    clear h
                    obtain ⟨y22, rfl, h⟩ := h9
                    refine e_l_V_store_13_27_46 K N a0 a1 N v14 (0 : Int32) s11 t12 _ hl20 _ _ ?_
                    show px_E px_ET px_P 12 187 74 [some (.ref 13), some (.int a0), some (.ref 27), some (.int a1), some (.int y22), none] [] (px_w K s18 t19) _ _
                    refine px_blkif (c := 0 ≤ y22) (t := 77) (e := 76) (L' := [some (.ref 13), some (.int a0), some (.ref 27), some (.int a1), some (.int y22), none]) (S' := []) (w' := px_w K s18 t19) (q := []) 2 hM rfl trivial (fun hc24 => ?_) (fun hc24 => ?_)
                    · rw [if_pos hc24] at h
                      refine px_blk (i' := 83) (L' := [some (.ref 13), some (.int a0), some (.ref 27), some (.int a1), some (.int y22), none]) (S' := [.int (s18.1 16), .int a0, .int y22, .ref 14]) (w' := px_w K s18 t19) (q := []) 6 hM rfl trivial ?_
                      rcases px_bv_some h with ⟨s25, t26, hk27, h⟩ | ⟨x29, s25, t26, hk27, h⟩
                      · refine px_E_call hM rfl rfl rfl rfl (px_E_mono (by decide) (e_S_setDirty_14 K N y22 a0 (s18.1 16) s18 t19 _ hk27)) ?_
                        obtain ⟨hq30, h⟩ := px_gd_some h
                        refine px_blk (i' := 90) (L' := [some (.ref 13), some (.int a0), some (.ref 27), some (.int a1), some (.int y22), none]) (S' := []) (w' := px_w K (sA s25 18 y22.toNatClampNeg (1 : Int32)) t26) (q := [vp_in y22 (K.2.2 18)]) 6 hM rfl (show vp_in y22 (K.2.2 18) from hq30) ?_
                        obtain ⟨s31, hs32, h⟩ := px_let_some h
                        rw [← hs32]
                        refine px_blk (i' := 96) (L' := [some (.ref 13), some (.int a0), some (.ref 27), some (.int a1), some (.int y22), none]) (S' := []) (w' := px_w K (sR s31 17 ((s31.1 17) + (1 : Int32))) t26) (q := []) 6 hM rfl trivial ?_
                        obtain ⟨s33, hs34, h⟩ := px_let_some h
                        rw [← hs34]
                        refine px_blk (i' := 103) (L' := [some (.ref 13), some (.int a0), some (.ref 27), some (.int a1), some (.int y22), none]) (S' := [.int a1, .ref 27, .int ((50 : Int32) + y22), .ref 8]) (w' := px_w K s33 t26) (q := []) 7 hM rfl trivial ?_
                        rcases px_bv_some h with ⟨s35, t36, hk37, h⟩ | ⟨x39, s35, t36, hk37, h⟩
                        · refine px_E_call hM rfl rfl rfl rfl (px_E_mono (by decide) (e_D_put_8_27 K N ((50 : Int32) + y22) a1 s33 t26 _ hk37)) ?_
                          cases h
                          exact px_E_ret hM rfl rfl rfl trivial
                        · cases h
                          exact px_E_callT hM rfl rfl rfl rfl (px_E_mono (by decide) (e_D_put_8_27 K N ((50 : Int32) + y22) a1 s33 t26 _ hk37)) rfl
                      · cases h
                    · rw [if_neg hc24] at h
                      cases h
                      exact px_E_ret hM rfl rfl rfl trivial
                  · rw [if_neg hi23] at h
                    cases h
                · cases h
                  exact e_l_V_store_13_27_46 K N a0 a1 N v14 (0 : Int32) s11 t12 _ hl20 _ _ ⟨rfl, rfl⟩
              · cases h
            · rw [if_neg hc10] at h
              refine px_blk (i' := 38) (L' := [some (.ref 13), some (.int a0), some (.ref 27), some (.int a1), some (.int v7), none]) (S' := [.ref 13]) (w' := px_w K s4 t5) (q := []) 1 hM rfl trivial ?_
              rcases px_bv_some h with ⟨s40, t41, hk42, h⟩ | ⟨x44, s40, t41, hk42, h⟩
              · refine px_E_call hM rfl rfl rfl rfl (px_E_mono (by decide) (e_V_close_13 K N s4 t5 _ hk42)) ?_
                refine px_blk (i' := 42) (L' := [some (.ref 13), some (.int a0), some (.ref 27), some (.int a1), some (.int v7), none]) (S' := [.int a0, .ref 14]) (w' := px_w K s40 t41) (q := []) 3 hM rfl trivial ?_
                rcases px_bi_some h with ⟨v48, s45, t46, hk47, h⟩ | ⟨x49, s45, t46, hk47, h⟩
                · refine px_E_call hM rfl rfl rfl rfl (px_E_mono (by decide) (e_S_toWrite_14 K N a0 s40 t41 _ hk47)) ?_
                  refine px_blk (i' := 46) (L' := [some (.ref 13), some (.int a0), some (.ref 27), some (.int a1), some (.int v48), some (.int (0 : Int32))]) (S' := []) (w' := px_w K s45 t46) (q := []) 3 hM rfl trivial ?_
                  rcases px_lp_some h with ⟨i50, vs51, s52, t53, hl54, h⟩ | ⟨z55, hl54, h⟩
                  · by_cases hi57 : i50 = 74
                    · subst hi57
                      rw [if_pos rfl] at h
                      have h9 := px_v1_some h
                      clear h
                      obtain ⟨y56, rfl, h⟩ := h9
                      refine e_l_V_store_13_27_46 K N a0 a1 N v48 (0 : Int32) s45 t46 _ hl54 _ _ ?_
                      show px_E px_ET px_P 12 187 74 [some (.ref 13), some (.int a0), some (.ref 27), some (.int a1), some (.int y56), none] [] (px_w K s52 t53) _ _
                      refine px_blkif (c := 0 ≤ y56) (t := 77) (e := 76) (L' := [some (.ref 13), some (.int a0), some (.ref 27), some (.int a1), some (.int y56), none]) (S' := []) (w' := px_w K s52 t53) (q := []) 2 hM rfl trivial (fun hc58 => ?_) (fun hc58 => ?_)
                      · rw [if_pos hc58] at h
                        refine px_blk (i' := 83) (L' := [some (.ref 13), some (.int a0), some (.ref 27), some (.int a1), some (.int y56), none]) (S' := [.int (s52.1 16), .int a0, .int y56, .ref 14]) (w' := px_w K s52 t53) (q := []) 6 hM rfl trivial ?_
                        rcases px_bv_some h with ⟨s59, t60, hk61, h⟩ | ⟨x63, s59, t60, hk61, h⟩
                        · refine px_E_call hM rfl rfl rfl rfl (px_E_mono (by decide) (e_S_setDirty_14 K N y56 a0 (s52.1 16) s52 t53 _ hk61)) ?_
                          obtain ⟨hq64, h⟩ := px_gd_some h
                          refine px_blk (i' := 90) (L' := [some (.ref 13), some (.int a0), some (.ref 27), some (.int a1), some (.int y56), none]) (S' := []) (w' := px_w K (sA s59 18 y56.toNatClampNeg (1 : Int32)) t60) (q := [vp_in y56 (K.2.2 18)]) 6 hM rfl (show vp_in y56 (K.2.2 18) from hq64) ?_
                          obtain ⟨s65, hs66, h⟩ := px_let_some h
                          rw [← hs66]
                          refine px_blk (i' := 96) (L' := [some (.ref 13), some (.int a0), some (.ref 27), some (.int a1), some (.int y56), none]) (S' := []) (w' := px_w K (sR s65 17 ((s65.1 17) + (1 : Int32))) t60) (q := []) 6 hM rfl trivial ?_
                          obtain ⟨s67, hs68, h⟩ := px_let_some h
                          rw [← hs68]
                          refine px_blk (i' := 103) (L' := [some (.ref 13), some (.int a0), some (.ref 27), some (.int a1), some (.int y56), none]) (S' := [.int a1, .ref 27, .int ((50 : Int32) + y56), .ref 8]) (w' := px_w K s67 t60) (q := []) 7 hM rfl trivial ?_
                          rcases px_bv_some h with ⟨s69, t70, hk71, h⟩ | ⟨x73, s69, t70, hk71, h⟩
                          · refine px_E_call hM rfl rfl rfl rfl (px_E_mono (by decide) (e_D_put_8_27 K N ((50 : Int32) + y56) a1 s67 t60 _ hk71)) ?_
                            cases h
                            exact px_E_ret hM rfl rfl rfl trivial
                          · cases h
                            exact px_E_callT hM rfl rfl rfl rfl (px_E_mono (by decide) (e_D_put_8_27 K N ((50 : Int32) + y56) a1 s67 t60 _ hk71)) rfl
                        · cases h
                      · rw [if_neg hc58] at h
                        cases h
                        exact px_E_ret hM rfl rfl rfl trivial
                    · rw [if_neg hi57] at h
                      cases h
                  · cases h
                    exact e_l_V_store_13_27_46 K N a0 a1 N v48 (0 : Int32) s45 t46 _ hl54 _ _ ⟨rfl, rfl⟩
                · cases h
              · cases h
                exact px_E_callT hM rfl rfl rfl rfl (px_E_mono (by decide) (e_V_close_13 K N s4 t5 _ hk42)) rfl
          · rw [if_neg hc9] at h
            obtain ⟨hq74, h⟩ := px_gd_some h
            refine px_blkif (c := ((s4.2.2.1 17) v7.toNatClampNeg) = (s4.1 16)) (t := 96) (e := 33) (L' := [some (.ref 13), some (.int a0), some (.ref 27), some (.int a1), some (.int v7), none]) (S' := []) (w' := px_w K s4 t5) (q := [vp_in v7 (K.2.2 17)]) 8 hM rfl (show vp_in v7 (K.2.2 17) from hq74) (fun hc75 => ?_) (fun hc75 => ?_)
            · rw [if_pos hc75] at h
              refine px_blk (i' := 103) (L' := [some (.ref 13), some (.int a0), some (.ref 27), some (.int a1), some (.int v7), none]) (S' := [.int a1, .ref 27, .int ((50 : Int32) + v7), .ref 8]) (w' := px_w K s4 t5) (q := []) 7 hM rfl trivial ?_
              rcases px_bv_some h with ⟨s76, t77, hk78, h⟩ | ⟨x80, s76, t77, hk78, h⟩
              · refine px_E_call hM rfl rfl rfl rfl (px_E_mono (by decide) (e_D_put_8_27 K N ((50 : Int32) + v7) a1 s4 t5 _ hk78)) ?_
                cases h
                exact px_E_ret hM rfl rfl rfl trivial
              · cases h
                exact px_E_callT hM rfl rfl rfl rfl (px_E_mono (by decide) (e_D_put_8_27 K N ((50 : Int32) + v7) a1 s4 t5 _ hk78)) rfl
            · rw [if_neg hc75] at h
              refine px_blkif (c := ¬ (s4.1 17) = (16 : Int32)) (t := 39) (e := 37) (L' := [some (.ref 13), some (.int a0), some (.ref 27), some (.int a1), some (.int v7), none]) (S' := []) (w' := px_w K s4 t5) (q := []) 4 hM rfl trivial (fun hc81 => ?_) (fun hc81 => ?_)
              · rw [if_pos hc81] at h
                refine px_blk (i' := 42) (L' := [some (.ref 13), some (.int a0), some (.ref 27), some (.int a1), some (.int v7), none]) (S' := [.int a0, .ref 14]) (w' := px_w K s4 t5) (q := []) 3 hM rfl trivial ?_
                rcases px_bi_some h with ⟨v85, s82, t83, hk84, h⟩ | ⟨x86, s82, t83, hk84, h⟩
                · refine px_E_call hM rfl rfl rfl rfl (px_E_mono (by decide) (e_S_toWrite_14 K N a0 s4 t5 _ hk84)) ?_
                  refine px_blk (i' := 46) (L' := [some (.ref 13), some (.int a0), some (.ref 27), some (.int a1), some (.int v85), some (.int (0 : Int32))]) (S' := []) (w' := px_w K s82 t83) (q := []) 3 hM rfl trivial ?_
                  rcases px_lp_some h with ⟨i87, vs88, s89, t90, hl91, h⟩ | ⟨z92, hl91, h⟩
                  · by_cases hi94 : i87 = 74
                    · subst hi94
                      rw [if_pos rfl] at h
                      have h9 := px_v1_some h
                      clear h
                      obtain ⟨y93, rfl, h⟩ := h9
                      refine e_l_V_store_13_27_46 K N a0 a1 N v85 (0 : Int32) s82 t83 _ hl91 _ _ ?_
                      show px_E px_ET px_P 12 187 74 [some (.ref 13), some (.int a0), some (.ref 27), some (.int a1), some (.int y93), none] [] (px_w K s89 t90) _ _
                      refine px_blkif (c := 0 ≤ y93) (t := 77) (e := 76) (L' := [some (.ref 13), some (.int a0), some (.ref 27), some (.int a1), some (.int y93), none]) (S' := []) (w' := px_w K s89 t90) (q := []) 2 hM rfl trivial (fun hc95 => ?_) (fun hc95 => ?_)
                      · rw [if_pos hc95] at h
                        refine px_blk (i' := 83) (L' := [some (.ref 13), some (.int a0), some (.ref 27), some (.int a1), some (.int y93), none]) (S' := [.int (s89.1 16), .int a0, .int y93, .ref 14]) (w' := px_w K s89 t90) (q := []) 6 hM rfl trivial ?_
                        rcases px_bv_some h with ⟨s96, t97, hk98, h⟩ | ⟨x100, s96, t97, hk98, h⟩
                        · refine px_E_call hM rfl rfl rfl rfl (px_E_mono (by decide) (e_S_setDirty_14 K N y93 a0 (s89.1 16) s89 t90 _ hk98)) ?_
                          obtain ⟨hq101, h⟩ := px_gd_some h
                          refine px_blk (i' := 90) (L' := [some (.ref 13), some (.int a0), some (.ref 27), some (.int a1), some (.int y93), none]) (S' := []) (w' := px_w K (sA s96 18 y93.toNatClampNeg (1 : Int32)) t97) (q := [vp_in y93 (K.2.2 18)]) 6 hM rfl (show vp_in y93 (K.2.2 18) from hq101) ?_
                          obtain ⟨s102, hs103, h⟩ := px_let_some h
                          rw [← hs103]
                          refine px_blk (i' := 96) (L' := [some (.ref 13), some (.int a0), some (.ref 27), some (.int a1), some (.int y93), none]) (S' := []) (w' := px_w K (sR s102 17 ((s102.1 17) + (1 : Int32))) t97) (q := []) 6 hM rfl trivial ?_
                          obtain ⟨s104, hs105, h⟩ := px_let_some h
                          rw [← hs105]
                          refine px_blk (i' := 103) (L' := [some (.ref 13), some (.int a0), some (.ref 27), some (.int a1), some (.int y93), none]) (S' := [.int a1, .ref 27, .int ((50 : Int32) + y93), .ref 8]) (w' := px_w K s104 t97) (q := []) 7 hM rfl trivial ?_
                          rcases px_bv_some h with ⟨s106, t107, hk108, h⟩ | ⟨x110, s106, t107, hk108, h⟩
                          · refine px_E_call hM rfl rfl rfl rfl (px_E_mono (by decide) (e_D_put_8_27 K N ((50 : Int32) + y93) a1 s104 t97 _ hk108)) ?_
                            cases h
                            exact px_E_ret hM rfl rfl rfl trivial
                          · cases h
                            exact px_E_callT hM rfl rfl rfl rfl (px_E_mono (by decide) (e_D_put_8_27 K N ((50 : Int32) + y93) a1 s104 t97 _ hk108)) rfl
                        · cases h
                      · rw [if_neg hc95] at h
                        cases h
                        exact px_E_ret hM rfl rfl rfl trivial
                    · rw [if_neg hi94] at h
                      cases h
                  · cases h
                    exact e_l_V_store_13_27_46 K N a0 a1 N v85 (0 : Int32) s82 t83 _ hl91 _ _ ⟨rfl, rfl⟩
                · cases h
              · rw [if_neg hc81] at h
                refine px_blk (i' := 38) (L' := [some (.ref 13), some (.int a0), some (.ref 27), some (.int a1), some (.int v7), none]) (S' := [.ref 13]) (w' := px_w K s4 t5) (q := []) 1 hM rfl trivial ?_
                rcases px_bv_some h with ⟨s111, t112, hk113, h⟩ | ⟨x115, s111, t112, hk113, h⟩
                · refine px_E_call hM rfl rfl rfl rfl (px_E_mono (by decide) (e_V_close_13 K N s4 t5 _ hk113)) ?_
                  refine px_blk (i' := 42) (L' := [some (.ref 13), some (.int a0), some (.ref 27), some (.int a1), some (.int v7), none]) (S' := [.int a0, .ref 14]) (w' := px_w K s111 t112) (q := []) 3 hM rfl trivial ?_
                  rcases px_bi_some h with ⟨v119, s116, t117, hk118, h⟩ | ⟨x120, s116, t117, hk118, h⟩
                  · refine px_E_call hM rfl rfl rfl rfl (px_E_mono (by decide) (e_S_toWrite_14 K N a0 s111 t112 _ hk118)) ?_
                    refine px_blk (i' := 46) (L' := [some (.ref 13), some (.int a0), some (.ref 27), some (.int a1), some (.int v119), some (.int (0 : Int32))]) (S' := []) (w' := px_w K s116 t117) (q := []) 3 hM rfl trivial ?_
                    rcases px_lp_some h with ⟨i121, vs122, s123, t124, hl125, h⟩ | ⟨z126, hl125, h⟩
                    · by_cases hi128 : i121 = 74
                      · subst hi128
                        rw [if_pos rfl] at h
                        have h9 := px_v1_some h
                        clear h
                        obtain ⟨y127, rfl, h⟩ := h9
                        refine e_l_V_store_13_27_46 K N a0 a1 N v119 (0 : Int32) s116 t117 _ hl125 _ _ ?_
                        show px_E px_ET px_P 12 187 74 [some (.ref 13), some (.int a0), some (.ref 27), some (.int a1), some (.int y127), none] [] (px_w K s123 t124) _ _
                        refine px_blkif (c := 0 ≤ y127) (t := 77) (e := 76) (L' := [some (.ref 13), some (.int a0), some (.ref 27), some (.int a1), some (.int y127), none]) (S' := []) (w' := px_w K s123 t124) (q := []) 2 hM rfl trivial (fun hc129 => ?_) (fun hc129 => ?_)
                        · rw [if_pos hc129] at h
                          refine px_blk (i' := 83) (L' := [some (.ref 13), some (.int a0), some (.ref 27), some (.int a1), some (.int y127), none]) (S' := [.int (s123.1 16), .int a0, .int y127, .ref 14]) (w' := px_w K s123 t124) (q := []) 6 hM rfl trivial ?_
                          rcases px_bv_some h with ⟨s130, t131, hk132, h⟩ | ⟨x134, s130, t131, hk132, h⟩
                          · refine px_E_call hM rfl rfl rfl rfl (px_E_mono (by decide) (e_S_setDirty_14 K N y127 a0 (s123.1 16) s123 t124 _ hk132)) ?_
                            obtain ⟨hq135, h⟩ := px_gd_some h
                            refine px_blk (i' := 90) (L' := [some (.ref 13), some (.int a0), some (.ref 27), some (.int a1), some (.int y127), none]) (S' := []) (w' := px_w K (sA s130 18 y127.toNatClampNeg (1 : Int32)) t131) (q := [vp_in y127 (K.2.2 18)]) 6 hM rfl (show vp_in y127 (K.2.2 18) from hq135) ?_
                            obtain ⟨s136, hs137, h⟩ := px_let_some h
                            rw [← hs137]
                            refine px_blk (i' := 96) (L' := [some (.ref 13), some (.int a0), some (.ref 27), some (.int a1), some (.int y127), none]) (S' := []) (w' := px_w K (sR s136 17 ((s136.1 17) + (1 : Int32))) t131) (q := []) 6 hM rfl trivial ?_
                            obtain ⟨s138, hs139, h⟩ := px_let_some h
                            rw [← hs139]
                            refine px_blk (i' := 103) (L' := [some (.ref 13), some (.int a0), some (.ref 27), some (.int a1), some (.int y127), none]) (S' := [.int a1, .ref 27, .int ((50 : Int32) + y127), .ref 8]) (w' := px_w K s138 t131) (q := []) 7 hM rfl trivial ?_
                            rcases px_bv_some h with ⟨s140, t141, hk142, h⟩ | ⟨x144, s140, t141, hk142, h⟩
                            · refine px_E_call hM rfl rfl rfl rfl (px_E_mono (by decide) (e_D_put_8_27 K N ((50 : Int32) + y127) a1 s138 t131 _ hk142)) ?_
                              cases h
                              exact px_E_ret hM rfl rfl rfl trivial
                            · cases h
                              exact px_E_callT hM rfl rfl rfl rfl (px_E_mono (by decide) (e_D_put_8_27 K N ((50 : Int32) + y127) a1 s138 t131 _ hk142)) rfl
                          · cases h
                        · rw [if_neg hc129] at h
                          cases h
                          exact px_E_ret hM rfl rfl rfl trivial
                      · rw [if_neg hi128] at h
                        cases h
                    · cases h
                      exact e_l_V_store_13_27_46 K N a0 a1 N v119 (0 : Int32) s116 t117 _ hl125 _ _ ⟨rfl, rfl⟩
                  · cases h
                · cases h
                  exact px_E_callT hM rfl rfl rfl rfl (px_E_mono (by decide) (e_V_close_13 K N s4 t5 _ hk113)) rfl
        · cases h
      · rw [if_neg hc3] at h
        refine px_blk (i' := 16) (L' := [some (.ref 13), some (.int a0), some (.ref 27), some (.int a1), none, none]) (S' := [.int a1, .ref 27, .int ((19 : Int32) + a0), .ref 3]) (w' := px_w K s t) (q := []) 7 hM rfl trivial ?_
        rcases px_bv_some h with ⟨s145, t146, hk147, h⟩ | ⟨x149, s145, t146, hk147, h⟩
        · refine px_E_call hM rfl rfl rfl rfl (px_E_mono (by decide) (e_D_put_3_27 K N ((19 : Int32) + a0) a1 s t _ hk147)) ?_
          cases h
          exact px_E_ret hM rfl rfl rfl trivial
        · cases h
          exact px_E_callT hM rfl rfl rfl rfl (px_E_mono (by decide) (e_D_put_3_27 K N ((19 : Int32) + a0) a1 s t _ hk147)) rfl
    · rw [if_neg hc2] at h
      cases h
      exact px_E_ret hM rfl rfl rfl trivial
