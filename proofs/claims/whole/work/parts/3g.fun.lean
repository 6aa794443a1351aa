/-! THE METHODS AS FUNCTIONS (by program). -/
noncomputable def l_T_load_22_16 (K : px_K) (N : Nat) (n : Nat) (m1 : Int32) (m2 : Int32) (s : px_S) (t : px_W) : Option px_LO := match n with
  | 0 => none
  | n + 1 => (if (28 : Int32) ≤ m2 then (some (.inl (43, [], s, t))) else (px_bi (f_T_isCommit_22 K N m1 s t) (fun v5 s2 t3 => (if v5 = 0 then (some (.inl (43, [], s2, t3))) else (px_bv (f_T_replay_22 K N m1 s2 t3) (fun s8 t9 => (px_bi (f_T_at_22 K N m1 (2 : Int32) s8 t9) (fun v16 s13 t14 => (px_let (m1 + (v16 + (2 : Int32))) (fun v18 => (px_let (sR s13 23 ((s13.1 23) + (1 : Int32))) (fun s20 => (l_T_load_22_16 K N n v18 (m2 + (1 : Int32)) s20 t14)))))) (fun x17 s13 t14 => none))) (fun x12 s8 t9 => none)))) (fun x6 s2 t3 => none)))
def a_l_T_load_22_16 (K : px_K) (z : px_LO) (o : Option Value ⊕ Nat) (w2 : px_W) : Prop := match z with
  | .inr (o', s', t') => o = o' ∧ w2 = px_w K s' t'
  | .inl (43, [], s', t') => px_E px_ET px_P 14 176 43 [some (.ref 22), none, none] [] (px_w K s' t') o w2
  | _ => False
set_option maxRecDepth 100000 in
theorem e_l_T_load_22_16 (K : px_K) (N : Nat) : ∀ (n : Nat) (m1 : Int32) (m2 : Int32) (s : px_S) (t : px_W) (z : px_LO), l_T_load_22_16 K N n m1 m2 s t = some z → ∀ (o : Option Value ⊕ Nat) (w2 : px_W), a_l_T_load_22_16 K z o w2 → px_E px_ET px_P 14 176 16 [some (.ref 22), some (.int m1), some (.int m2)] [] (px_w K s t) o w2 := by
  have hM : px_P[176]? = some pm_T_load := rfl
  intro n
  induction n with
  | zero => intro m1 m2 s t z h; cases h
  | succ n ih =>
    intro m1 m2 s t z h o w2 ha
    unfold l_T_load_22_16 at h
    refine px_blkif (c := (28 : Int32) ≤ m2) (t := 43) (e := 19) (L' := [some (.ref 22), some (.int m1), some (.int m2)]) (S' := []) (w' := px_w K s t) (q := []) 3 hM rfl trivial (fun hc1 => ?_) (fun hc1 => ?_)
    · rw [if_pos hc1] at h
      cases h
      exact px_E_le (px_leC_L _ _ (by simp [px_leC, px_le1, Value.category])) ha
    · rw [if_neg hc1] at h
      refine px_blk (i' := 21) (L' := [some (.ref 22), some (.int m1), some (.int m2)]) (S' := [.int m1, .ref 22]) (w' := px_w K s t) (q := []) 2 hM rfl trivial ?_
      rcases px_bi_some h with ⟨v5, s2, t3, hk4, h⟩ | ⟨x6, s2, t3, hk4, h⟩
      · refine px_E_call hM rfl rfl rfl rfl (px_E_mono (by decide) (e_T_isCommit_22 K N m1 s t _ hk4)) ?_
        refine px_blkif (c := v5 = 0) (t := 43) (e := 23) (L' := [some (.ref 22), some (.int m1), some (.int m2)]) (S' := []) (w' := px_w K s2 t3) (q := []) 1 hM rfl trivial (fun hc7 => ?_) (fun hc7 => ?_)
        · rw [if_pos hc7] at h
          cases h
          exact px_E_le (px_leC_L _ _ (by simp [px_leC, px_le1, Value.category])) ha
        · rw [if_neg hc7] at h
          refine px_blk (i' := 25) (L' := [some (.ref 22), some (.int m1), some (.int m2)]) (S' := [.int m1, .ref 22]) (w' := px_w K s2 t3) (q := []) 2 hM rfl trivial ?_
          rcases px_bv_some h with ⟨s8, t9, hk10, h⟩ | ⟨x12, s8, t9, hk10, h⟩
          · refine px_E_call hM rfl rfl rfl rfl (px_E_mono (by decide) (e_T_replay_22 K N m1 s2 t3 _ hk10)) ?_
            refine px_blk (i' := 30) (L' := [some (.ref 22), some (.int m1), some (.int m2)]) (S' := [.int (2 : Int32), .int m1, .ref 22, .int m1]) (w' := px_w K s8 t9) (q := []) 4 hM rfl trivial ?_
            rcases px_bi_some h with ⟨v16, s13, t14, hk15, h⟩ | ⟨x17, s13, t14, hk15, h⟩
            · refine px_E_call hM rfl rfl rfl rfl (px_E_mono (by decide) (e_T_at_22 K N m1 (2 : Int32) s8 t9 _ hk15)) ?_
              refine px_blk (i' := 35) (L' := [some (.ref 22), some (.int (m1 + (v16 + (2 : Int32)))), some (.int m2)]) (S' := []) (w' := px_w K s13 t14) (q := []) 4 hM rfl trivial ?_
              obtain ⟨v18, hv19, h⟩ := px_let_some h
              rw [← hv19]
              refine px_blk (i' := 41) (L' := [some (.ref 22), some (.int v18), some (.int m2)]) (S' := []) (w' := px_w K (sR s13 23 ((s13.1 23) + (1 : Int32))) t14) (q := []) 6 hM rfl trivial ?_
              obtain ⟨s20, hs21, h⟩ := px_let_some h
              rw [← hs21]
              refine px_blk (i' := 16) (L' := [some (.ref 22), some (.int v18), some (.int (m2 + (1 : Int32)))]) (S' := []) (w' := px_w K s20 t14) (q := []) 2 hM rfl trivial ?_
              exact ih v18 (m2 + (1 : Int32)) s20 t14 z h o w2 ha
            · cases h
          · cases h
      · cases h
noncomputable def f_T_load_22 (K : px_K) (N : Nat) (s : px_S) (t : px_W) : Option px_Res :=
  (px_bv (f_T_changeNone_22 K N s t) (fun s1 t2 => (px_bv (f_T_keepNone_22 K N s1 t2) (fun s6 t7 => (px_bv (f_T_peekAll_22 K N s6 t7) (fun s11 t12 => (px_bi (f_T_at_22 K N (0 : Int32) (0 : Int32) s11 t12) (fun v19 s16 t17 => (px_let (sR s16 23 v19) (fun s21 => (px_lp (l_T_load_22_16 K N N (1 : Int32) (0 : Int32) s21 t17) (fun i23 vs24 s25 t26 => (if i23 = 43 then (px_v0 vs24 (px_bv (f_T_bringHome_22 K N s25 t26) (fun s30 t31 => (px_bv (f_T_peekAll_22 K N s30 t31) (fun s35 t36 => (some (.inl none, s35, t36))) (fun x39 s35 t36 => none))) (fun x34 s30 t31 => (some (.inr x34, s30, t31))))) else none)) (fun z28 => some z28))))) (fun x20 s16 t17 => none))) (fun x15 s11 t12 => none))) (fun x10 s6 t7 => none))) (fun x5 s1 t2 => none))
set_option maxRecDepth 100000 in
theorem e_T_load_22 (K : px_K) (N : Nat) (s : px_S) (t : px_W) (r : px_Res) (h : f_T_load_22 K N s t = some r) : px_E px_ET px_P 14 176 0 (px_ent 3 [.ref 22]) [] (px_w K s t) r.1 (px_w K r.2.1 r.2.2) := by
  have hM : px_P[176]? = some pm_T_load := rfl
  unfold f_T_load_22 at h
  refine px_blk (i' := 1) (L' := [some (.ref 22), none, none]) (S' := [.ref 22]) (w' := px_w K s t) (q := []) 1 hM rfl trivial ?_
  rcases px_bv_some h with ⟨s1, t2, hk3, h⟩ | ⟨x5, s1, t2, hk3, h⟩
  · refine px_E_call hM rfl rfl rfl rfl (px_E_mono (by decide) (e_T_changeNone_22 K N s t _ hk3)) ?_
    refine px_blk (i' := 3) (L' := [some (.ref 22), none, none]) (S' := [.ref 22]) (w' := px_w K s1 t2) (q := []) 1 hM rfl trivial ?_
    rcases px_bv_some h with ⟨s6, t7, hk8, h⟩ | ⟨x10, s6, t7, hk8, h⟩
    · refine px_E_call hM rfl rfl rfl rfl (px_E_mono (by decide) (e_T_keepNone_22 K N s1 t2 _ hk8)) ?_
      refine px_blk (i' := 5) (L' := [some (.ref 22), none, none]) (S' := [.ref 22]) (w' := px_w K s6 t7) (q := []) 1 hM rfl trivial ?_
      rcases px_bv_some h with ⟨s11, t12, hk13, h⟩ | ⟨x15, s11, t12, hk13, h⟩
      · refine px_E_call hM rfl rfl rfl rfl (px_E_mono (by decide) (e_T_peekAll_22 K N s6 t7 _ hk13)) ?_
        refine px_blk (i' := 10) (L' := [some (.ref 22), none, none]) (S' := [.int (0 : Int32), .int (0 : Int32), .ref 22, .ref 22]) (w' := px_w K s11 t12) (q := []) 4 hM rfl trivial ?_
        rcases px_bi_some h with ⟨v19, s16, t17, hk18, h⟩ | ⟨x20, s16, t17, hk18, h⟩
        · refine px_E_call hM rfl rfl rfl rfl (px_E_mono (by decide) (e_T_at_22 K N (0 : Int32) (0 : Int32) s11 t12 _ hk18)) ?_
          refine px_blk (i' := 12) (L' := [some (.ref 22), none, none]) (S' := []) (w' := px_w K (sR s16 23 v19) t17) (q := []) 1 hM rfl trivial ?_
          obtain ⟨s21, hs22, h⟩ := px_let_some h
          rw [← hs22]
          refine px_blk (i' := 16) (L' := [some (.ref 22), some (.int (1 : Int32)), some (.int (0 : Int32))]) (S' := []) (w' := px_w K s21 t17) (q := []) 4 hM rfl trivial ?_
          rcases px_lp_some h with ⟨i23, vs24, s25, t26, hl27, h⟩ | ⟨z28, hl27, h⟩
          · by_cases hi29 : i23 = 43
            · subst hi29
              rw [if_pos rfl] at h
              have h9 := px_v0_some h
              clear h
              obtain ⟨rfl, h⟩ := h9
              refine e_l_T_load_22_16 K N N (1 : Int32) (0 : Int32) s21 t17 _ hl27 _ _ ?_
              show px_E px_ET px_P 14 176 43 [some (.ref 22), none, none] [] (px_w K s25 t26) _ _
              refine px_blk (i' := 44) (L' := [some (.ref 22), none, none]) (S' := [.ref 22]) (w' := px_w K s25 t26) (q := []) 1 hM rfl trivial ?_
              rcases px_bv_some h with ⟨s30, t31, hk32, h⟩ | ⟨x34, s30, t31, hk32, h⟩
              · refine px_E_call hM rfl rfl rfl rfl (px_E_mono (by decide) (e_T_bringHome_22 K N s25 t26 _ hk32)) ?_
                refine px_blk (i' := 46) (L' := [some (.ref 22), none, none]) (S' := [.ref 22]) (w' := px_w K s30 t31) (q := []) 1 hM rfl trivial ?_
                rcases px_bv_some h with ⟨s35, t36, hk37, h⟩ | ⟨x39, s35, t36, hk37, h⟩
                · refine px_E_call hM rfl rfl rfl rfl (px_E_mono (by decide) (e_T_peekAll_22 K N s30 t31 _ hk37)) ?_
                  cases h
                  exact px_E_ret hM rfl rfl rfl trivial
                · cases h
              · cases h
                exact px_E_callT hM rfl rfl rfl rfl (px_E_mono (by decide) (e_T_bringHome_22 K N s25 t26 _ hk32)) rfl
            · rw [if_neg hi29] at h
              cases h
          · cases h
            exact e_l_T_load_22_16 K N N (1 : Int32) (0 : Int32) s21 t17 _ hl27 _ _ ⟨rfl, rfl⟩
        · cases h
      · cases h
    · cases h
  · cases h
noncomputable def f_D_at_8 (K : px_K) (N : Nat) (a0 : Int32) (a1 : Int32) (s : px_S) (t : px_W) : Option px_Res :=
  (px_bi (f_D_has_8 K N a0 s t) (fun v4 s1 t2 => (if v4 = 0 then (some (.inl (some (.int (0 : Int32))), s1, t2)) else (if a1 < 0 then (some (.inl (some (.int (0 : Int32))), s1, t2)) else (if (16 : Int32) ≤ a1 then (some (.inl (some (.int (0 : Int32))), s1, t2)) else (px_gd (vp_in ((a0 * (16 : Int32)) + a1) (K.2.2 11)) (some (.inl (some (.int ((s1.2.2.1 11) ((a0 * (16 : Int32)) + a1).toNatClampNeg))), s1, t2))))))) (fun x5 s1 t2 => none))
set_option maxRecDepth 100000 in
theorem e_D_at_8 (K : px_K) (N : Nat) (a0 : Int32) (a1 : Int32) (s : px_S) (t : px_W) (r : px_Res) (h : f_D_at_8 K N a0 a1 s t = some r) : px_E px_ET px_P 2 112 0 (px_ent 3 [.ref 8, .int a0, .int a1]) [] (px_w K s t) r.1 (px_w K r.2.1 r.2.2) := by
  have hM : px_P[112]? = some pm_D_at := rfl
  unfold f_D_at_8 at h
  refine px_blk (i' := 2) (L' := [some (.ref 8), some (.int a0), some (.int a1)]) (S' := [.int a0, .ref 8]) (w' := px_w K s t) (q := []) 2 hM rfl trivial ?_
  rcases px_bi_some h with ⟨v4, s1, t2, hk3, h⟩ | ⟨x5, s1, t2, hk3, h⟩
  · refine px_E_call hM rfl rfl rfl rfl (px_E_mono (by decide) (e_D_has_8 K N a0 s t _ hk3)) ?_
    refine px_blkif (c := v4 = 0) (t := 18) (e := 4) (L' := [some (.ref 8), some (.int a0), some (.int a1)]) (S' := []) (w' := px_w K s1 t2) (q := []) 1 hM rfl trivial (fun hc6 => ?_) (fun hc6 => ?_)
    · rw [if_pos hc6] at h
      refine px_blk (i' := 19) (L' := [some (.ref 8), some (.int a0), some (.int a1)]) (S' := [.int (0 : Int32)]) (w' := px_w K s1 t2) (q := []) 1 hM rfl trivial ?_
      cases h
      exact px_E_ret hM rfl rfl rfl trivial
    · rw [if_neg hc6] at h
      refine px_blkif (c := a1 < 0) (t := 18) (e := 6) (L' := [some (.ref 8), some (.int a0), some (.int a1)]) (S' := []) (w' := px_w K s1 t2) (q := []) 2 hM rfl trivial (fun hc7 => ?_) (fun hc7 => ?_)
      · rw [if_pos hc7] at h
        refine px_blk (i' := 19) (L' := [some (.ref 8), some (.int a0), some (.int a1)]) (S' := [.int (0 : Int32)]) (w' := px_w K s1 t2) (q := []) 1 hM rfl trivial ?_
        cases h
        exact px_E_ret hM rfl rfl rfl trivial
      · rw [if_neg hc7] at h
        refine px_blkif (c := (16 : Int32) ≤ a1) (t := 18) (e := 9) (L' := [some (.ref 8), some (.int a0), some (.int a1)]) (S' := []) (w' := px_w K s1 t2) (q := []) 3 hM rfl trivial (fun hc8 => ?_) (fun hc8 => ?_)
        · rw [if_pos hc8] at h
          refine px_blk (i' := 19) (L' := [some (.ref 8), some (.int a0), some (.int a1)]) (S' := [.int (0 : Int32)]) (w' := px_w K s1 t2) (q := []) 1 hM rfl trivial ?_
          cases h
          exact px_E_ret hM rfl rfl rfl trivial
        · rw [if_neg hc8] at h
          obtain ⟨hq9, h⟩ := px_gd_some h
          refine px_blk (i' := 19) (L' := [some (.ref 8), some (.int a0), some (.int a1)]) (S' := [.int ((s1.2.2.1 11) ((a0 * (16 : Int32)) + a1).toNatClampNeg)]) (w' := px_w K s1 t2) (q := [vp_in ((a0 * (16 : Int32)) + a1) (K.2.2 11)]) 9 hM rfl (show vp_in ((a0 * (16 : Int32)) + a1) (K.2.2 11) from hq9) ?_
          cases h
          exact px_E_ret hM rfl rfl rfl trivial
  · cases h
noncomputable def l_V_goodHalf_13_4 (K : px_K) (N : Nat) (n : Nat) (m1 : Int32) (m2 : Int32) (s : px_S) (t : px_W) : Option px_LO := match n with
  | 0 => none
  | n + 1 => (if (2 : Int32) ≤ m2 then (some (.inl (47, [m1], s, t))) else (if m1 < 0 then (px_bi (f_D_at_8 K N (m2 * (25 : Int32)) (1 : Int32) s t) (fun v6 s3 t4 => (px_bi (f_D_at_3 K N (0 : Int32) (0 : Int32) s3 t4) (fun v11 s8 t9 => (if ¬ v6 = v11 then (l_V_goodHalf_13_4 K N n m1 (m2 + (1 : Int32)) s8 t9) else (if (1 : Int32) = 0 then (l_V_goodHalf_13_4 K N n m1 (m2 + (1 : Int32)) s8 t9) else (l_V_goodHalf_13_4 K N n m2 (m2 + (1 : Int32)) s8 t9)))) (fun x12 s8 t9 => none))) (fun x7 s3 t4 => none)) else (px_bi (f_D_at_8 K N (m2 * (25 : Int32)) (0 : Int32) s t) (fun v18 s15 t16 => (px_bi (f_D_at_8 K N (m1 * (25 : Int32)) (0 : Int32) s15 t16) (fun v23 s20 t21 => (px_let (if v18 ≤ v23 then (0 : Int32) else (1 : Int32)) (fun v25 => (px_bi (f_D_at_8 K N (m2 * (25 : Int32)) (1 : Int32) s20 t21) (fun v30 s27 t28 => (px_bi (f_D_at_3 K N (0 : Int32) (0 : Int32) s27 t28) (fun v35 s32 t33 => (if ¬ v30 = v35 then (l_V_goodHalf_13_4 K N n m1 (m2 + (1 : Int32)) s32 t33) else (if v25 = 0 then (l_V_goodHalf_13_4 K N n m1 (m2 + (1 : Int32)) s32 t33) else (l_V_goodHalf_13_4 K N n m2 (m2 + (1 : Int32)) s32 t33)))) (fun x36 s32 t33 => none))) (fun x31 s27 t28 => none))))) (fun x24 s20 t21 => none))) (fun x19 s15 t16 => none))))
def a_l_V_goodHalf_13_4 (K : px_K) (z : px_LO) (o : Option Value ⊕ Nat) (w2 : px_W) : Prop := match z with
  | .inr (o', s', t') => o = o' ∧ w2 = px_w K s' t'
  | .inl (47, [y1], s', t') => px_E px_ET px_P 3 194 47 [none, some (.int y1), none, none] [] (px_w K s' t') o w2
  | _ => False
set_option maxRecDepth 100000 in
theorem e_l_V_goodHalf_13_4 (K : px_K) (N : Nat) : ∀ (n : Nat) (m1 : Int32) (m2 : Int32) (s : px_S) (t : px_W) (z : px_LO), l_V_goodHalf_13_4 K N n m1 m2 s t = some z → ∀ (o : Option Value ⊕ Nat) (w2 : px_W), a_l_V_goodHalf_13_4 K z o w2 → px_E px_ET px_P 3 194 4 [some (.ref 13), some (.int m1), some (.int m2), none] [] (px_w K s t) o w2 := by
  have hM : px_P[194]? = some pm_V_goodHalf := rfl
  intro n
  induction n with
  | zero => intro m1 m2 s t z h; cases h
  | succ n ih =>
    intro m1 m2 s t z h o w2 ha
    unfold l_V_goodHalf_13_4 at h
    refine px_blkif (c := (2 : Int32) ≤ m2) (t := 47) (e := 7) (L' := [some (.ref 13), some (.int m1), some (.int m2), none]) (S' := []) (w' := px_w K s t) (q := []) 3 hM rfl trivial (fun hc1 => ?_) (fun hc1 => ?_)
    · rw [if_pos hc1] at h
      cases h
      exact px_E_le (px_leC_L _ _ (by simp [px_leC, px_le1, Value.category])) ha
    · rw [if_neg hc1] at h
      refine px_blkif (c := m1 < 0) (t := 24) (e := 9) (L' := [some (.ref 13), some (.int m1), some (.int m2), none]) (S' := []) (w' := px_w K s t) (q := []) 2 hM rfl trivial (fun hc2 => ?_) (fun hc2 => ?_)
      · rw [if_pos hc2] at h
        refine px_blk (i' := 34) (L' := [some (.ref 13), some (.int m1), some (.int m2), some (.int (1 : Int32))]) (S' := [.int (1 : Int32), .int (m2 * (25 : Int32)), .ref 8]) (w' := px_w K s t) (q := []) 9 hM rfl trivial ?_
        rcases px_bi_some h with ⟨v6, s3, t4, hk5, h⟩ | ⟨x7, s3, t4, hk5, h⟩
        · refine px_E_call hM rfl rfl rfl rfl (px_E_mono (by decide) (e_D_at_8 K N (m2 * (25 : Int32)) (1 : Int32) s t _ hk5)) ?_
          refine px_blk (i' := 39) (L' := [some (.ref 13), some (.int m1), some (.int m2), some (.int (1 : Int32))]) (S' := [.int (0 : Int32), .int (0 : Int32), .ref 3, .int v6]) (w' := px_w K s3 t4) (q := []) 4 hM rfl trivial ?_
          rcases px_bi_some h with ⟨v11, s8, t9, hk10, h⟩ | ⟨x12, s8, t9, hk10, h⟩
          · refine px_E_call hM rfl rfl rfl rfl (px_E_mono (by decide) (e_D_at_3 K N (0 : Int32) (0 : Int32) s3 t4 _ hk10)) ?_
            refine px_blkif (c := ¬ v6 = v11) (t := 45) (e := 41) (L' := [some (.ref 13), some (.int m1), some (.int m2), some (.int (1 : Int32))]) (S' := []) (w' := px_w K s8 t9) (q := []) 1 hM rfl trivial (fun hc13 => ?_) (fun hc13 => ?_)
            · rw [if_pos hc13] at h
              refine px_blk (i' := 4) (L' := [some (.ref 13), some (.int m1), some (.int (m2 + (1 : Int32))), some (.int (1 : Int32))]) (S' := []) (w' := px_w K s8 t9) (q := []) 2 hM rfl trivial ?_
              exact px_E_le (px_leC_L _ _ (by simp [px_leC, px_le1, Value.category])) (ih m1 (m2 + (1 : Int32)) s8 t9 z h o w2 ha)
            · rw [if_neg hc13] at h
              refine px_blkif (c := (1 : Int32) = 0) (t := 45) (e := 43) (L' := [some (.ref 13), some (.int m1), some (.int m2), some (.int (1 : Int32))]) (S' := []) (w' := px_w K s8 t9) (q := []) 2 hM rfl trivial (fun hc14 => ?_) (fun hc14 => ?_)
              · rw [if_pos hc14] at h
                refine px_blk (i' := 4) (L' := [some (.ref 13), some (.int m1), some (.int (m2 + (1 : Int32))), some (.int (1 : Int32))]) (S' := []) (w' := px_w K s8 t9) (q := []) 2 hM rfl trivial ?_
                exact px_E_le (px_leC_L _ _ (by simp [px_leC, px_le1, Value.category])) (ih m1 (m2 + (1 : Int32)) s8 t9 z h o w2 ha)
              · rw [if_neg hc14] at h
                refine px_blk (i' := 4) (L' := [some (.ref 13), some (.int m2), some (.int (m2 + (1 : Int32))), some (.int (1 : Int32))]) (S' := []) (w' := px_w K s8 t9) (q := []) 4 hM rfl trivial ?_
                exact px_E_le (px_leC_L _ _ (by simp [px_leC, px_le1, Value.category])) (ih m2 (m2 + (1 : Int32)) s8 t9 z h o w2 ha)
          · cases h
        · cases h
      · rw [if_neg hc2] at h
        refine px_blk (i' := 15) (L' := [some (.ref 13), some (.int m1), some (.int m2), none]) (S' := [.int (0 : Int32), .int (m2 * (25 : Int32)), .ref 8]) (w' := px_w K s t) (q := []) 6 hM rfl trivial ?_
        rcases px_bi_some h with ⟨v18, s15, t16, hk17, h⟩ | ⟨x19, s15, t16, hk17, h⟩
        · refine px_E_call hM rfl rfl rfl rfl (px_E_mono (by decide) (e_D_at_8 K N (m2 * (25 : Int32)) (0 : Int32) s t _ hk17)) ?_
          refine px_blk (i' := 22) (L' := [some (.ref 13), some (.int m1), some (.int m2), none]) (S' := [.int (0 : Int32), .int (m1 * (25 : Int32)), .ref 8, .int v18]) (w' := px_w K s15 t16) (q := []) 6 hM rfl trivial ?_
          rcases px_bi_some h with ⟨v23, s20, t21, hk22, h⟩ | ⟨x24, s20, t21, hk22, h⟩
          · refine px_E_call hM rfl rfl rfl rfl (px_E_mono (by decide) (e_D_at_8 K N (m1 * (25 : Int32)) (0 : Int32) s15 t16 _ hk22)) ?_
            have hK : px_E px_ET px_P 3 194 27 [some (.ref 13), some (.int m1), some (.int m2), none] [.int (if v18 ≤ v23 then (0 : Int32) else (1 : Int32))] (px_w K s20 t21) o w2 := by
              refine px_blk (i' := 28) (L' := [some (.ref 13), some (.int m1), some (.int m2), some (.int (if v18 ≤ v23 then (0 : Int32) else (1 : Int32)))]) (S' := []) (w' := px_w K s20 t21) (q := []) 1 hM rfl trivial ?_
              obtain ⟨v25, hv26, h⟩ := px_let_some h
              rw [← hv26]
              refine px_blk (i' := 34) (L' := [some (.ref 13), some (.int m1), some (.int m2), some (.int v25)]) (S' := [.int (1 : Int32), .int (m2 * (25 : Int32)), .ref 8]) (w' := px_w K s20 t21) (q := []) 6 hM rfl trivial ?_
              rcases px_bi_some h with ⟨v30, s27, t28, hk29, h⟩ | ⟨x31, s27, t28, hk29, h⟩
              · refine px_E_call hM rfl rfl rfl rfl (px_E_mono (by decide) (e_D_at_8 K N (m2 * (25 : Int32)) (1 : Int32) s20 t21 _ hk29)) ?_
                refine px_blk (i' := 39) (L' := [some (.ref 13), some (.int m1), some (.int m2), some (.int v25)]) (S' := [.int (0 : Int32), .int (0 : Int32), .ref 3, .int v30]) (w' := px_w K s27 t28) (q := []) 4 hM rfl trivial ?_
                rcases px_bi_some h with ⟨v35, s32, t33, hk34, h⟩ | ⟨x36, s32, t33, hk34, h⟩
                · refine px_E_call hM rfl rfl rfl rfl (px_E_mono (by decide) (e_D_at_3 K N (0 : Int32) (0 : Int32) s27 t28 _ hk34)) ?_
                  refine px_blkif (c := ¬ v30 = v35) (t := 45) (e := 41) (L' := [some (.ref 13), some (.int m1), some (.int m2), some (.int v25)]) (S' := []) (w' := px_w K s32 t33) (q := []) 1 hM rfl trivial (fun hc37 => ?_) (fun hc37 => ?_)
                  · rw [if_pos hc37] at h
                    refine px_blk (i' := 4) (L' := [some (.ref 13), some (.int m1), some (.int (m2 + (1 : Int32))), some (.int v25)]) (S' := []) (w' := px_w K s32 t33) (q := []) 2 hM rfl trivial ?_
                    exact px_E_le (px_leC_L _ _ (by simp [px_leC, px_le1, Value.category])) (ih m1 (m2 + (1 : Int32)) s32 t33 z h o w2 ha)
                  · rw [if_neg hc37] at h
                    refine px_blkif (c := v25 = 0) (t := 45) (e := 43) (L' := [some (.ref 13), some (.int m1), some (.int m2), some (.int v25)]) (S' := []) (w' := px_w K s32 t33) (q := []) 2 hM rfl trivial (fun hc38 => ?_) (fun hc38 => ?_)
                    · rw [if_pos hc38] at h
                      refine px_blk (i' := 4) (L' := [some (.ref 13), some (.int m1), some (.int (m2 + (1 : Int32))), some (.int v25)]) (S' := []) (w' := px_w K s32 t33) (q := []) 2 hM rfl trivial ?_
                      exact px_E_le (px_leC_L _ _ (by simp [px_leC, px_le1, Value.category])) (ih m1 (m2 + (1 : Int32)) s32 t33 z h o w2 ha)
                    · rw [if_neg hc38] at h
                      refine px_blk (i' := 4) (L' := [some (.ref 13), some (.int m2), some (.int (m2 + (1 : Int32))), some (.int v25)]) (S' := []) (w' := px_w K s32 t33) (q := []) 4 hM rfl trivial ?_
                      exact px_E_le (px_leC_L _ _ (by simp [px_leC, px_le1, Value.category])) (ih m2 (m2 + (1 : Int32)) s32 t33 z h o w2 ha)
                · cases h
              · cases h
            clear h
            refine px_blkif (c := v18 ≤ v23) (t := 26) (e := 24) (L' := [some (.ref 13), some (.int m1), some (.int m2), none]) (S' := []) (w' := px_w K s20 t21) (q := []) 1 hM rfl trivial (fun hc39 => ?_) (fun hc39 => ?_)
            · rw [if_pos hc39] at hK
              exact px_blk (i' := 27) (L' := [some (.ref 13), some (.int m1), some (.int m2), none]) (S' := [.int (0 : Int32)]) (w' := px_w K s20 t21) (q := []) 1 hM rfl trivial hK
            · rw [if_neg hc39] at hK
              exact px_blk (i' := 27) (L' := [some (.ref 13), some (.int m1), some (.int m2), none]) (S' := [.int (1 : Int32)]) (w' := px_w K s20 t21) (q := []) 2 hM rfl trivial hK
          · cases h
        · cases h
noncomputable def f_V_goodHalf_13 (K : px_K) (N : Nat) (s : px_S) (t : px_W) : Option px_Res :=
  (px_lp (l_V_goodHalf_13_4 K N N (-1 : Int32) (0 : Int32) s t) (fun i1 vs2 s3 t4 => (if i1 = 47 then (px_v1 vs2 (fun y7 => (some (.inl (some (.int y7)), s3, t4)))) else none)) (fun z6 => some z6))
set_option maxRecDepth 100000 in
theorem e_V_goodHalf_13 (K : px_K) (N : Nat) (s : px_S) (t : px_W) (r : px_Res) (h : f_V_goodHalf_13 K N s t = some r) : px_E px_ET px_P 3 194 0 (px_ent 4 [.ref 13]) [] (px_w K s t) r.1 (px_w K r.2.1 r.2.2) := by
  have hM : px_P[194]? = some pm_V_goodHalf := rfl
  unfold f_V_goodHalf_13 at h
  refine px_blk (i' := 4) (L' := [some (.ref 13), some (.int (-1 : Int32)), some (.int (0 : Int32)), none]) (S' := []) (w' := px_w K s t) (q := []) 4 hM rfl trivial ?_
  rcases px_lp_some h with ⟨i1, vs2, s3, t4, hl5, h⟩ | ⟨z6, hl5, h⟩
  · by_cases hi8 : i1 = 47
    · subst hi8
      rw [if_pos rfl] at h
      have h9 := px_v1_some h
      clear h
      obtain ⟨y7, rfl, h⟩ := h9
      refine e_l_V_goodHalf_13_4 K N N (-1 : Int32) (0 : Int32) s t _ hl5 _ _ ?_
      show px_E px_ET px_P 3 194 47 [none, some (.int y7), none, none] [] (px_w K s3 t4) _ _
      refine px_blk (i' := 48) (L' := [none, some (.int y7), none, none]) (S' := [.int y7]) (w' := px_w K s3 t4) (q := []) 1 hM rfl trivial ?_
      cases h
      exact px_E_ret hM rfl rfl rfl trivial
    · rw [if_neg hi8] at h
      cases h
  · cases h
    exact e_l_V_goodHalf_13_4 K N N (-1 : Int32) (0 : Int32) s t _ hl5 _ _ ⟨rfl, rfl⟩
noncomputable def l_Arrays_fill_19_5 (K : px_K) (N : Nat) (n : Nat) (u1 : Int32) (u3 : Int32) (m2 : Int32) (s : px_S) (t : px_W) : Option px_LO := match n with
  | 0 => none
  | n + 1 => (if u3 ≤ m2 then (some (.inl (14, [], s, t))) else (px_gd (vp_in m2 (K.2.2 19)) (px_let (sA s 19 m2.toNatClampNeg u1) (fun s3 => (l_Arrays_fill_19_5 K N n u1 u3 (m2 + (1 : Int32)) s3 t)))))
def a_l_Arrays_fill_19_5 (K : px_K) (u1 : Int32) (u3 : Int32) (z : px_LO) (o : Option Value ⊕ Nat) (w2 : px_W) : Prop := match z with
  | .inr (o', s', t') => o = o' ∧ w2 = px_w K s' t'
  | .inl (14, [], s', t') => px_E px_ET px_P 1 206 14 [none, none, none, none] [] (px_w K s' t') o w2
  | _ => False
set_option maxRecDepth 100000 in
theorem e_l_Arrays_fill_19_5 (K : px_K) (N : Nat) (u1 : Int32) (u3 : Int32) : ∀ (n : Nat) (m2 : Int32) (s : px_S) (t : px_W) (z : px_LO), l_Arrays_fill_19_5 K N n u1 u3 m2 s t = some z → ∀ (o : Option Value ⊕ Nat) (w2 : px_W), a_l_Arrays_fill_19_5 K u1 u3 z o w2 → px_E px_ET px_P 1 206 5 [some (.ref 19), some (.int u1), some (.int m2), some (.int u3)] [] (px_w K s t) o w2 := by
  have hM : px_P[206]? = some pm_Arrays_fill := rfl
  intro n
  induction n with
  | zero => intro m2 s t z h; cases h
  | succ n ih =>
    intro m2 s t z h o w2 ha
    unfold l_Arrays_fill_19_5 at h
    refine px_blkif (c := u3 ≤ m2) (t := 14) (e := 8) (L' := [some (.ref 19), some (.int u1), some (.int m2), some (.int u3)]) (S' := []) (w' := px_w K s t) (q := []) 3 hM rfl trivial (fun hc1 => ?_) (fun hc1 => ?_)
    · rw [if_pos hc1] at h
      cases h
      exact px_E_le (px_leC_L _ _ (by simp [px_leC, px_le1, Value.category])) ha
    · rw [if_neg hc1] at h
      obtain ⟨hq2, h⟩ := px_gd_some h
      refine px_blk (i' := 12) (L' := [some (.ref 19), some (.int u1), some (.int m2), some (.int u3)]) (S' := []) (w' := px_w K (sA s 19 m2.toNatClampNeg u1) t) (q := [vp_in m2 (K.2.2 19)]) 4 hM rfl (show vp_in m2 (K.2.2 19) from hq2) ?_
      obtain ⟨s3, hs4, h⟩ := px_let_some h
      rw [← hs4]
      refine px_blk (i' := 5) (L' := [some (.ref 19), some (.int u1), some (.int (m2 + (1 : Int32))), some (.int u3)]) (S' := []) (w' := px_w K s3 t) (q := []) 2 hM rfl trivial ?_
      exact ih (m2 + (1 : Int32)) s3 t z h o w2 ha
noncomputable def f_Arrays_fill_19 (K : px_K) (N : Nat) (a0 : Int32) (s : px_S) (t : px_W) : Option px_Res :=
  (px_let (Int32.ofNat (K.2.2 19)) (fun v1 => (px_lp (l_Arrays_fill_19_5 K N N a0 v1 (0 : Int32) s t) (fun i3 vs4 s5 t6 => (if i3 = 14 then (px_v0 vs4 (some (.inl none, s5, t6))) else none)) (fun z8 => some z8))))
set_option maxRecDepth 100000 in
theorem e_Arrays_fill_19 (K : px_K) (N : Nat) (a0 : Int32) (s : px_S) (t : px_W) (r : px_Res) (h : f_Arrays_fill_19 K N a0 s t = some r) : px_E px_ET px_P 1 206 0 (px_ent 4 [.ref 19, .int a0]) [] (px_w K s t) r.1 (px_w K r.2.1 r.2.2) := by
  have hM : px_P[206]? = some pm_Arrays_fill := rfl
  unfold f_Arrays_fill_19 at h
  refine px_blk (i' := 5) (L' := [some (.ref 19), some (.int a0), some (.int (0 : Int32)), some (.int (Int32.ofNat (K.2.2 19)))]) (S' := []) (w' := px_w K s t) (q := []) 5 hM rfl trivial ?_
  obtain ⟨v1, hv2, h⟩ := px_let_some h
  rw [← hv2]
  rcases px_lp_some h with ⟨i3, vs4, s5, t6, hl7, h⟩ | ⟨z8, hl7, h⟩
  · by_cases hi9 : i3 = 14
    · subst hi9
      rw [if_pos rfl] at h
      have h9 := px_v0_some h
      clear h
      obtain ⟨rfl, h⟩ := h9
      refine e_l_Arrays_fill_19_5 K N a0 v1 N (0 : Int32) s t _ hl7 _ _ ?_
      show px_E px_ET px_P 1 206 14 [none, none, none, none] [] (px_w K s5 t6) _ _
      cases h
      exact px_E_ret hM rfl rfl rfl trivial
    · rw [if_neg hi9] at h
      cases h
  · cases h
    exact e_l_Arrays_fill_19_5 K N a0 v1 N (0 : Int32) s t _ hl7 _ _ ⟨rfl, rfl⟩
noncomputable def l_S_clear_14_2 (K : px_K) (N : Nat) (n : Nat) (m1 : Int32) (s : px_S) (t : px_W) : Option px_LO := match n with
  | 0 => none
  | n + 1 => (if (s.1 20) ≤ m1 then (some (.inl (11, [], s, t))) else (px_bv (f_S_free_14 K N m1 s t) (fun s2 t3 => (l_S_clear_14_2 K N n (m1 + (1 : Int32)) s2 t3)) (fun x6 s2 t3 => none)))
def a_l_S_clear_14_2 (K : px_K) (z : px_LO) (o : Option Value ⊕ Nat) (w2 : px_W) : Prop := match z with
  | .inr (o', s', t') => o = o' ∧ w2 = px_w K s' t'
  | .inl (11, [], s', t') => px_E px_ET px_P 2 120 11 [some (.ref 14), none] [] (px_w K s' t') o w2
  | _ => False
set_option maxRecDepth 100000 in
theorem e_l_S_clear_14_2 (K : px_K) (N : Nat) : ∀ (n : Nat) (m1 : Int32) (s : px_S) (t : px_W) (z : px_LO), l_S_clear_14_2 K N n m1 s t = some z → ∀ (o : Option Value ⊕ Nat) (w2 : px_W), a_l_S_clear_14_2 K z o w2 → px_E px_ET px_P 2 120 2 [some (.ref 14), some (.int m1)] [] (px_w K s t) o w2 := by
  have hM : px_P[120]? = some pm_S_clear := rfl
  intro n
  induction n with
  | zero => intro m1 s t z h; cases h
  | succ n ih =>
    intro m1 s t z h o w2 ha
    unfold l_S_clear_14_2 at h
    refine px_blkif (c := (s.1 20) ≤ m1) (t := 11) (e := 6) (L' := [some (.ref 14), some (.int m1)]) (S' := []) (w' := px_w K s t) (q := []) 4 hM rfl trivial (fun hc1 => ?_) (fun hc1 => ?_)
    · rw [if_pos hc1] at h
      cases h
      exact px_E_le (px_leC_L _ _ (by simp [px_leC, px_le1, Value.category])) ha
    · rw [if_neg hc1] at h
      refine px_blk (i' := 8) (L' := [some (.ref 14), some (.int m1)]) (S' := [.int m1, .ref 14]) (w' := px_w K s t) (q := []) 2 hM rfl trivial ?_
      rcases px_bv_some h with ⟨s2, t3, hk4, h⟩ | ⟨x6, s2, t3, hk4, h⟩
      · refine px_E_call hM rfl rfl rfl rfl (px_E_mono (by decide) (e_S_free_14 K N m1 s t _ hk4)) ?_
        refine px_blk (i' := 2) (L' := [some (.ref 14), some (.int (m1 + (1 : Int32)))]) (S' := []) (w' := px_w K s2 t3) (q := []) 2 hM rfl trivial ?_
        exact ih (m1 + (1 : Int32)) s2 t3 z h o w2 ha
      · cases h
noncomputable def f_S_clear_14 (K : px_K) (N : Nat) (s : px_S) (t : px_W) : Option px_Res :=
  (px_lp (l_S_clear_14_2 K N N (0 : Int32) s t) (fun i1 vs2 s3 t4 => (if i1 = 11 then (px_v0 vs2 (px_bv (f_Arrays_fill_19 K N (0 : Int32) s3 t4) (fun s8 t9 => (some (.inl none, s8, t9))) (fun x12 s8 t9 => none))) else none)) (fun z6 => some z6))
set_option maxRecDepth 100000 in
theorem e_S_clear_14 (K : px_K) (N : Nat) (s : px_S) (t : px_W) (r : px_Res) (h : f_S_clear_14 K N s t = some r) : px_E px_ET px_P 2 120 0 (px_ent 2 [.ref 14]) [] (px_w K s t) r.1 (px_w K r.2.1 r.2.2) := by
  have hM : px_P[120]? = some pm_S_clear := rfl
  unfold f_S_clear_14 at h
  refine px_blk (i' := 2) (L' := [some (.ref 14), some (.int (0 : Int32))]) (S' := []) (w' := px_w K s t) (q := []) 2 hM rfl trivial ?_
  rcases px_lp_some h with ⟨i1, vs2, s3, t4, hl5, h⟩ | ⟨z6, hl5, h⟩
  · by_cases hi7 : i1 = 11
    · subst hi7
      rw [if_pos rfl] at h
      have h9 := px_v0_some h
      clear h
      obtain ⟨rfl, h⟩ := h9
      refine e_l_S_clear_14_2 K N N (0 : Int32) s t _ hl5 _ _ ?_
      show px_E px_ET px_P 2 120 11 [some (.ref 14), none] [] (px_w K s3 t4) _ _
      refine px_blk (i' := 14) (L' := [some (.ref 14), none]) (S' := [.int (0 : Int32), .ref 19]) (w' := px_w K s3 t4) (q := []) 3 hM rfl trivial ?_
      rcases px_bv_some h with ⟨s8, t9, hk10, h⟩ | ⟨x12, s8, t9, hk10, h⟩
      · refine px_E_call hM rfl rfl rfl rfl (px_E_mono (by decide) (e_Arrays_fill_19 K N (0 : Int32) s3 t4 _ hk10)) ?_
        cases h
        exact px_E_ret hM rfl rfl rfl trivial
      · cases h
    · rw [if_neg hi7] at h
      cases h
  · cases h
    exact e_l_S_clear_14_2 K N N (0 : Int32) s t _ hl5 _ _ ⟨rfl, rfl⟩
noncomputable def f_V_startSlots_13 (K : px_K) (N : Nat) (s : px_S) (t : px_W) : Option px_Res :=
  (px_bv (f_S_clear_14 K N s t) (fun s1 t2 => (px_let (sR s1 17 (0 : Int32)) (fun s6 => (px_bi (f_V_landed_13 K N s6 t2) (fun v11 s8 t9 => (px_let (sR s8 16 (v11 + (1 : Int32))) (fun s13 => (some (.inl none, s13, t9))))) (fun x12 s8 t9 => none))))) (fun x5 s1 t2 => none))
set_option maxRecDepth 100000 in
theorem e_V_startSlots_13 (K : px_K) (N : Nat) (s : px_S) (t : px_W) (r : px_Res) (h : f_V_startSlots_13 K N s t = some r) : px_E px_ET px_P 3 196 0 (px_ent 1 [.ref 13]) [] (px_w K s t) r.1 (px_w K r.2.1 r.2.2) := by
  have hM : px_P[196]? = some pm_V_startSlots := rfl
  unfold f_V_startSlots_13 at h
  refine px_blk (i' := 2) (L' := [some (.ref 13)]) (S' := [.ref 14]) (w' := px_w K s t) (q := []) 2 hM rfl trivial ?_
  rcases px_bv_some h with ⟨s1, t2, hk3, h⟩ | ⟨x5, s1, t2, hk3, h⟩
  · refine px_E_call hM rfl rfl rfl rfl (px_E_mono (by decide) (e_S_clear_14 K N s t _ hk3)) ?_
    refine px_blk (i' := 6) (L' := [some (.ref 13)]) (S' := []) (w' := px_w K (sR s1 17 (0 : Int32)) t2) (q := []) 3 hM rfl trivial ?_
    obtain ⟨s6, hs7, h⟩ := px_let_some h
    rw [← hs7]
    refine px_blk (i' := 8) (L' := [some (.ref 13)]) (S' := [.ref 13, .ref 13]) (w' := px_w K s6 t2) (q := []) 2 hM rfl trivial ?_
    rcases px_bi_some h with ⟨v11, s8, t9, hk10, h⟩ | ⟨x12, s8, t9, hk10, h⟩
    · refine px_E_call hM rfl rfl rfl rfl (px_E_mono (by decide) (e_V_landed_13 K N s6 t2 _ hk10)) ?_
      refine px_blk (i' := 12) (L' := [some (.ref 13)]) (S' := []) (w' := px_w K (sR s8 16 (v11 + (1 : Int32))) t9) (q := []) 3 hM rfl trivial ?_
      obtain ⟨s13, hs14, h⟩ := px_let_some h
      rw [← hs14]
      cases h
      exact px_E_ret hM rfl rfl rfl trivial
    · cases h
  · cases h
noncomputable def l_V_hasLast_13_2 (K : px_K) (N : Nat) (n : Nat) (u1 : Int32) (m2 : Int32) (s : px_S) (t : px_W) : Option px_LO := match n with
  | 0 => none
  | n + 1 => (if (24 : Int32) ≤ m2 then (some (.inl (40, [], s, t))) else (px_let ((((s.1 13) * (25 : Int32)) + (1 : Int32)) + m2) (fun v2 => (px_bi (f_D_at_8 K N v2 (0 : Int32) s t) (fun v7 s4 t5 => (if ¬ v7 = (s4.1 14) then (l_V_hasLast_13_2 K N n u1 (m2 + (1 : Int32)) s4 t5) else (px_bi (f_D_at_8 K N v2 (1 : Int32) s4 t5) (fun v13 s10 t11 => (if ¬ v13 = u1 then (l_V_hasLast_13_2 K N n u1 (m2 + (1 : Int32)) s10 t11) else (px_bi (f_D_at_8 K N v2 (2 : Int32) s10 t11) (fun v19 s16 t17 => (if ¬ v19 = (1 : Int32) then (l_V_hasLast_13_2 K N n u1 (m2 + (1 : Int32)) s16 t17) else (some (.inl (36, [], s16, t17))))) (fun x20 s16 t17 => none)))) (fun x14 s10 t11 => none)))) (fun x8 s4 t5 => none)))))
def a_l_V_hasLast_13_2 (K : px_K) (u1 : Int32) (z : px_LO) (o : Option Value ⊕ Nat) (w2 : px_W) : Prop := match z with
  | .inr (o', s', t') => o = o' ∧ w2 = px_w K s' t'
  | .inl (36, [], s', t') => px_E px_ET px_P 3 197 36 [none, none, none, none] [] (px_w K s' t') o w2
  | .inl (40, [], s', t') => px_E px_ET px_P 3 197 40 [none, none, none, none] [] (px_w K s' t') o w2
  | _ => False
set_option maxRecDepth 100000 in
theorem e_l_V_hasLast_13_2 (K : px_K) (N : Nat) (u1 : Int32) : ∀ (n : Nat) (m2 : Int32) (s : px_S) (t : px_W) (z : px_LO), l_V_hasLast_13_2 K N n u1 m2 s t = some z → ∀ (o : Option Value ⊕ Nat) (w2 : px_W), a_l_V_hasLast_13_2 K u1 z o w2 → px_E px_ET px_P 3 197 2 [some (.ref 13), some (.int u1), some (.int m2), none] [] (px_w K s t) o w2 := by
  have hM : px_P[197]? = some pm_V_hasLast := rfl
  intro n
  induction n with
  | zero => intro m2 s t z h; cases h
  | succ n ih =>
    intro m2 s t z h o w2 ha
    unfold l_V_hasLast_13_2 at h
    refine px_blkif (c := (24 : Int32) ≤ m2) (t := 40) (e := 5) (L' := [some (.ref 13), some (.int u1), some (.int m2), none]) (S' := []) (w' := px_w K s t) (q := []) 3 hM rfl trivial (fun hc1 => ?_) (fun hc1 => ?_)
    · rw [if_pos hc1] at h
      cases h
      exact px_E_le (px_leC_L _ _ (by simp [px_leC, px_le1, Value.category])) ha
    · rw [if_neg hc1] at h
      refine px_blk (i' := 14) (L' := [some (.ref 13), some (.int u1), some (.int m2), some (.int ((((s.1 13) * (25 : Int32)) + (1 : Int32)) + m2))]) (S' := []) (w' := px_w K s t) (q := []) 9 hM rfl trivial ?_
      obtain ⟨v2, hv3, h⟩ := px_let_some h
      rw [← hv3]
      refine px_blk (i' := 18) (L' := [some (.ref 13), some (.int u1), some (.int m2), some (.int v2)]) (S' := [.int (0 : Int32), .int v2, .ref 8]) (w' := px_w K s t) (q := []) 4 hM rfl trivial ?_
      rcases px_bi_some h with ⟨v7, s4, t5, hk6, h⟩ | ⟨x8, s4, t5, hk6, h⟩
      · refine px_E_call hM rfl rfl rfl rfl (px_E_mono (by decide) (e_D_at_8 K N v2 (0 : Int32) s t _ hk6)) ?_
        refine px_blkif (c := ¬ v7 = (s4.1 14)) (t := 38) (e := 22) (L' := [some (.ref 13), some (.int u1), some (.int m2), some (.int v2)]) (S' := []) (w' := px_w K s4 t5) (q := []) 3 hM rfl trivial (fun hc9 => ?_) (fun hc9 => ?_)
        · rw [if_pos hc9] at h
          refine px_blk (i' := 2) (L' := [some (.ref 13), some (.int u1), some (.int (m2 + (1 : Int32))), some (.int v2)]) (S' := []) (w' := px_w K s4 t5) (q := []) 2 hM rfl trivial ?_
          exact px_E_le (px_leC_L _ _ (by simp [px_leC, px_le1, Value.category])) (ih (m2 + (1 : Int32)) s4 t5 z h o w2 ha)
        · rw [if_neg hc9] at h
          refine px_blk (i' := 26) (L' := [some (.ref 13), some (.int u1), some (.int m2), some (.int v2)]) (S' := [.int (1 : Int32), .int v2, .ref 8]) (w' := px_w K s4 t5) (q := []) 4 hM rfl trivial ?_
          rcases px_bi_some h with ⟨v13, s10, t11, hk12, h⟩ | ⟨x14, s10, t11, hk12, h⟩
          · refine px_E_call hM rfl rfl rfl rfl (px_E_mono (by decide) (e_D_at_8 K N v2 (1 : Int32) s4 t5 _ hk12)) ?_
            refine px_blkif (c := ¬ v13 = u1) (t := 38) (e := 29) (L' := [some (.ref 13), some (.int u1), some (.int m2), some (.int v2)]) (S' := []) (w' := px_w K s10 t11) (q := []) 2 hM rfl trivial (fun hc15 => ?_) (fun hc15 => ?_)
            · rw [if_pos hc15] at h
              refine px_blk (i' := 2) (L' := [some (.ref 13), some (.int u1), some (.int (m2 + (1 : Int32))), some (.int v2)]) (S' := []) (w' := px_w K s10 t11) (q := []) 2 hM rfl trivial ?_
              exact px_E_le (px_leC_L _ _ (by simp [px_leC, px_le1, Value.category])) (ih (m2 + (1 : Int32)) s10 t11 z h o w2 ha)
            · rw [if_neg hc15] at h
              refine px_blk (i' := 33) (L' := [some (.ref 13), some (.int u1), some (.int m2), some (.int v2)]) (S' := [.int (2 : Int32), .int v2, .ref 8]) (w' := px_w K s10 t11) (q := []) 4 hM rfl trivial ?_
              rcases px_bi_some h with ⟨v19, s16, t17, hk18, h⟩ | ⟨x20, s16, t17, hk18, h⟩
              · refine px_E_call hM rfl rfl rfl rfl (px_E_mono (by decide) (e_D_at_8 K N v2 (2 : Int32) s10 t11 _ hk18)) ?_
                refine px_blkif (c := ¬ v19 = (1 : Int32)) (t := 38) (e := 36) (L' := [some (.ref 13), some (.int u1), some (.int m2), some (.int v2)]) (S' := []) (w' := px_w K s16 t17) (q := []) 2 hM rfl trivial (fun hc21 => ?_) (fun hc21 => ?_)
                · rw [if_pos hc21] at h
                  refine px_blk (i' := 2) (L' := [some (.ref 13), some (.int u1), some (.int (m2 + (1 : Int32))), some (.int v2)]) (S' := []) (w' := px_w K s16 t17) (q := []) 2 hM rfl trivial ?_
                  exact px_E_le (px_leC_L _ _ (by simp [px_leC, px_le1, Value.category])) (ih (m2 + (1 : Int32)) s16 t17 z h o w2 ha)
                · rw [if_neg hc21] at h
                  cases h
                  exact px_E_le (px_leC_L _ _ (by simp [px_leC, px_le1, Value.category])) ha
              · cases h
          · cases h
      · cases h
noncomputable def f_V_hasLast_13 (K : px_K) (N : Nat) (a0 : Int32) (s : px_S) (t : px_W) : Option px_Res :=
  (px_lp (l_V_hasLast_13_2 K N N a0 (0 : Int32) s t) (fun i1 vs2 s3 t4 => (if i1 = 36 then (px_v0 vs2 (some (.inl (some (.int (1 : Int32))), s3, t4))) else (if i1 = 40 then (px_v0 vs2 (some (.inl (some (.int (0 : Int32))), s3, t4))) else none))) (fun z6 => some z6))
set_option maxRecDepth 100000 in
theorem e_V_hasLast_13 (K : px_K) (N : Nat) (a0 : Int32) (s : px_S) (t : px_W) (r : px_Res) (h : f_V_hasLast_13 K N a0 s t = some r) : px_E px_ET px_P 3 197 0 (px_ent 4 [.ref 13, .int a0]) [] (px_w K s t) r.1 (px_w K r.2.1 r.2.2) := by
  have hM : px_P[197]? = some pm_V_hasLast := rfl
  unfold f_V_hasLast_13 at h
  refine px_blk (i' := 2) (L' := [some (.ref 13), some (.int a0), some (.int (0 : Int32)), none]) (S' := []) (w' := px_w K s t) (q := []) 2 hM rfl trivial ?_
  rcases px_lp_some h with ⟨i1, vs2, s3, t4, hl5, h⟩ | ⟨z6, hl5, h⟩
  · by_cases hi7 : i1 = 36
    · subst hi7
      rw [if_pos rfl] at h
      have h9 := px_v0_some h
      clear h
      obtain ⟨rfl, h⟩ := h9
      refine e_l_V_hasLast_13_2 K N a0 N (0 : Int32) s t _ hl5 _ _ ?_
      show px_E px_ET px_P 3 197 36 [none, none, none, none] [] (px_w K s3 t4) _ _
      refine px_blk (i' := 37) (L' := [none, none, none, none]) (S' := [.int (1 : Int32)]) (w' := px_w K s3 t4) (q := []) 1 hM rfl trivial ?_
      cases h
      exact px_E_ret hM rfl rfl rfl (show (1 : Int32) = 0 ∨ (1 : Int32) = 1 from Or.inr rfl)
    · rw [if_neg hi7] at h
      by_cases hi8 : i1 = 40
      · subst hi8
        rw [if_pos rfl] at h
        have h9 := px_v0_some h
        clear h
        obtain ⟨rfl, h⟩ := h9
        refine e_l_V_hasLast_13_2 K N a0 N (0 : Int32) s t _ hl5 _ _ ?_
        show px_E px_ET px_P 3 197 40 [none, none, none, none] [] (px_w K s3 t4) _ _
        refine px_blk (i' := 41) (L' := [none, none, none, none]) (S' := [.int (0 : Int32)]) (w' := px_w K s3 t4) (q := []) 1 hM rfl trivial ?_
        cases h
        exact px_E_ret hM rfl rfl rfl (show (0 : Int32) = 0 ∨ (0 : Int32) = 1 from Or.inl rfl)
      · rw [if_neg hi8] at h
        cases h
  · cases h
    exact e_l_V_hasLast_13_2 K N a0 N (0 : Int32) s t _ hl5 _ _ ⟨rfl, rfl⟩
noncomputable def l_V_takeRecord_13_10 (K : px_K) (N : Nat) (n : Nat) (u1 : Int32) (u2 : Int32) (u3 : Int32) (m4 : Int32) (s : px_S) (t : px_W) : Option px_LO := match n with
  | 0 => none
  | n + 1 => (if u3 ≤ m4 then (some (.inl (53, [], s, t))) else (px_bi (f_D_at_8 K N u1 ((4 : Int32) + ((2 : Int32) * m4)) s t) (fun v5 s2 t3 => (px_bi (f_D_at_8 K N u1 ((5 : Int32) + ((2 : Int32) * m4)) s2 t3) (fun v10 s7 t8 => (if v5 < 0 then (l_V_takeRecord_13_10 K N n u1 u2 u3 (m4 + (1 : Int32)) s7 t8) else (if (s7.1 20) ≤ v5 then (l_V_takeRecord_13_10 K N n u1 u2 u3 (m4 + (1 : Int32)) s7 t8) else (if v10 < 0 then (l_V_takeRecord_13_10 K N n u1 u2 u3 (m4 + (1 : Int32)) s7 t8) else (if (106 : Int32) ≤ v10 then (l_V_takeRecord_13_10 K N n u1 u2 u3 (m4 + (1 : Int32)) s7 t8) else (px_bv (f_S_setDirty_14 K N v5 v10 u2 s7 t8) (fun s16 t17 => (l_V_takeRecord_13_10 K N n u1 u2 u3 (m4 + (1 : Int32)) s16 t17)) (fun x20 s16 t17 => none))))))) (fun x11 s7 t8 => none))) (fun x6 s2 t3 => none)))
def a_l_V_takeRecord_13_10 (K : px_K) (u1 : Int32) (u2 : Int32) (u3 : Int32) (z : px_LO) (o : Option Value ⊕ Nat) (w2 : px_W) : Prop := match z with
  | .inr (o', s', t') => o = o' ∧ w2 = px_w K s' t'
  | .inl (53, [], s', t') => px_E px_ET px_P 3 198 53 [none, none, none, none, none, none, none] [] (px_w K s' t') o w2
  | _ => False
set_option maxRecDepth 100000 in
theorem e_l_V_takeRecord_13_10 (K : px_K) (N : Nat) (u1 : Int32) (u2 : Int32) (u3 : Int32) : ∀ (n : Nat) (m4 : Int32) (s : px_S) (t : px_W) (z : px_LO), l_V_takeRecord_13_10 K N n u1 u2 u3 m4 s t = some z → ∀ (o : Option Value ⊕ Nat) (w2 : px_W), a_l_V_takeRecord_13_10 K u1 u2 u3 z o w2 → px_E px_ET px_P 3 198 10 [some (.ref 13), some (.int u1), some (.int u2), some (.int u3), some (.int m4), none, none] [] (px_w K s t) o w2 := by
  have hM : px_P[198]? = some pm_V_takeRecord := rfl
  intro n
  induction n with
  | zero => intro m4 s t z h; cases h
  | succ n ih =>
    intro m4 s t z h o w2 ha
    unfold l_V_takeRecord_13_10 at h
    refine px_blkif (c := u3 ≤ m4) (t := 53) (e := 13) (L' := [some (.ref 13), some (.int u1), some (.int u2), some (.int u3), some (.int m4), none, none]) (S' := []) (w' := px_w K s t) (q := []) 3 hM rfl trivial (fun hc1 => ?_) (fun hc1 => ?_)
    · rw [if_pos hc1] at h
      cases h
      exact px_E_le (px_leC_L _ _ (by simp [px_leC, px_le1, Value.category])) ha
    · rw [if_neg hc1] at h
      refine px_blk (i' := 21) (L' := [some (.ref 13), some (.int u1), some (.int u2), some (.int u3), some (.int m4), none, none]) (S' := [.int ((4 : Int32) + ((2 : Int32) * m4)), .int u1, .ref 8]) (w' := px_w K s t) (q := []) 8 hM rfl trivial ?_
      rcases px_bi_some h with ⟨v5, s2, t3, hk4, h⟩ | ⟨x6, s2, t3, hk4, h⟩
      · refine px_E_call hM rfl rfl rfl rfl (px_E_mono (by decide) (e_D_at_8 K N u1 ((4 : Int32) + ((2 : Int32) * m4)) s t _ hk4)) ?_
        refine px_blk (i' := 31) (L' := [some (.ref 13), some (.int u1), some (.int u2), some (.int u3), some (.int m4), some (.int v5), none]) (S' := [.int ((5 : Int32) + ((2 : Int32) * m4)), .int u1, .ref 8]) (w' := px_w K s2 t3) (q := []) 9 hM rfl trivial ?_
        rcases px_bi_some h with ⟨v10, s7, t8, hk9, h⟩ | ⟨x11, s7, t8, hk9, h⟩
        · refine px_E_call hM rfl rfl rfl rfl (px_E_mono (by decide) (e_D_at_8 K N u1 ((5 : Int32) + ((2 : Int32) * m4)) s2 t3 _ hk9)) ?_
          refine px_blkif (c := v5 < 0) (t := 51) (e := 35) (L' := [some (.ref 13), some (.int u1), some (.int u2), some (.int u3), some (.int m4), some (.int v5), some (.int v10)]) (S' := []) (w' := px_w K s7 t8) (q := []) 3 hM rfl trivial (fun hc12 => ?_) (fun hc12 => ?_)
          · rw [if_pos hc12] at h
            refine px_blk (i' := 10) (L' := [some (.ref 13), some (.int u1), some (.int u2), some (.int u3), some (.int (m4 + (1 : Int32))), some (.int v5), some (.int v10)]) (S' := []) (w' := px_w K s7 t8) (q := []) 2 hM rfl trivial ?_
            exact px_E_le (px_leC_L _ _ (by simp [px_leC, px_le1, Value.category])) (ih (m4 + (1 : Int32)) s7 t8 z h o w2 ha)
          · rw [if_neg hc12] at h
            refine px_blkif (c := (s7.1 20) ≤ v5) (t := 51) (e := 40) (L' := [some (.ref 13), some (.int u1), some (.int u2), some (.int u3), some (.int m4), some (.int v5), some (.int v10)]) (S' := []) (w' := px_w K s7 t8) (q := []) 5 hM rfl trivial (fun hc13 => ?_) (fun hc13 => ?_)
            · rw [if_pos hc13] at h
              refine px_blk (i' := 10) (L' := [some (.ref 13), some (.int u1), some (.int u2), some (.int u3), some (.int (m4 + (1 : Int32))), some (.int v5), some (.int v10)]) (S' := []) (w' := px_w K s7 t8) (q := []) 2 hM rfl trivial ?_
              exact px_E_le (px_leC_L _ _ (by simp [px_leC, px_le1, Value.category])) (ih (m4 + (1 : Int32)) s7 t8 z h o w2 ha)
            · rw [if_neg hc13] at h
              refine px_blkif (c := v10 < 0) (t := 51) (e := 42) (L' := [some (.ref 13), some (.int u1), some (.int u2), some (.int u3), some (.int m4), some (.int v5), some (.int v10)]) (S' := []) (w' := px_w K s7 t8) (q := []) 2 hM rfl trivial (fun hc14 => ?_) (fun hc14 => ?_)
              · rw [if_pos hc14] at h
                refine px_blk (i' := 10) (L' := [some (.ref 13), some (.int u1), some (.int u2), some (.int u3), some (.int (m4 + (1 : Int32))), some (.int v5), some (.int v10)]) (S' := []) (w' := px_w K s7 t8) (q := []) 2 hM rfl trivial ?_
                exact px_E_le (px_leC_L _ _ (by simp [px_leC, px_le1, Value.category])) (ih (m4 + (1 : Int32)) s7 t8 z h o w2 ha)
              · rw [if_neg hc14] at h
                refine px_blkif (c := (106 : Int32) ≤ v10) (t := 51) (e := 45) (L' := [some (.ref 13), some (.int u1), some (.int u2), some (.int u3), some (.int m4), some (.int v5), some (.int v10)]) (S' := []) (w' := px_w K s7 t8) (q := []) 3 hM rfl trivial (fun hc15 => ?_) (fun hc15 => ?_)
                · rw [if_pos hc15] at h
                  refine px_blk (i' := 10) (L' := [some (.ref 13), some (.int u1), some (.int u2), some (.int u3), some (.int (m4 + (1 : Int32))), some (.int v5), some (.int v10)]) (S' := []) (w' := px_w K s7 t8) (q := []) 2 hM rfl trivial ?_
                  exact px_E_le (px_leC_L _ _ (by simp [px_leC, px_le1, Value.category])) (ih (m4 + (1 : Int32)) s7 t8 z h o w2 ha)
                · rw [if_neg hc15] at h
                  refine px_blk (i' := 50) (L' := [some (.ref 13), some (.int u1), some (.int u2), some (.int u3), some (.int m4), some (.int v5), some (.int v10)]) (S' := [.int u2, .int v10, .int v5, .ref 14]) (w' := px_w K s7 t8) (q := []) 5 hM rfl trivial ?_
                  rcases px_bv_some h with ⟨s16, t17, hk18, h⟩ | ⟨x20, s16, t17, hk18, h⟩
                  · refine px_E_call hM rfl rfl rfl rfl (px_E_mono (by decide) (e_S_setDirty_14 K N v5 v10 u2 s7 t8 _ hk18)) ?_
                    refine px_blk (i' := 10) (L' := [some (.ref 13), some (.int u1), some (.int u2), some (.int u3), some (.int (m4 + (1 : Int32))), some (.int v5), some (.int v10)]) (S' := []) (w' := px_w K s16 t17) (q := []) 2 hM rfl trivial ?_
                    exact px_E_le (px_leC_L _ _ (by simp [px_leC, px_le1, Value.category])) (ih (m4 + (1 : Int32)) s16 t17 z h o w2 ha)
                  · cases h
        · cases h
      · cases h
noncomputable def f_V_takeRecord_13 (K : px_K) (N : Nat) (a0 : Int32) (a1 : Int32) (s : px_S) (t : px_W) : Option px_Res :=
  (px_bi (f_D_at_8 K N a0 (3 : Int32) s t) (fun v4 s1 t2 => (px_bi (f_Math_min K N (6 : Int32) v4 s1 t2) (fun v9 s6 t7 => (px_lp (l_V_takeRecord_13_10 K N N a0 a1 v9 (0 : Int32) s6 t7) (fun i11 vs12 s13 t14 => (if i11 = 53 then (px_v0 vs12 (some (.inl none, s13, t14))) else none)) (fun z16 => some z16))) (fun x10 s6 t7 => none))) (fun x5 s1 t2 => none))
set_option maxRecDepth 100000 in
theorem e_V_takeRecord_13 (K : px_K) (N : Nat) (a0 : Int32) (a1 : Int32) (s : px_S) (t : px_W) (r : px_Res) (h : f_V_takeRecord_13 K N a0 a1 s t = some r) : px_E px_ET px_P 3 198 0 (px_ent 7 [.ref 13, .int a0, .int a1]) [] (px_w K s t) r.1 (px_w K r.2.1 r.2.2) := by
  have hM : px_P[198]? = some pm_V_takeRecord := rfl
  unfold f_V_takeRecord_13 at h
  refine px_blk (i' := 5) (L' := [some (.ref 13), some (.int a0), some (.int a1), none, none, none, none]) (S' := [.int (3 : Int32), .int a0, .ref 8, .int (6 : Int32)]) (w' := px_w K s t) (q := []) 5 hM rfl trivial ?_
  rcases px_bi_some h with ⟨v4, s1, t2, hk3, h⟩ | ⟨x5, s1, t2, hk3, h⟩
  · refine px_E_call hM rfl rfl rfl rfl (px_E_mono (by decide) (e_D_at_8 K N a0 (3 : Int32) s t _ hk3)) ?_
    rcases px_bi_some h with ⟨v9, s6, t7, hk8, h⟩ | ⟨x10, s6, t7, hk8, h⟩
    · refine px_E_call hM rfl rfl rfl rfl (px_E_mono (by decide) (e_Math_min K N (6 : Int32) v4 s1 t2 _ hk8)) ?_
      refine px_blk (i' := 10) (L' := [some (.ref 13), some (.int a0), some (.int a1), some (.int v9), some (.int (0 : Int32)), none, none]) (S' := []) (w' := px_w K s6 t7) (q := []) 3 hM rfl trivial ?_
      rcases px_lp_some h with ⟨i11, vs12, s13, t14, hl15, h⟩ | ⟨z16, hl15, h⟩
      · by_cases hi17 : i11 = 53
        · subst hi17
          rw [if_pos rfl] at h
          have h9 := px_v0_some h
          clear h
          obtain ⟨rfl, h⟩ := h9
          refine e_l_V_takeRecord_13_10 K N a0 a1 v9 N (0 : Int32) s6 t7 _ hl15 _ _ ?_
          show px_E px_ET px_P 3 198 53 [none, none, none, none, none, none, none] [] (px_w K s13 t14) _ _
          cases h
          exact px_E_ret hM rfl rfl rfl trivial
        · rw [if_neg hi17] at h
          cases h
      · cases h
        exact e_l_V_takeRecord_13_10 K N a0 a1 v9 N (0 : Int32) s6 t7 _ hl15 _ _ ⟨rfl, rfl⟩
    · cases h
  · cases h
noncomputable def l_V_openFlash_13_23 (K : px_K) (N : Nat) (n : Nat) (m1 : Int32) (s : px_S) (t : px_W) : Option px_LO := match n with
  | 0 => none
  | n + 1 => (if (24 : Int32) ≤ m1 then (some (.inl (71, [], s, t))) else (px_let ((((s.1 13) * (25 : Int32)) + (1 : Int32)) + m1) (fun v2 => (px_bi (f_D_at_8 K N v2 (1 : Int32) s t) (fun v7 s4 t5 => (px_bi (f_D_at_8 K N v2 (0 : Int32) s4 t5) (fun v12 s9 t10 => (if ¬ v12 = (s9.1 14) then (l_V_openFlash_13_23 K N n (m1 + (1 : Int32)) s9 t10) else (px_bi (f_V_landed_13 K N s9 t10) (fun v18 s15 t16 => (if v7 ≤ v18 then (l_V_openFlash_13_23 K N n (m1 + (1 : Int32)) s15 t16) else (px_bi (f_V_hasLast_13 K N v7 s15 t16) (fun v24 s21 t22 => (if v24 = 0 then (l_V_openFlash_13_23 K N n (m1 + (1 : Int32)) s21 t22) else (px_bv (f_V_takeRecord_13 K N v2 v7 s21 t22) (fun s27 t28 => (px_bi (f_Math_max K N (s27.1 16) (v7 + (1 : Int32)) s27 t28) (fun v35 s32 t33 => (px_let (sR s32 16 v35) (fun s37 => (l_V_openFlash_13_23 K N n (m1 + (1 : Int32)) s37 t33)))) (fun x36 s32 t33 => none))) (fun x31 s27 t28 => none)))) (fun x25 s21 t22 => none)))) (fun x19 s15 t16 => none)))) (fun x13 s9 t10 => none))) (fun x8 s4 t5 => none)))))
def a_l_V_openFlash_13_23 (K : px_K) (z : px_LO) (o : Option Value ⊕ Nat) (w2 : px_W) : Prop := match z with
  | .inr (o', s', t') => o = o' ∧ w2 = px_w K s' t'
  | .inl (71, [], s', t') => px_E px_ET px_P 11 195 71 [some (.ref 13), none, none, none] [] (px_w K s' t') o w2
  | _ => False
set_option maxRecDepth 100000 in
theorem e_l_V_openFlash_13_23 (K : px_K) (N : Nat) : ∀ (n : Nat) (m1 : Int32) (s : px_S) (t : px_W) (z : px_LO), l_V_openFlash_13_23 K N n m1 s t = some z → ∀ (o : Option Value ⊕ Nat) (w2 : px_W), a_l_V_openFlash_13_23 K z o w2 → px_E px_ET px_P 11 195 23 [some (.ref 13), some (.int m1), none, none] [] (px_w K s t) o w2 := by
  have hM : px_P[195]? = some pm_V_openFlash := rfl
  intro n
  induction n with
  | zero => intro m1 s t z h; cases h
  | succ n ih =>
    intro m1 s t z h o w2 ha
    unfold l_V_openFlash_13_23 at h
    refine px_blkif (c := (24 : Int32) ≤ m1) (t := 71) (e := 26) (L' := [some (.ref 13), some (.int m1), none, none]) (S' := []) (w' := px_w K s t) (q := []) 3 hM rfl trivial (fun hc1 => ?_) (fun hc1 => ?_)
    · rw [if_pos hc1] at h
      cases h
      exact px_E_le (px_leC_L _ _ (by simp [px_leC, px_le1, Value.category])) ha
    · rw [if_neg hc1] at h
      refine px_blk (i' := 35) (L' := [some (.ref 13), some (.int m1), some (.int ((((s.1 13) * (25 : Int32)) + (1 : Int32)) + m1)), none]) (S' := []) (w' := px_w K s t) (q := []) 9 hM rfl trivial ?_
      obtain ⟨v2, hv3, h⟩ := px_let_some h
      rw [← hv3]
      refine px_blk (i' := 39) (L' := [some (.ref 13), some (.int m1), some (.int v2), none]) (S' := [.int (1 : Int32), .int v2, .ref 8]) (w' := px_w K s t) (q := []) 4 hM rfl trivial ?_
      rcases px_bi_some h with ⟨v7, s4, t5, hk6, h⟩ | ⟨x8, s4, t5, hk6, h⟩
      · refine px_E_call hM rfl rfl rfl rfl (px_E_mono (by decide) (e_D_at_8 K N v2 (1 : Int32) s t _ hk6)) ?_
        refine px_blk (i' := 45) (L' := [some (.ref 13), some (.int m1), some (.int v2), some (.int v7)]) (S' := [.int (0 : Int32), .int v2, .ref 8]) (w' := px_w K s4 t5) (q := []) 5 hM rfl trivial ?_
        rcases px_bi_some h with ⟨v12, s9, t10, hk11, h⟩ | ⟨x13, s9, t10, hk11, h⟩
        · refine px_E_call hM rfl rfl rfl rfl (px_E_mono (by decide) (e_D_at_8 K N v2 (0 : Int32) s4 t5 _ hk11)) ?_
          refine px_blkif (c := ¬ v12 = (s9.1 14)) (t := 69) (e := 49) (L' := [some (.ref 13), some (.int m1), some (.int v2), some (.int v7)]) (S' := []) (w' := px_w K s9 t10) (q := []) 3 hM rfl trivial (fun hc14 => ?_) (fun hc14 => ?_)
          · rw [if_pos hc14] at h
            refine px_blk (i' := 23) (L' := [some (.ref 13), some (.int (m1 + (1 : Int32))), some (.int v2), some (.int v7)]) (S' := []) (w' := px_w K s9 t10) (q := []) 2 hM rfl trivial ?_
            exact px_E_le (px_leC_L _ _ (by simp [px_leC, px_le1, Value.category])) (ih (m1 + (1 : Int32)) s9 t10 z h o w2 ha)
          · rw [if_neg hc14] at h
            refine px_blk (i' := 51) (L' := [some (.ref 13), some (.int m1), some (.int v2), some (.int v7)]) (S' := [.ref 13, .int v7]) (w' := px_w K s9 t10) (q := []) 2 hM rfl trivial ?_
            rcases px_bi_some h with ⟨v18, s15, t16, hk17, h⟩ | ⟨x19, s15, t16, hk17, h⟩
            · refine px_E_call hM rfl rfl rfl rfl (px_E_mono (by decide) (e_V_landed_13 K N s9 t10 _ hk17)) ?_
              refine px_blkif (c := v7 ≤ v18) (t := 69) (e := 53) (L' := [some (.ref 13), some (.int m1), some (.int v2), some (.int v7)]) (S' := []) (w' := px_w K s15 t16) (q := []) 1 hM rfl trivial (fun hc20 => ?_) (fun hc20 => ?_)
              · rw [if_pos hc20] at h
                refine px_blk (i' := 23) (L' := [some (.ref 13), some (.int (m1 + (1 : Int32))), some (.int v2), some (.int v7)]) (S' := []) (w' := px_w K s15 t16) (q := []) 2 hM rfl trivial ?_
                exact px_E_le (px_leC_L _ _ (by simp [px_leC, px_le1, Value.category])) (ih (m1 + (1 : Int32)) s15 t16 z h o w2 ha)
              · rw [if_neg hc20] at h
                refine px_blk (i' := 55) (L' := [some (.ref 13), some (.int m1), some (.int v2), some (.int v7)]) (S' := [.int v7, .ref 13]) (w' := px_w K s15 t16) (q := []) 2 hM rfl trivial ?_
                rcases px_bi_some h with ⟨v24, s21, t22, hk23, h⟩ | ⟨x25, s21, t22, hk23, h⟩
                · refine px_E_call hM rfl rfl rfl rfl (px_E_mono (by decide) (e_V_hasLast_13 K N v7 s15 t16 _ hk23)) ?_
                  refine px_blkif (c := v24 = 0) (t := 69) (e := 57) (L' := [some (.ref 13), some (.int m1), some (.int v2), some (.int v7)]) (S' := []) (w' := px_w K s21 t22) (q := []) 1 hM rfl trivial (fun hc26 => ?_) (fun hc26 => ?_)
                  · rw [if_pos hc26] at h
                    refine px_blk (i' := 23) (L' := [some (.ref 13), some (.int (m1 + (1 : Int32))), some (.int v2), some (.int v7)]) (S' := []) (w' := px_w K s21 t22) (q := []) 2 hM rfl trivial ?_
                    exact px_E_le (px_leC_L _ _ (by simp [px_leC, px_le1, Value.category])) (ih (m1 + (1 : Int32)) s21 t22 z h o w2 ha)
                  · rw [if_neg hc26] at h
                    refine px_blk (i' := 60) (L' := [some (.ref 13), some (.int m1), some (.int v2), some (.int v7)]) (S' := [.int v7, .int v2, .ref 13]) (w' := px_w K s21 t22) (q := []) 3 hM rfl trivial ?_
                    rcases px_bv_some h with ⟨s27, t28, hk29, h⟩ | ⟨x31, s27, t28, hk29, h⟩
                    · refine px_E_call hM rfl rfl rfl rfl (px_E_mono (by decide) (e_V_takeRecord_13 K N v2 v7 s21 t22 _ hk29)) ?_
                      refine px_blk (i' := 67) (L' := [some (.ref 13), some (.int m1), some (.int v2), some (.int v7)]) (S' := [.int (v7 + (1 : Int32)), .int (s27.1 16), .ref 13]) (w' := px_w K s27 t28) (q := []) 6 hM rfl trivial ?_
                      rcases px_bi_some h with ⟨v35, s32, t33, hk34, h⟩ | ⟨x36, s32, t33, hk34, h⟩
                      · refine px_E_call hM rfl rfl rfl rfl (px_E_mono (by decide) (e_Math_max K N (s27.1 16) (v7 + (1 : Int32)) s27 t28 _ hk34)) ?_
                        refine px_blk (i' := 69) (L' := [some (.ref 13), some (.int m1), some (.int v2), some (.int v7)]) (S' := []) (w' := px_w K (sR s32 16 v35) t33) (q := []) 1 hM rfl trivial ?_
                        obtain ⟨s37, hs38, h⟩ := px_let_some h
                        rw [← hs38]
                        refine px_blk (i' := 23) (L' := [some (.ref 13), some (.int (m1 + (1 : Int32))), some (.int v2), some (.int v7)]) (S' := []) (w' := px_w K s37 t33) (q := []) 2 hM rfl trivial ?_
                        exact px_E_le (px_leC_L _ _ (by simp [px_leC, px_le1, Value.category])) (ih (m1 + (1 : Int32)) s37 t33 z h o w2 ha)
                      · cases h
                    · cases h
                · cases h
            · cases h
        · cases h
      · cases h
noncomputable def f_V_openFlash_13 (K : px_K) (N : Nat) (s : px_S) (t : px_W) : Option px_Res :=
  (px_let (sR s 12 (1 : Int32)) (fun s1 => (px_bi (f_V_goodHalf_13 K N s1 t) (fun v6 s3 t4 => (px_bi (f_Math_max K N (0 : Int32) v6 s3 t4) (fun v11 s8 t9 => (px_let (sR s8 13 v11) (fun s13 => (px_bi (f_D_at_8 K N ((s13.1 13) * (25 : Int32)) (0 : Int32) s13 t9) (fun v18 s15 t16 => (px_let (sR s15 14 v18) (fun s20 => (px_bv (f_V_startSlots_13 K N s20 t16) (fun s22 t23 => (px_lp (l_V_openFlash_13_23 K N N (0 : Int32) s22 t23) (fun i27 vs28 s29 t30 => (if i27 = 71 then (px_v0 vs28 (px_bv (f_V_changeHalves_13 K N s29 t30) (fun s34 t35 => (some (.inl none, s34, t35))) (fun x38 s34 t35 => (some (.inr x38, s34, t35))))) else none)) (fun z32 => some z32))) (fun x26 s22 t23 => none))))) (fun x19 s15 t16 => none))))) (fun x12 s8 t9 => none))) (fun x7 s3 t4 => none))))
set_option maxRecDepth 100000 in
theorem e_V_openFlash_13 (K : px_K) (N : Nat) (s : px_S) (t : px_W) (r : px_Res) (h : f_V_openFlash_13 K N s t = some r) : px_E px_ET px_P 11 195 0 (px_ent 4 [.ref 13]) [] (px_w K s t) r.1 (px_w K r.2.1 r.2.2) := by
  have hM : px_P[195]? = some pm_V_openFlash := rfl
  unfold f_V_openFlash_13 at h
  refine px_blk (i' := 3) (L' := [some (.ref 13), none, none, none]) (S' := []) (w' := px_w K (sR s 12 (1 : Int32)) t) (q := [(1 : Int32) = 0 ∨ (1 : Int32) = 1]) 3 hM rfl (show (1 : Int32) = 0 ∨ (1 : Int32) = 1 from Or.inr rfl) ?_
  obtain ⟨s1, hs2, h⟩ := px_let_some h
  rw [← hs2]
  refine px_blk (i' := 6) (L' := [some (.ref 13), none, none, none]) (S' := [.ref 13, .int (0 : Int32), .ref 13]) (w' := px_w K s1 t) (q := []) 3 hM rfl trivial ?_
  rcases px_bi_some h with ⟨v6, s3, t4, hk5, h⟩ | ⟨x7, s3, t4, hk5, h⟩
  · refine px_E_call hM rfl rfl rfl rfl (px_E_mono (by decide) (e_V_goodHalf_13 K N s1 t _ hk5)) ?_
    rcases px_bi_some h with ⟨v11, s8, t9, hk10, h⟩ | ⟨x12, s8, t9, hk10, h⟩
    · refine px_E_call hM rfl rfl rfl rfl (px_E_mono (by decide) (e_Math_max K N (0 : Int32) v6 s3 t4 _ hk10)) ?_
      refine px_blk (i' := 9) (L' := [some (.ref 13), none, none, none]) (S' := []) (w' := px_w K (sR s8 13 v11) t9) (q := []) 1 hM rfl trivial ?_
      obtain ⟨s13, hs14, h⟩ := px_let_some h
      rw [← hs14]
      refine px_blk (i' := 17) (L' := [some (.ref 13), none, none, none]) (S' := [.int (0 : Int32), .int ((s13.1 13) * (25 : Int32)), .ref 8, .ref 13]) (w' := px_w K s13 t9) (q := []) 8 hM rfl trivial ?_
      rcases px_bi_some h with ⟨v18, s15, t16, hk17, h⟩ | ⟨x19, s15, t16, hk17, h⟩
      · refine px_E_call hM rfl rfl rfl rfl (px_E_mono (by decide) (e_D_at_8 K N ((s13.1 13) * (25 : Int32)) (0 : Int32) s13 t9 _ hk17)) ?_
        refine px_blk (i' := 19) (L' := [some (.ref 13), none, none, none]) (S' := []) (w' := px_w K (sR s15 14 v18) t16) (q := []) 1 hM rfl trivial ?_
        obtain ⟨s20, hs21, h⟩ := px_let_some h
        rw [← hs21]
        refine px_blk (i' := 20) (L' := [some (.ref 13), none, none, none]) (S' := [.ref 13]) (w' := px_w K s20 t16) (q := []) 1 hM rfl trivial ?_
        rcases px_bv_some h with ⟨s22, t23, hk24, h⟩ | ⟨x26, s22, t23, hk24, h⟩
        · refine px_E_call hM rfl rfl rfl rfl (px_E_mono (by decide) (e_V_startSlots_13 K N s20 t16 _ hk24)) ?_
          refine px_blk (i' := 23) (L' := [some (.ref 13), some (.int (0 : Int32)), none, none]) (S' := []) (w' := px_w K s22 t23) (q := []) 2 hM rfl trivial ?_
          rcases px_lp_some h with ⟨i27, vs28, s29, t30, hl31, h⟩ | ⟨z32, hl31, h⟩
          · by_cases hi33 : i27 = 71
            · subst hi33
              rw [if_pos rfl] at h
              have h9 := px_v0_some h
              clear h
              obtain ⟨rfl, h⟩ := h9
              refine e_l_V_openFlash_13_23 K N N (0 : Int32) s22 t23 _ hl31 _ _ ?_
              show px_E px_ET px_P 11 195 71 [some (.ref 13), none, none, none] [] (px_w K s29 t30) _ _
              refine px_blk (i' := 72) (L' := [some (.ref 13), none, none, none]) (S' := [.ref 13]) (w' := px_w K s29 t30) (q := []) 1 hM rfl trivial ?_
              rcases px_bv_some h with ⟨s34, t35, hk36, h⟩ | ⟨x38, s34, t35, hk36, h⟩
              · refine px_E_call hM rfl rfl rfl rfl (px_E_mono (by decide) (e_V_changeHalves_13 K N s29 t30 _ hk36)) ?_
                cases h
                exact px_E_ret hM rfl rfl rfl trivial
              · cases h
                exact px_E_callT hM rfl rfl rfl rfl (px_E_mono (by decide) (e_V_changeHalves_13 K N s29 t30 _ hk36)) rfl
            · rw [if_neg hi33] at h
              cases h
          · cases h
            exact e_l_V_openFlash_13_23 K N N (0 : Int32) s22 t23 _ hl31 _ _ ⟨rfl, rfl⟩
        · cases h
      · cases h
    · cases h
  · cases h
noncomputable def f_E_mount_1 (K : px_K) (N : Nat) (a0 : Int32) (a1 : Int32) (a2 : Int64) (s : px_S) (t : px_W) : Option px_Res :=
  (if ¬ (s.1 0) = 0 then (some (.inl (some (.int (-1 : Int32))), s, t)) else (if a0 = 0 then (px_bv (f_P_limitTo_2 K N a1 a2 s t) (fun s3 t4 => (px_bv (f_V_finishLanding_13 K N s3 t4) (fun s8 t9 => (if a0 = 0 then (px_bv (f_V_openDisc_13 K N s8 t9) (fun s14 t15 => (px_bv (f_T_load_22 K N s14 t15) (fun s19 t20 => (px_let (sR s19 0 (1 : Int32)) (fun s24 => (px_bi (f_V_greatestClosed_13 K N s24 t20) (fun v29 s26 t27 => (some (.inl (some (.int v29)), s26, t27))) (fun x30 s26 t27 => none))))) (fun x23 s19 t20 => (px_gd (px_isx t20 x23 7) (px_bi (f_E_goDown_1 K N (s19.2.1 2) s19 t20) (fun v34 s31 t32 => (some (.inl (some (.int v34)), s31, t32))) (fun x35 s31 t32 => none)))))) (fun x18 s14 t15 => (px_gd (px_isx t15 x18 7) (px_bi (f_E_goDown_1 K N (s14.2.1 2) s14 t15) (fun v40 s37 t38 => (some (.inl (some (.int v40)), s37, t38))) (fun x41 s37 t38 => none))))) else (px_bv (f_V_openFlash_13 K N s8 t9) (fun s43 t44 => (px_bv (f_T_load_22 K N s43 t44) (fun s48 t49 => (px_let (sR s48 0 (1 : Int32)) (fun s53 => (px_bi (f_V_greatestClosed_13 K N s53 t49) (fun v58 s55 t56 => (some (.inl (some (.int v58)), s55, t56))) (fun x59 s55 t56 => none))))) (fun x52 s48 t49 => (px_gd (px_isx t49 x52 7) (px_bi (f_E_goDown_1 K N (s48.2.1 2) s48 t49) (fun v63 s60 t61 => (some (.inl (some (.int v63)), s60, t61))) (fun x64 s60 t61 => none)))))) (fun x47 s43 t44 => (px_gd (px_isx t44 x47 7) (px_bi (f_E_goDown_1 K N (s43.2.1 2) s43 t44) (fun v69 s66 t67 => (some (.inl (some (.int v69)), s66, t67))) (fun x70 s66 t67 => none))))))) (fun x12 s8 t9 => (px_gd (px_isx t9 x12 7) (px_bi (f_E_goDown_1 K N (s8.2.1 2) s8 t9) (fun v75 s72 t73 => (some (.inl (some (.int v75)), s72, t73))) (fun x76 s72 t73 => none)))))) (fun x7 s3 t4 => none)) else (px_bi (f_V_goodHalf_13 K N s t) (fun v81 s78 t79 => (if 0 ≤ v81 then (px_bv (f_P_limitTo_2 K N a1 a2 s78 t79) (fun s84 t85 => (px_bv (f_V_finishLanding_13 K N s84 t85) (fun s89 t90 => (if a0 = 0 then (px_bv (f_V_openDisc_13 K N s89 t90) (fun s95 t96 => (px_bv (f_T_load_22 K N s95 t96) (fun s100 t101 => (px_let (sR s100 0 (1 : Int32)) (fun s105 => (px_bi (f_V_greatestClosed_13 K N s105 t101) (fun v110 s107 t108 => (some (.inl (some (.int v110)), s107, t108))) (fun x111 s107 t108 => none))))) (fun x104 s100 t101 => (px_gd (px_isx t101 x104 7) (px_bi (f_E_goDown_1 K N (s100.2.1 2) s100 t101) (fun v115 s112 t113 => (some (.inl (some (.int v115)), s112, t113))) (fun x116 s112 t113 => none)))))) (fun x99 s95 t96 => (px_gd (px_isx t96 x99 7) (px_bi (f_E_goDown_1 K N (s95.2.1 2) s95 t96) (fun v121 s118 t119 => (some (.inl (some (.int v121)), s118, t119))) (fun x122 s118 t119 => none))))) else (px_bv (f_V_openFlash_13 K N s89 t90) (fun s124 t125 => (px_bv (f_T_load_22 K N s124 t125) (fun s129 t130 => (px_let (sR s129 0 (1 : Int32)) (fun s134 => (px_bi (f_V_greatestClosed_13 K N s134 t130) (fun v139 s136 t137 => (some (.inl (some (.int v139)), s136, t137))) (fun x140 s136 t137 => none))))) (fun x133 s129 t130 => (px_gd (px_isx t130 x133 7) (px_bi (f_E_goDown_1 K N (s129.2.1 2) s129 t130) (fun v144 s141 t142 => (some (.inl (some (.int v144)), s141, t142))) (fun x145 s141 t142 => none)))))) (fun x128 s124 t125 => (px_gd (px_isx t125 x128 7) (px_bi (f_E_goDown_1 K N (s124.2.1 2) s124 t125) (fun v150 s147 t148 => (some (.inl (some (.int v150)), s147, t148))) (fun x151 s147 t148 => none))))))) (fun x93 s89 t90 => (px_gd (px_isx t90 x93 7) (px_bi (f_E_goDown_1 K N (s89.2.1 2) s89 t90) (fun v156 s153 t154 => (some (.inl (some (.int v156)), s153, t154))) (fun x157 s153 t154 => none)))))) (fun x88 s84 t85 => none)) else (some (.inl (some (.int (-1 : Int32))), s78, t79)))) (fun x82 s78 t79 => none))))
set_option maxRecDepth 100000 in
theorem e_E_mount_1 (K : px_K) (N : Nat) (a0 : Int32) (a1 : Int32) (a2 : Int64) (s : px_S) (t : px_W) (r : px_Res) (h : f_E_mount_1 K N a0 a1 a2 s t = some r) : px_E px_ET px_P 15 16 0 (px_ent 6 [.ref 1, .int a0, .int a1, .long a2]) [] (px_w K s t) r.1 (px_w K r.2.1 r.2.2) := by
  have hM : px_P[16]? = some pm_E_mount := rfl
  unfold f_E_mount_1 at h
  refine px_blkif (c := ¬ (s.1 0) = 0) (t := 10) (e := 4) (L' := [some (.ref 1), some (.int a0), some (.int a1), some (.long a2), none, none]) (S' := []) (w' := px_w K s t) (q := []) 4 hM rfl trivial (fun hc1 => ?_) (fun hc1 => ?_)
  · rw [if_pos hc1] at h
    refine px_blk (i' := 11) (L' := [some (.ref 1), some (.int a0), some (.int a1), some (.long a2), none, none]) (S' := [.int (-1 : Int32)]) (w' := px_w K s t) (q := []) 1 hM rfl trivial ?_
    cases h
    exact px_E_ret hM rfl rfl rfl trivial
  · rw [if_neg hc1] at h
    refine px_blkif (c := a0 = 0) (t := 12) (e := 6) (L' := [some (.ref 1), some (.int a0), some (.int a1), some (.long a2), none, none]) (S' := []) (w' := px_w K s t) (q := []) 2 hM rfl trivial (fun hc2 => ?_) (fun hc2 => ?_)
    · rw [if_pos hc2] at h
      refine px_blk (i' := 16) (L' := [some (.ref 1), some (.int a0), some (.int a1), some (.long a2), none, none]) (S' := [.long a2, .int a1, .ref 2]) (w' := px_w K s t) (q := []) 4 hM rfl trivial ?_
      rcases px_bv_some h with ⟨s3, t4, hk5, h⟩ | ⟨x7, s3, t4, hk5, h⟩
      · refine px_E_call hM rfl rfl rfl rfl (px_E_mono (by decide) (e_P_limitTo_2 K N a1 a2 s t _ hk5)) ?_
        refine px_blk (i' := 19) (L' := [some (.ref 1), some (.int a0), some (.int a1), some (.long a2), none, none]) (S' := [.ref 13]) (w' := px_w K s3 t4) (q := []) 2 hM rfl trivial ?_
        rcases px_bv_some h with ⟨s8, t9, hk10, h⟩ | ⟨x12, s8, t9, hk10, h⟩
        · refine px_E_call hM rfl rfl rfl rfl (px_E_mono (by decide) (e_V_finishLanding_13 K N s3 t4 _ hk10)) ?_
          refine px_blkif (c := a0 = 0) (t := 26) (e := 22) (L' := [some (.ref 1), some (.int a0), some (.int a1), some (.long a2), none, none]) (S' := []) (w' := px_w K s8 t9) (q := []) 2 hM rfl trivial (fun hc13 => ?_) (fun hc13 => ?_)
          · rw [if_pos hc13] at h
            refine px_blk (i' := 28) (L' := [some (.ref 1), some (.int a0), some (.int a1), some (.long a2), none, none]) (S' := [.ref 13]) (w' := px_w K s8 t9) (q := []) 2 hM rfl trivial ?_
            rcases px_bv_some h with ⟨s14, t15, hk16, h⟩ | ⟨x18, s14, t15, hk16, h⟩
            · refine px_E_call hM rfl rfl rfl rfl (px_E_mono (by decide) (e_V_openDisc_13 K N s8 t9 _ hk16)) ?_
              refine px_blk (i' := 31) (L' := [some (.ref 1), some (.int a0), some (.int a1), some (.long a2), none, none]) (S' := [.ref 22]) (w' := px_w K s14 t15) (q := []) 2 hM rfl trivial ?_
              rcases px_bv_some h with ⟨s19, t20, hk21, h⟩ | ⟨x23, s19, t20, hk21, h⟩
              · refine px_E_call hM rfl rfl rfl rfl (px_E_mono (by decide) (e_T_load_22 K N s14 t15 _ hk21)) ?_
                refine px_blk (i' := 44) (L' := [some (.ref 1), some (.int a0), some (.int a1), some (.long a2), none, none]) (S' := []) (w' := px_w K (sR s19 0 (1 : Int32)) t20) (q := [(1 : Int32) = 0 ∨ (1 : Int32) = 1]) 5 hM rfl (show (1 : Int32) = 0 ∨ (1 : Int32) = 1 from Or.inr rfl) ?_
                obtain ⟨s24, hs25, h⟩ := px_let_some h
                rw [← hs25]
                refine px_blk (i' := 46) (L' := [some (.ref 1), some (.int a0), some (.int a1), some (.long a2), none, none]) (S' := [.ref 13]) (w' := px_w K s24 t20) (q := []) 2 hM rfl trivial ?_
                rcases px_bi_some h with ⟨v29, s26, t27, hk28, h⟩ | ⟨x30, s26, t27, hk28, h⟩
                · refine px_E_call hM rfl rfl rfl rfl (px_E_mono (by decide) (e_V_greatestClosed_13 K N s24 t20 _ hk28)) ?_
                  cases h
                  exact px_E_ret hM rfl rfl rfl trivial
                · cases h
              · obtain ⟨hx36, h⟩ := px_gd_some h
                refine px_E_callC hM rfl rfl rfl rfl (px_E_mono (by decide) (e_T_load_22 K N s14 t15 _ hk21)) (px_hnd_of rfl rfl hx36) ?_
                refine px_blk (i' := 38) (L' := [some (.ref 1), some (.int a0), some (.int a1), some (.long a2), none, some (.ref (x23))]) (S' := [.long (s19.2.1 2), .ref 1]) (w' := px_w K s19 t20) (q := []) 5 hM rfl trivial ?_
                rcases px_bi_some h with ⟨v34, s31, t32, hk33, h⟩ | ⟨x35, s31, t32, hk33, h⟩
                · refine px_E_call hM rfl rfl rfl rfl (px_E_mono (by decide) (e_E_goDown_1 K N (s19.2.1 2) s19 t20 _ hk33)) ?_
                  cases h
                  exact px_E_ret hM rfl rfl rfl trivial
                · cases h
            · obtain ⟨hx42, h⟩ := px_gd_some h
              refine px_E_callC hM rfl rfl rfl rfl (px_E_mono (by decide) (e_V_openDisc_13 K N s8 t9 _ hk16)) (px_hnd_of rfl rfl hx42) ?_
              refine px_blk (i' := 38) (L' := [some (.ref 1), some (.int a0), some (.int a1), some (.long a2), none, some (.ref (x18))]) (S' := [.long (s14.2.1 2), .ref 1]) (w' := px_w K s14 t15) (q := []) 5 hM rfl trivial ?_
              rcases px_bi_some h with ⟨v40, s37, t38, hk39, h⟩ | ⟨x41, s37, t38, hk39, h⟩
              · refine px_E_call hM rfl rfl rfl rfl (px_E_mono (by decide) (e_E_goDown_1 K N (s14.2.1 2) s14 t15 _ hk39)) ?_
                cases h
                exact px_E_ret hM rfl rfl rfl trivial
              · cases h
          · rw [if_neg hc13] at h
            refine px_blk (i' := 24) (L' := [some (.ref 1), some (.int a0), some (.int a1), some (.long a2), none, none]) (S' := [.ref 13]) (w' := px_w K s8 t9) (q := []) 2 hM rfl trivial ?_
            rcases px_bv_some h with ⟨s43, t44, hk45, h⟩ | ⟨x47, s43, t44, hk45, h⟩
            · refine px_E_call hM rfl rfl rfl rfl (px_E_mono (by decide) (e_V_openFlash_13 K N s8 t9 _ hk45)) ?_
              refine px_blk (i' := 31) (L' := [some (.ref 1), some (.int a0), some (.int a1), some (.long a2), none, none]) (S' := [.ref 22]) (w' := px_w K s43 t44) (q := []) 3 hM rfl trivial ?_
              rcases px_bv_some h with ⟨s48, t49, hk50, h⟩ | ⟨x52, s48, t49, hk50, h⟩
              · refine px_E_call hM rfl rfl rfl rfl (px_E_mono (by decide) (e_T_load_22 K N s43 t44 _ hk50)) ?_
                refine px_blk (i' := 44) (L' := [some (.ref 1), some (.int a0), some (.int a1), some (.long a2), none, none]) (S' := []) (w' := px_w K (sR s48 0 (1 : Int32)) t49) (q := [(1 : Int32) = 0 ∨ (1 : Int32) = 1]) 5 hM rfl (show (1 : Int32) = 0 ∨ (1 : Int32) = 1 from Or.inr rfl) ?_
                obtain ⟨s53, hs54, h⟩ := px_let_some h
                rw [← hs54]
                refine px_blk (i' := 46) (L' := [some (.ref 1), some (.int a0), some (.int a1), some (.long a2), none, none]) (S' := [.ref 13]) (w' := px_w K s53 t49) (q := []) 2 hM rfl trivial ?_
                rcases px_bi_some h with ⟨v58, s55, t56, hk57, h⟩ | ⟨x59, s55, t56, hk57, h⟩
                · refine px_E_call hM rfl rfl rfl rfl (px_E_mono (by decide) (e_V_greatestClosed_13 K N s53 t49 _ hk57)) ?_
                  cases h
                  exact px_E_ret hM rfl rfl rfl trivial
                · cases h
              · obtain ⟨hx65, h⟩ := px_gd_some h
                refine px_E_callC hM rfl rfl rfl rfl (px_E_mono (by decide) (e_T_load_22 K N s43 t44 _ hk50)) (px_hnd_of rfl rfl hx65) ?_
                refine px_blk (i' := 38) (L' := [some (.ref 1), some (.int a0), some (.int a1), some (.long a2), none, some (.ref (x52))]) (S' := [.long (s48.2.1 2), .ref 1]) (w' := px_w K s48 t49) (q := []) 5 hM rfl trivial ?_
                rcases px_bi_some h with ⟨v63, s60, t61, hk62, h⟩ | ⟨x64, s60, t61, hk62, h⟩
                · refine px_E_call hM rfl rfl rfl rfl (px_E_mono (by decide) (e_E_goDown_1 K N (s48.2.1 2) s48 t49 _ hk62)) ?_
                  cases h
                  exact px_E_ret hM rfl rfl rfl trivial
                · cases h
            · obtain ⟨hx71, h⟩ := px_gd_some h
              refine px_E_callC hM rfl rfl rfl rfl (px_E_mono (by decide) (e_V_openFlash_13 K N s8 t9 _ hk45)) (px_hnd_of rfl rfl hx71) ?_
              refine px_blk (i' := 38) (L' := [some (.ref 1), some (.int a0), some (.int a1), some (.long a2), none, some (.ref (x47))]) (S' := [.long (s43.2.1 2), .ref 1]) (w' := px_w K s43 t44) (q := []) 5 hM rfl trivial ?_
              rcases px_bi_some h with ⟨v69, s66, t67, hk68, h⟩ | ⟨x70, s66, t67, hk68, h⟩
              · refine px_E_call hM rfl rfl rfl rfl (px_E_mono (by decide) (e_E_goDown_1 K N (s43.2.1 2) s43 t44 _ hk68)) ?_
                cases h
                exact px_E_ret hM rfl rfl rfl trivial
              · cases h
        · obtain ⟨hx77, h⟩ := px_gd_some h
          refine px_E_callC hM rfl rfl rfl rfl (px_E_mono (by decide) (e_V_finishLanding_13 K N s3 t4 _ hk10)) (px_hnd_of rfl rfl hx77) ?_
          refine px_blk (i' := 38) (L' := [some (.ref 1), some (.int a0), some (.int a1), some (.long a2), none, some (.ref (x12))]) (S' := [.long (s8.2.1 2), .ref 1]) (w' := px_w K s8 t9) (q := []) 5 hM rfl trivial ?_
          rcases px_bi_some h with ⟨v75, s72, t73, hk74, h⟩ | ⟨x76, s72, t73, hk74, h⟩
          · refine px_E_call hM rfl rfl rfl rfl (px_E_mono (by decide) (e_E_goDown_1 K N (s8.2.1 2) s8 t9 _ hk74)) ?_
            cases h
            exact px_E_ret hM rfl rfl rfl trivial
          · cases h
      · cases h
    · rw [if_neg hc2] at h
      refine px_blk (i' := 8) (L' := [some (.ref 1), some (.int a0), some (.int a1), some (.long a2), none, none]) (S' := [.ref 13]) (w' := px_w K s t) (q := []) 2 hM rfl trivial ?_
      rcases px_bi_some h with ⟨v81, s78, t79, hk80, h⟩ | ⟨x82, s78, t79, hk80, h⟩
      · refine px_E_call hM rfl rfl rfl rfl (px_E_mono (by decide) (e_V_goodHalf_13 K N s t _ hk80)) ?_
        refine px_blkif (c := 0 ≤ v81) (t := 12) (e := 10) (L' := [some (.ref 1), some (.int a0), some (.int a1), some (.long a2), none, none]) (S' := []) (w' := px_w K s78 t79) (q := []) 1 hM rfl trivial (fun hc83 => ?_) (fun hc83 => ?_)
        · rw [if_pos hc83] at h
          refine px_blk (i' := 16) (L' := [some (.ref 1), some (.int a0), some (.int a1), some (.long a2), none, none]) (S' := [.long a2, .int a1, .ref 2]) (w' := px_w K s78 t79) (q := []) 4 hM rfl trivial ?_
          rcases px_bv_some h with ⟨s84, t85, hk86, h⟩ | ⟨x88, s84, t85, hk86, h⟩
          · refine px_E_call hM rfl rfl rfl rfl (px_E_mono (by decide) (e_P_limitTo_2 K N a1 a2 s78 t79 _ hk86)) ?_
            refine px_blk (i' := 19) (L' := [some (.ref 1), some (.int a0), some (.int a1), some (.long a2), none, none]) (S' := [.ref 13]) (w' := px_w K s84 t85) (q := []) 2 hM rfl trivial ?_
            rcases px_bv_some h with ⟨s89, t90, hk91, h⟩ | ⟨x93, s89, t90, hk91, h⟩
            · refine px_E_call hM rfl rfl rfl rfl (px_E_mono (by decide) (e_V_finishLanding_13 K N s84 t85 _ hk91)) ?_
              refine px_blkif (c := a0 = 0) (t := 26) (e := 22) (L' := [some (.ref 1), some (.int a0), some (.int a1), some (.long a2), none, none]) (S' := []) (w' := px_w K s89 t90) (q := []) 2 hM rfl trivial (fun hc94 => ?_) (fun hc94 => ?_)
              · rw [if_pos hc94] at h
                refine px_blk (i' := 28) (L' := [some (.ref 1), some (.int a0), some (.int a1), some (.long a2), none, none]) (S' := [.ref 13]) (w' := px_w K s89 t90) (q := []) 2 hM rfl trivial ?_
                rcases px_bv_some h with ⟨s95, t96, hk97, h⟩ | ⟨x99, s95, t96, hk97, h⟩
                · refine px_E_call hM rfl rfl rfl rfl (px_E_mono (by decide) (e_V_openDisc_13 K N s89 t90 _ hk97)) ?_
                  refine px_blk (i' := 31) (L' := [some (.ref 1), some (.int a0), some (.int a1), some (.long a2), none, none]) (S' := [.ref 22]) (w' := px_w K s95 t96) (q := []) 2 hM rfl trivial ?_
                  rcases px_bv_some h with ⟨s100, t101, hk102, h⟩ | ⟨x104, s100, t101, hk102, h⟩
                  · refine px_E_call hM rfl rfl rfl rfl (px_E_mono (by decide) (e_T_load_22 K N s95 t96 _ hk102)) ?_
                    refine px_blk (i' := 44) (L' := [some (.ref 1), some (.int a0), some (.int a1), some (.long a2), none, none]) (S' := []) (w' := px_w K (sR s100 0 (1 : Int32)) t101) (q := [(1 : Int32) = 0 ∨ (1 : Int32) = 1]) 5 hM rfl (show (1 : Int32) = 0 ∨ (1 : Int32) = 1 from Or.inr rfl) ?_
                    obtain ⟨s105, hs106, h⟩ := px_let_some h
                    rw [← hs106]
                    refine px_blk (i' := 46) (L' := [some (.ref 1), some (.int a0), some (.int a1), some (.long a2), none, none]) (S' := [.ref 13]) (w' := px_w K s105 t101) (q := []) 2 hM rfl trivial ?_
                    rcases px_bi_some h with ⟨v110, s107, t108, hk109, h⟩ | ⟨x111, s107, t108, hk109, h⟩
                    · refine px_E_call hM rfl rfl rfl rfl (px_E_mono (by decide) (e_V_greatestClosed_13 K N s105 t101 _ hk109)) ?_
                      cases h
                      exact px_E_ret hM rfl rfl rfl trivial
                    · cases h
                  · obtain ⟨hx117, h⟩ := px_gd_some h
                    refine px_E_callC hM rfl rfl rfl rfl (px_E_mono (by decide) (e_T_load_22 K N s95 t96 _ hk102)) (px_hnd_of rfl rfl hx117) ?_
                    refine px_blk (i' := 38) (L' := [some (.ref 1), some (.int a0), some (.int a1), some (.long a2), none, some (.ref (x104))]) (S' := [.long (s100.2.1 2), .ref 1]) (w' := px_w K s100 t101) (q := []) 5 hM rfl trivial ?_
                    rcases px_bi_some h with ⟨v115, s112, t113, hk114, h⟩ | ⟨x116, s112, t113, hk114, h⟩
                    · refine px_E_call hM rfl rfl rfl rfl (px_E_mono (by decide) (e_E_goDown_1 K N (s100.2.1 2) s100 t101 _ hk114)) ?_
                      cases h
                      exact px_E_ret hM rfl rfl rfl trivial
                    · cases h
                · obtain ⟨hx123, h⟩ := px_gd_some h
                  refine px_E_callC hM rfl rfl rfl rfl (px_E_mono (by decide) (e_V_openDisc_13 K N s89 t90 _ hk97)) (px_hnd_of rfl rfl hx123) ?_
                  refine px_blk (i' := 38) (L' := [some (.ref 1), some (.int a0), some (.int a1), some (.long a2), none, some (.ref (x99))]) (S' := [.long (s95.2.1 2), .ref 1]) (w' := px_w K s95 t96) (q := []) 5 hM rfl trivial ?_
                  rcases px_bi_some h with ⟨v121, s118, t119, hk120, h⟩ | ⟨x122, s118, t119, hk120, h⟩
                  · refine px_E_call hM rfl rfl rfl rfl (px_E_mono (by decide) (e_E_goDown_1 K N (s95.2.1 2) s95 t96 _ hk120)) ?_
                    cases h
                    exact px_E_ret hM rfl rfl rfl trivial
                  · cases h
              · rw [if_neg hc94] at h
                refine px_blk (i' := 24) (L' := [some (.ref 1), some (.int a0), some (.int a1), some (.long a2), none, none]) (S' := [.ref 13]) (w' := px_w K s89 t90) (q := []) 2 hM rfl trivial ?_
                rcases px_bv_some h with ⟨s124, t125, hk126, h⟩ | ⟨x128, s124, t125, hk126, h⟩
                · refine px_E_call hM rfl rfl rfl rfl (px_E_mono (by decide) (e_V_openFlash_13 K N s89 t90 _ hk126)) ?_
                  refine px_blk (i' := 31) (L' := [some (.ref 1), some (.int a0), some (.int a1), some (.long a2), none, none]) (S' := [.ref 22]) (w' := px_w K s124 t125) (q := []) 3 hM rfl trivial ?_
                  rcases px_bv_some h with ⟨s129, t130, hk131, h⟩ | ⟨x133, s129, t130, hk131, h⟩
                  · refine px_E_call hM rfl rfl rfl rfl (px_E_mono (by decide) (e_T_load_22 K N s124 t125 _ hk131)) ?_
                    refine px_blk (i' := 44) (L' := [some (.ref 1), some (.int a0), some (.int a1), some (.long a2), none, none]) (S' := []) (w' := px_w K (sR s129 0 (1 : Int32)) t130) (q := [(1 : Int32) = 0 ∨ (1 : Int32) = 1]) 5 hM rfl (show (1 : Int32) = 0 ∨ (1 : Int32) = 1 from Or.inr rfl) ?_
                    obtain ⟨s134, hs135, h⟩ := px_let_some h
                    rw [← hs135]
                    refine px_blk (i' := 46) (L' := [some (.ref 1), some (.int a0), some (.int a1), some (.long a2), none, none]) (S' := [.ref 13]) (w' := px_w K s134 t130) (q := []) 2 hM rfl trivial ?_
                    rcases px_bi_some h with ⟨v139, s136, t137, hk138, h⟩ | ⟨x140, s136, t137, hk138, h⟩
                    · refine px_E_call hM rfl rfl rfl rfl (px_E_mono (by decide) (e_V_greatestClosed_13 K N s134 t130 _ hk138)) ?_
                      cases h
                      exact px_E_ret hM rfl rfl rfl trivial
                    · cases h
                  · obtain ⟨hx146, h⟩ := px_gd_some h
                    refine px_E_callC hM rfl rfl rfl rfl (px_E_mono (by decide) (e_T_load_22 K N s124 t125 _ hk131)) (px_hnd_of rfl rfl hx146) ?_
                    refine px_blk (i' := 38) (L' := [some (.ref 1), some (.int a0), some (.int a1), some (.long a2), none, some (.ref (x133))]) (S' := [.long (s129.2.1 2), .ref 1]) (w' := px_w K s129 t130) (q := []) 5 hM rfl trivial ?_
                    rcases px_bi_some h with ⟨v144, s141, t142, hk143, h⟩ | ⟨x145, s141, t142, hk143, h⟩
                    · refine px_E_call hM rfl rfl rfl rfl (px_E_mono (by decide) (e_E_goDown_1 K N (s129.2.1 2) s129 t130 _ hk143)) ?_
                      cases h
                      exact px_E_ret hM rfl rfl rfl trivial
                    · cases h
                · obtain ⟨hx152, h⟩ := px_gd_some h
                  refine px_E_callC hM rfl rfl rfl rfl (px_E_mono (by decide) (e_V_openFlash_13 K N s89 t90 _ hk126)) (px_hnd_of rfl rfl hx152) ?_
                  refine px_blk (i' := 38) (L' := [some (.ref 1), some (.int a0), some (.int a1), some (.long a2), none, some (.ref (x128))]) (S' := [.long (s124.2.1 2), .ref 1]) (w' := px_w K s124 t125) (q := []) 5 hM rfl trivial ?_
                  rcases px_bi_some h with ⟨v150, s147, t148, hk149, h⟩ | ⟨x151, s147, t148, hk149, h⟩
                  · refine px_E_call hM rfl rfl rfl rfl (px_E_mono (by decide) (e_E_goDown_1 K N (s124.2.1 2) s124 t125 _ hk149)) ?_
                    cases h
                    exact px_E_ret hM rfl rfl rfl trivial
                  · cases h
            · obtain ⟨hx158, h⟩ := px_gd_some h
              refine px_E_callC hM rfl rfl rfl rfl (px_E_mono (by decide) (e_V_finishLanding_13 K N s84 t85 _ hk91)) (px_hnd_of rfl rfl hx158) ?_
              refine px_blk (i' := 38) (L' := [some (.ref 1), some (.int a0), some (.int a1), some (.long a2), none, some (.ref (x93))]) (S' := [.long (s89.2.1 2), .ref 1]) (w' := px_w K s89 t90) (q := []) 5 hM rfl trivial ?_
              rcases px_bi_some h with ⟨v156, s153, t154, hk155, h⟩ | ⟨x157, s153, t154, hk155, h⟩
              · refine px_E_call hM rfl rfl rfl rfl (px_E_mono (by decide) (e_E_goDown_1 K N (s89.2.1 2) s89 t90 _ hk155)) ?_
                cases h
                exact px_E_ret hM rfl rfl rfl trivial
              · cases h
          · cases h
        · rw [if_neg hc83] at h
          refine px_blk (i' := 11) (L' := [some (.ref 1), some (.int a0), some (.int a1), some (.long a2), none, none]) (S' := [.int (-1 : Int32)]) (w' := px_w K s78 t79) (q := []) 1 hM rfl trivial ?_
          cases h
          exact px_E_ret hM rfl rfl rfl trivial
      · cases h
noncomputable def f_V_takeNewFlash_13 (K : px_K) (N : Nat) (s : px_S) (t : px_W) : Option px_Res :=
  (px_bv (f_D_wipe_8 K N s t) (fun s1 t2 => (px_bi (f_D_at_3 K N (0 : Int32) (0 : Int32) s1 t2) (fun v9 s6 t7 => (px_bv (f_V_setRow_13 K N (1 : Int32) (v9 + (1 : Int32)) (0 : Int32) s6 t7) (fun s11 t12 => (px_bv (f_D_put_8_20 K N (0 : Int32) (0 : Int32) s11 t12) (fun s16 t17 => (px_bv (f_D_flush_8 K N s16 t17) (fun s21 t22 => (px_bv (f_V_setRow_13 K N (v9 + (1 : Int32)) (0 : Int32) (0 : Int32) s21 t22) (fun s26 t27 => (px_bv (f_D_put_3_20 K N (0 : Int32) (0 : Int32) s26 t27) (fun s31 t32 => (px_bv (f_D_flush_3 K N s31 t32) (fun s36 t37 => (px_let (sR s36 13 (0 : Int32)) (fun s41 => (px_let (sR s41 14 (1 : Int32)) (fun s43 => (px_let (sR s43 15 (0 : Int32)) (fun s45 => (px_bv (f_V_startSlots_13 K N s45 t37) (fun s47 t48 => (px_let (sR s47 12 (1 : Int32)) (fun s52 => (some (.inl none, s52, t48))))) (fun x51 s47 t48 => none))))))))) (fun x40 s36 t37 => (some (.inr x40, s36, t37))))) (fun x35 s31 t32 => (some (.inr x35, s31, t32))))) (fun x30 s26 t27 => none))) (fun x25 s21 t22 => (some (.inr x25, s21, t22))))) (fun x20 s16 t17 => (some (.inr x20, s16, t17))))) (fun x15 s11 t12 => none))) (fun x10 s6 t7 => none))) (fun x5 s1 t2 => none))
set_option maxRecDepth 100000 in
theorem e_V_takeNewFlash_13 (K : px_K) (N : Nat) (s : px_S) (t : px_W) (r : px_Res) (h : f_V_takeNewFlash_13 K N s t = some r) : px_E px_ET px_P 10 200 0 (px_ent 2 [.ref 13]) [] (px_w K s t) r.1 (px_w K r.2.1 r.2.2) := by
  have hM : px_P[200]? = some pm_V_takeNewFlash := rfl
  unfold f_V_takeNewFlash_13 at h
  refine px_blk (i' := 2) (L' := [some (.ref 13), none]) (S' := [.ref 8]) (w' := px_w K s t) (q := []) 2 hM rfl trivial ?_
  rcases px_bv_some h with ⟨s1, t2, hk3, h⟩ | ⟨x5, s1, t2, hk3, h⟩
  · refine px_E_call hM rfl rfl rfl rfl (px_E_mono (by decide) (e_D_wipe_8 K N s t _ hk3)) ?_
    refine px_blk (i' := 7) (L' := [some (.ref 13), none]) (S' := [.int (0 : Int32), .int (0 : Int32), .ref 3]) (w' := px_w K s1 t2) (q := []) 4 hM rfl trivial ?_
    rcases px_bi_some h with ⟨v9, s6, t7, hk8, h⟩ | ⟨x10, s6, t7, hk8, h⟩
    · refine px_E_call hM rfl rfl rfl rfl (px_E_mono (by decide) (e_D_at_3 K N (0 : Int32) (0 : Int32) s1 t2 _ hk8)) ?_
      refine px_blk (i' := 15) (L' := [some (.ref 13), some (.int (v9 + (1 : Int32)))]) (S' := [.int (0 : Int32), .int (v9 + (1 : Int32)), .int (1 : Int32), .ref 13]) (w' := px_w K s6 t7) (q := []) 7 hM rfl trivial ?_
      rcases px_bv_some h with ⟨s11, t12, hk13, h⟩ | ⟨x15, s11, t12, hk13, h⟩
      · refine px_E_call hM rfl rfl rfl rfl (px_E_mono (by decide) (e_V_setRow_13 K N (1 : Int32) (v9 + (1 : Int32)) (0 : Int32) s6 t7 _ hk13)) ?_
        refine px_blk (i' := 22) (L' := [some (.ref 13), some (.int (v9 + (1 : Int32)))]) (S' := [.int (0 : Int32), .ref 20, .int (0 : Int32), .ref 8]) (w' := px_w K s11 t12) (q := []) 6 hM rfl trivial ?_
        rcases px_bv_some h with ⟨s16, t17, hk18, h⟩ | ⟨x20, s16, t17, hk18, h⟩
        · refine px_E_call hM rfl rfl rfl rfl (px_E_mono (by decide) (e_D_put_8_20 K N (0 : Int32) (0 : Int32) s11 t12 _ hk18)) ?_
          refine px_blk (i' := 25) (L' := [some (.ref 13), some (.int (v9 + (1 : Int32)))]) (S' := [.ref 8]) (w' := px_w K s16 t17) (q := []) 2 hM rfl trivial ?_
          rcases px_bv_some h with ⟨s21, t22, hk23, h⟩ | ⟨x25, s21, t22, hk23, h⟩
          · refine px_E_call hM rfl rfl rfl rfl (px_E_mono (by decide) (e_D_flush_8 K N s16 t17 _ hk23)) ?_
            refine px_blk (i' := 30) (L' := [some (.ref 13), some (.int (v9 + (1 : Int32)))]) (S' := [.int (0 : Int32), .int (0 : Int32), .int (v9 + (1 : Int32)), .ref 13]) (w' := px_w K s21 t22) (q := []) 4 hM rfl trivial ?_
            rcases px_bv_some h with ⟨s26, t27, hk28, h⟩ | ⟨x30, s26, t27, hk28, h⟩
            · refine px_E_call hM rfl rfl rfl rfl (px_E_mono (by decide) (e_V_setRow_13 K N (v9 + (1 : Int32)) (0 : Int32) (0 : Int32) s21 t22 _ hk28)) ?_
              refine px_blk (i' := 37) (L' := [some (.ref 13), some (.int (v9 + (1 : Int32)))]) (S' := [.int (0 : Int32), .ref 20, .int (0 : Int32), .ref 3]) (w' := px_w K s26 t27) (q := []) 6 hM rfl trivial ?_
              rcases px_bv_some h with ⟨s31, t32, hk33, h⟩ | ⟨x35, s31, t32, hk33, h⟩
              · refine px_E_call hM rfl rfl rfl rfl (px_E_mono (by decide) (e_D_put_3_20 K N (0 : Int32) (0 : Int32) s26 t27 _ hk33)) ?_
                refine px_blk (i' := 40) (L' := [some (.ref 13), some (.int (v9 + (1 : Int32)))]) (S' := [.ref 3]) (w' := px_w K s31 t32) (q := []) 2 hM rfl trivial ?_
                rcases px_bv_some h with ⟨s36, t37, hk38, h⟩ | ⟨x40, s36, t37, hk38, h⟩
                · refine px_E_call hM rfl rfl rfl rfl (px_E_mono (by decide) (e_D_flush_3 K N s31 t32 _ hk38)) ?_
                  refine px_blk (i' := 44) (L' := [some (.ref 13), some (.int (v9 + (1 : Int32)))]) (S' := []) (w' := px_w K (sR s36 13 (0 : Int32)) t37) (q := []) 3 hM rfl trivial ?_
                  obtain ⟨s41, hs42, h⟩ := px_let_some h
                  rw [← hs42]
                  refine px_blk (i' := 47) (L' := [some (.ref 13), some (.int (v9 + (1 : Int32)))]) (S' := []) (w' := px_w K (sR s41 14 (1 : Int32)) t37) (q := []) 3 hM rfl trivial ?_
                  obtain ⟨s43, hs44, h⟩ := px_let_some h
                  rw [← hs44]
                  refine px_blk (i' := 50) (L' := [some (.ref 13), some (.int (v9 + (1 : Int32)))]) (S' := []) (w' := px_w K (sR s43 15 (0 : Int32)) t37) (q := []) 3 hM rfl trivial ?_
                  obtain ⟨s45, hs46, h⟩ := px_let_some h
                  rw [← hs46]
                  refine px_blk (i' := 51) (L' := [some (.ref 13), some (.int (v9 + (1 : Int32)))]) (S' := [.ref 13]) (w' := px_w K s45 t37) (q := []) 1 hM rfl trivial ?_
                  rcases px_bv_some h with ⟨s47, t48, hk49, h⟩ | ⟨x51, s47, t48, hk49, h⟩
                  · refine px_E_call hM rfl rfl rfl rfl (px_E_mono (by decide) (e_V_startSlots_13 K N s45 t37 _ hk49)) ?_
                    refine px_blk (i' := 55) (L' := [some (.ref 13), some (.int (v9 + (1 : Int32)))]) (S' := []) (w' := px_w K (sR s47 12 (1 : Int32)) t48) (q := [(1 : Int32) = 0 ∨ (1 : Int32) = 1]) 3 hM rfl (show (1 : Int32) = 0 ∨ (1 : Int32) = 1 from Or.inr rfl) ?_
                    obtain ⟨s52, hs53, h⟩ := px_let_some h
                    rw [← hs53]
                    cases h
                    exact px_E_ret hM rfl rfl rfl trivial
                  · cases h
                · cases h
                  exact px_E_callT hM rfl rfl rfl rfl (px_E_mono (by decide) (e_D_flush_3 K N s31 t32 _ hk38)) rfl
              · cases h
                exact px_E_callT hM rfl rfl rfl rfl (px_E_mono (by decide) (e_D_put_3_20 K N (0 : Int32) (0 : Int32) s26 t27 _ hk33)) rfl
            · cases h
          · cases h
            exact px_E_callT hM rfl rfl rfl rfl (px_E_mono (by decide) (e_D_flush_8 K N s16 t17 _ hk23)) rfl
        · cases h
          exact px_E_callT hM rfl rfl rfl rfl (px_E_mono (by decide) (e_D_put_8_20 K N (0 : Int32) (0 : Int32) s11 t12 _ hk18)) rfl
      · cases h
    · cases h
  · cases h
noncomputable def f_E_attach_1 (K : px_K) (N : Nat) (s : px_S) (t : px_W) : Option px_Res :=
  (if ¬ (s.1 0) = 0 then (if (s.1 12) = 0 then (px_bv (f_V_takeNewFlash_13 K N s t) (fun s3 t4 => (some (.inl (some (.int (0 : Int32))), s3, t4))) (fun x7 s3 t4 => (px_gd (px_isx t4 x7 7) (px_bi (f_E_goDown_1 K N (s3.2.1 2) s3 t4) (fun v11 s8 t9 => (some (.inl (some (.int v11)), s8, t9))) (fun x12 s8 t9 => none))))) else (some (.inl (some (.int (-4 : Int32))), s, t))) else (some (.inl (some (.int (-9 : Int32))), s, t)))
set_option maxRecDepth 100000 in
theorem e_E_attach_1 (K : px_K) (N : Nat) (s : px_S) (t : px_W) (r : px_Res) (h : f_E_attach_1 K N s t = some r) : px_E px_ET px_P 11 17 0 (px_ent 2 [.ref 1]) [] (px_w K s t) r.1 (px_w K r.2.1 r.2.2) := by
  have hM : px_P[17]? = some pm_E_attach := rfl
  unfold f_E_attach_1 at h
  refine px_blkif (c := ¬ (s.1 0) = 0) (t := 6) (e := 4) (L' := [some (.ref 1), none]) (S' := []) (w' := px_w K s t) (q := []) 4 hM rfl trivial (fun hc1 => ?_) (fun hc1 => ?_)
  · rw [if_pos hc1] at h
    refine px_blkif (c := (s.1 12) = 0) (t := 12) (e := 10) (L' := [some (.ref 1), none]) (S' := []) (w' := px_w K s t) (q := []) 4 hM rfl trivial (fun hc2 => ?_) (fun hc2 => ?_)
    · rw [if_pos hc2] at h
      refine px_blk (i' := 14) (L' := [some (.ref 1), none]) (S' := [.ref 13]) (w' := px_w K s t) (q := []) 2 hM rfl trivial ?_
      rcases px_bv_some h with ⟨s3, t4, hk5, h⟩ | ⟨x7, s3, t4, hk5, h⟩
      · refine px_E_call hM rfl rfl rfl rfl (px_E_mono (by decide) (e_V_takeNewFlash_13 K N s t _ hk5)) ?_
        refine px_blk (i' := 16) (L' := [some (.ref 1), none]) (S' := [.int (0 : Int32)]) (w' := px_w K s3 t4) (q := []) 1 hM rfl trivial ?_
        cases h
        exact px_E_ret hM rfl rfl rfl trivial
      · obtain ⟨hx13, h⟩ := px_gd_some h
        refine px_E_callC hM rfl rfl rfl rfl (px_E_mono (by decide) (e_V_takeNewFlash_13 K N s t _ hk5)) (px_hnd_of rfl rfl hx13) ?_
        refine px_blk (i' := 22) (L' := [some (.ref 1), some (.ref (x7))]) (S' := [.long (s3.2.1 2), .ref 1]) (w' := px_w K s3 t4) (q := []) 5 hM rfl trivial ?_
        rcases px_bi_some h with ⟨v11, s8, t9, hk10, h⟩ | ⟨x12, s8, t9, hk10, h⟩
        · refine px_E_call hM rfl rfl rfl rfl (px_E_mono (by decide) (e_E_goDown_1 K N (s3.2.1 2) s3 t4 _ hk10)) ?_
          cases h
          exact px_E_ret hM rfl rfl rfl trivial
        · cases h
    · rw [if_neg hc2] at h
      refine px_blk (i' := 11) (L' := [some (.ref 1), none]) (S' := [.int (-4 : Int32)]) (w' := px_w K s t) (q := []) 1 hM rfl trivial ?_
      cases h
      exact px_E_ret hM rfl rfl rfl trivial
  · rw [if_neg hc1] at h
    refine px_blk (i' := 5) (L' := [some (.ref 1), none]) (S' := [.int (-9 : Int32)]) (w' := px_w K s t) (q := []) 1 hM rfl trivial ?_
    cases h
    exact px_E_ret hM rfl rfl rfl trivial
noncomputable def f_S_tellOf_14 (K : px_K) (N : Nat) (a0 : Int32) (a1 : Int32) (s : px_S) (t : px_W) : Option px_Res :=
  (if a0 < 0 then (some (.inl (some (.int (-1 : Int32))), s, t)) else (if a0 < (s.1 20) then (if a1.toInt = 0 then (px_gd (vp_in a0 (K.2.2 15)) (some (.inl (some (.int ((s.2.2.1 15) a0.toNatClampNeg))), s, t))) else (if a1.toInt = 1 then (px_gd (vp_in a0 (K.2.2 15)) (if ¬ ((s.2.2.1 15) a0.toNatClampNeg) = 0 then (px_gd (vp_in a0 (K.2.2 16)) (some (.inl (some (.int ((s.2.2.1 16) a0.toNatClampNeg))), s, t))) else (some (.inl (some (.int (-1 : Int32))), s, t)))) else (if a1.toInt = 2 then (px_gd (vp_in a0 (K.2.2 17)) (some (.inl (some (.int ((s.2.2.1 17) a0.toNatClampNeg))), s, t))) else (if a1.toInt = 3 then (px_gd (vp_in a0 (K.2.2 18)) (some (.inl (some (.int ((s.2.2.1 18) a0.toNatClampNeg))), s, t))) else (if a1.toInt = 4 then (px_gd ((¬ (s.1 19) = 0) ∧ (vp_in (a0 / (s.1 19)) (K.2.2 19)) ∧ (¬ (s.1 19) = 0)) (some (.inl (some (.int (if ¬ ((s.2.2.1 19) (a0 / (s.1 19)).toNatClampNeg) = (a0 - a0 / (s.1 19) * (s.1 19)) then (0 : Int32) else (1 : Int32)))), s, t))) else (some (.inl (some (.int (-1 : Int32))), s, t))))))) else (some (.inl (some (.int (-1 : Int32))), s, t))))
set_option maxRecDepth 100000 in
theorem e_S_tellOf_14 (K : px_K) (N : Nat) (a0 : Int32) (a1 : Int32) (s : px_S) (t : px_W) (r : px_Res) (h : f_S_tellOf_14 K N a0 a1 s t = some r) : px_E px_ET px_P 1 131 0 (px_ent 3 [.ref 14, .int a0, .int a1]) [] (px_w K s t) r.1 (px_w K r.2.1 r.2.2) := by
  have hM : px_P[131]? = some pm_S_tellOf := rfl
  unfold f_S_tellOf_14 at h
  refine px_blkif (c := a0 < 0) (t := 6) (e := 2) (L' := [some (.ref 14), some (.int a0), some (.int a1)]) (S' := []) (w' := px_w K s t) (q := []) 2 hM rfl trivial (fun hc1 => ?_) (fun hc1 => ?_)
  · rw [if_pos hc1] at h
    refine px_blk (i' := 7) (L' := [some (.ref 14), some (.int a0), some (.int a1)]) (S' := [.int (-1 : Int32)]) (w' := px_w K s t) (q := []) 1 hM rfl trivial ?_
    cases h
    exact px_E_ret hM rfl rfl rfl trivial
  · rw [if_neg hc1] at h
    refine px_blkif (c := a0 < (s.1 20)) (t := 8) (e := 6) (L' := [some (.ref 14), some (.int a0), some (.int a1)]) (S' := []) (w' := px_w K s t) (q := []) 4 hM rfl trivial (fun hc2 => ?_) (fun hc2 => ?_)
    · rw [if_pos hc2] at h
      refine px_blk (i' := 9) (L' := [some (.ref 14), some (.int a0), some (.int a1)]) (S' := [.int a1]) (w' := px_w K s t) (q := []) 1 hM rfl trivial ?_
      by_cases hs3 : a1.toInt = 0
      · rw [if_pos hs3] at h
        refine px_E_step hM rfl rfl (px_tb_at hs3 rfl) trivial ?_
        obtain ⟨hq4, h⟩ := px_gd_some h
        refine px_blk (i' := 14) (L' := [some (.ref 14), some (.int a0), some (.int a1)]) (S' := [.int ((s.2.2.1 15) a0.toNatClampNeg)]) (w' := px_w K s t) (q := [vp_in a0 (K.2.2 15)]) 4 hM rfl (show vp_in a0 (K.2.2 15) from hq4) ?_
        cases h
        exact px_E_ret hM rfl rfl rfl trivial
      · rw [if_neg hs3] at h
        by_cases hs5 : a1.toInt = 1
        · rw [if_pos hs5] at h
          refine px_E_step hM rfl rfl (px_tb_at hs5 rfl) trivial ?_
          obtain ⟨hq6, h⟩ := px_gd_some h
          refine px_blkif (c := ¬ ((s.2.2.1 15) a0.toNatClampNeg) = 0) (t := 22) (e := 20) (L' := [some (.ref 14), some (.int a0), some (.int a1)]) (S' := []) (w' := px_w K s t) (q := [vp_in a0 (K.2.2 15)]) 5 hM rfl (show vp_in a0 (K.2.2 15) from hq6) (fun hc7 => ?_) (fun hc7 => ?_)
          · rw [if_pos hc7] at h
            obtain ⟨hq8, h⟩ := px_gd_some h
            refine px_blk (i' := 26) (L' := [some (.ref 14), some (.int a0), some (.int a1)]) (S' := [.int ((s.2.2.1 16) a0.toNatClampNeg)]) (w' := px_w K s t) (q := [vp_in a0 (K.2.2 16)]) 4 hM rfl (show vp_in a0 (K.2.2 16) from hq8) ?_
            cases h
            exact px_E_ret hM rfl rfl rfl trivial
          · rw [if_neg hc7] at h
            refine px_blk (i' := 26) (L' := [some (.ref 14), some (.int a0), some (.int a1)]) (S' := [.int (-1 : Int32)]) (w' := px_w K s t) (q := []) 2 hM rfl trivial ?_
            cases h
            exact px_E_ret hM rfl rfl rfl trivial
        · rw [if_neg hs5] at h
          by_cases hs9 : a1.toInt = 2
          · rw [if_pos hs9] at h
            refine px_E_step hM rfl rfl (px_tb_at hs9 rfl) trivial ?_
            obtain ⟨hq10, h⟩ := px_gd_some h
            refine px_blk (i' := 31) (L' := [some (.ref 14), some (.int a0), some (.int a1)]) (S' := [.int ((s.2.2.1 17) a0.toNatClampNeg)]) (w' := px_w K s t) (q := [vp_in a0 (K.2.2 17)]) 4 hM rfl (show vp_in a0 (K.2.2 17) from hq10) ?_
            cases h
            exact px_E_ret hM rfl rfl rfl trivial
          · rw [if_neg hs9] at h
            by_cases hs11 : a1.toInt = 3
            · rw [if_pos hs11] at h
              refine px_E_step hM rfl rfl (px_tb_at hs11 rfl) trivial ?_
              obtain ⟨hq12, h⟩ := px_gd_some h
              refine px_blk (i' := 36) (L' := [some (.ref 14), some (.int a0), some (.int a1)]) (S' := [.int ((s.2.2.1 18) a0.toNatClampNeg)]) (w' := px_w K s t) (q := [vp_in a0 (K.2.2 18)]) 4 hM rfl (show vp_in a0 (K.2.2 18) from hq12) ?_
              cases h
              exact px_E_ret hM rfl rfl rfl trivial
            · rw [if_neg hs11] at h
              by_cases hs13 : a1.toInt = 4
              · rw [if_pos hs13] at h
                refine px_E_step hM rfl rfl (px_tb_at hs13 rfl) trivial ?_
                obtain ⟨⟨hq14, hq15, hq16⟩, h⟩ := px_gd_some h
                refine px_blk (i' := 48) (L' := [some (.ref 14), some (.int a0), some (.int a1)]) (S' := [.int (a0 - a0 / (s.1 19) * (s.1 19)), .int ((s.2.2.1 19) (a0 / (s.1 19)).toNatClampNeg)]) (w' := px_w K s t) (q := [¬ (s.1 19) = 0, vp_in (a0 / (s.1 19)) (K.2.2 19), ¬ (s.1 19) = 0]) 11 hM rfl (show (¬ (s.1 19) = 0) ∧ (vp_in (a0 / (s.1 19)) (K.2.2 19)) ∧ (¬ (s.1 19) = 0) from ⟨hq14, hq15, hq16⟩) ?_
                have hK : px_E px_ET px_P 1 131 52 [some (.ref 14), some (.int a0), some (.int a1)] [.int (if ¬ ((s.2.2.1 19) (a0 / (s.1 19)).toNatClampNeg) = (a0 - a0 / (s.1 19) * (s.1 19)) then (0 : Int32) else (1 : Int32))] (px_w K s t) r.1 (px_w K r.2.1 r.2.2) := by
                  cases h
                  exact px_E_ret hM rfl rfl rfl trivial
                clear h
                refine px_blkif (c := ¬ ((s.2.2.1 19) (a0 / (s.1 19)).toNatClampNeg) = (a0 - a0 / (s.1 19) * (s.1 19))) (t := 51) (e := 49) (L' := [some (.ref 14), some (.int a0), some (.int a1)]) (S' := []) (w' := px_w K s t) (q := []) 1 hM rfl trivial (fun hc17 => ?_) (fun hc17 => ?_)
                · rw [if_pos hc17] at hK
                  exact px_blk (i' := 52) (L' := [some (.ref 14), some (.int a0), some (.int a1)]) (S' := [.int (0 : Int32)]) (w' := px_w K s t) (q := []) 1 hM rfl trivial hK
                · rw [if_neg hc17] at hK
                  exact px_blk (i' := 52) (L' := [some (.ref 14), some (.int a0), some (.int a1)]) (S' := [.int (1 : Int32)]) (w' := px_w K s t) (q := []) 2 hM rfl trivial hK
              · rw [if_neg hs13] at h
                refine px_E_step hM rfl rfl (px_tb_df (by omega) rfl) trivial ?_
                refine px_blk (i' := 54) (L' := [some (.ref 14), some (.int a0), some (.int a1)]) (S' := [.int (-1 : Int32)]) (w' := px_w K s t) (q := []) 1 hM rfl trivial ?_
                cases h
                exact px_E_ret hM rfl rfl rfl trivial
    · rw [if_neg hc2] at h
      refine px_blk (i' := 7) (L' := [some (.ref 14), some (.int a0), some (.int a1)]) (S' := [.int (-1 : Int32)]) (w' := px_w K s t) (q := []) 1 hM rfl trivial ?_
      cases h
      exact px_E_ret hM rfl rfl rfl trivial
noncomputable def f_E_slot_1 (K : px_K) (N : Nat) (a0 : Int32) (a1 : Int32) (s : px_S) (t : px_W) : Option px_Res :=
  (if (s.1 0) = 0 then (some (.inl (some (.int (-1 : Int32))), s, t)) else (if ¬ (s.1 12) = 0 then (px_bi (f_S_tellOf_14 K N a0 a1 s t) (fun v6 s3 t4 => (some (.inl (some (.int v6)), s3, t4))) (fun x7 s3 t4 => none)) else (some (.inl (some (.int (-1 : Int32))), s, t))))
set_option maxRecDepth 100000 in
theorem e_E_slot_1 (K : px_K) (N : Nat) (a0 : Int32) (a1 : Int32) (s : px_S) (t : px_W) (r : px_Res) (h : f_E_slot_1 K N a0 a1 s t = some r) : px_E px_ET px_P 2 18 0 (px_ent 3 [.ref 1, .int a0, .int a1]) [] (px_w K s t) r.1 (px_w K r.2.1 r.2.2) := by
  have hM : px_P[18]? = some pm_E_slot := rfl
  unfold f_E_slot_1 at h
  refine px_blkif (c := (s.1 0) = 0) (t := 8) (e := 4) (L' := [some (.ref 1), some (.int a0), some (.int a1)]) (S' := []) (w' := px_w K s t) (q := []) 4 hM rfl trivial (fun hc1 => ?_) (fun hc1 => ?_)
  · rw [if_pos hc1] at h
    refine px_blk (i' := 9) (L' := [some (.ref 1), some (.int a0), some (.int a1)]) (S' := [.int (-1 : Int32)]) (w' := px_w K s t) (q := []) 1 hM rfl trivial ?_
    cases h
    exact px_E_ret hM rfl rfl rfl trivial
  · rw [if_neg hc1] at h
    refine px_blkif (c := ¬ (s.1 12) = 0) (t := 10) (e := 8) (L' := [some (.ref 1), some (.int a0), some (.int a1)]) (S' := []) (w' := px_w K s t) (q := []) 4 hM rfl trivial (fun hc2 => ?_) (fun hc2 => ?_)
    · rw [if_pos hc2] at h
      refine px_blk (i' := 15) (L' := [some (.ref 1), some (.int a0), some (.int a1)]) (S' := [.int a1, .int a0, .ref 14]) (w' := px_w K s t) (q := []) 5 hM rfl trivial ?_
      rcases px_bi_some h with ⟨v6, s3, t4, hk5, h⟩ | ⟨x7, s3, t4, hk5, h⟩
      · refine px_E_call hM rfl rfl rfl rfl (px_E_mono (by decide) (e_S_tellOf_14 K N a0 a1 s t _ hk5)) ?_
        cases h
        exact px_E_ret hM rfl rfl rfl trivial
      · cases h
    · rw [if_neg hc2] at h
      refine px_blk (i' := 9) (L' := [some (.ref 1), some (.int a0), some (.int a1)]) (S' := [.int (-1 : Int32)]) (w' := px_w K s t) (q := []) 1 hM rfl trivial ?_
      cases h
      exact px_E_ret hM rfl rfl rfl trivial
noncomputable def f_E_word_1 (K : px_K) (N : Nat) (a0 : Int32) (a1 : Int32) (a2 : Int32) (a3 : Int32) (s : px_S) (t : px_W) : Option px_Res :=
  (if a0 < 0 then (some (.inl (some (.int (-2147483648 : Int32))), s, t)) else (if (1 : Int32) < a0 then (some (.inl (some (.int (-2147483648 : Int32))), s, t)) else (if a2 < 0 then (some (.inl (some (.int (-2147483648 : Int32))), s, t)) else (if a2 < (16 : Int32) then (if ¬ a0 = 0 then (px_bi (f_D_has_8 K N a1 s t) (fun v9 s6 t7 => (if ¬ v9 = 0 then (if a3 = 0 then (px_gd (vp_in ((a1 * (16 : Int32)) + a2) (K.2.2 11)) (some (.inl (some (.int ((s6.2.2.1 11) ((a1 * (16 : Int32)) + a2).toNatClampNeg))), s6, t7))) else (px_gd (vp_in ((a1 * (16 : Int32)) + a2) (K.2.2 12)) (some (.inl (some (.int ((s6.2.2.1 12) ((a1 * (16 : Int32)) + a2).toNatClampNeg))), s6, t7)))) else (some (.inl (some (.int (-2147483648 : Int32))), s6, t7)))) (fun x10 s6 t7 => none)) else (px_bi (f_D_has_3 K N a1 s t) (fun v18 s15 t16 => (if ¬ v18 = 0 then (if a3 = 0 then (px_gd (vp_in ((a1 * (16 : Int32)) + a2) (K.2.2 6)) (some (.inl (some (.int ((s15.2.2.1 6) ((a1 * (16 : Int32)) + a2).toNatClampNeg))), s15, t16))) else (px_gd (vp_in ((a1 * (16 : Int32)) + a2) (K.2.2 7)) (some (.inl (some (.int ((s15.2.2.1 7) ((a1 * (16 : Int32)) + a2).toNatClampNeg))), s15, t16)))) else (some (.inl (some (.int (-2147483648 : Int32))), s15, t16)))) (fun x19 s15 t16 => none))) else (some (.inl (some (.int (-2147483648 : Int32))), s, t))))))
set_option maxRecDepth 100000 in
theorem e_E_word_1 (K : px_K) (N : Nat) (a0 : Int32) (a1 : Int32) (a2 : Int32) (a3 : Int32) (s : px_S) (t : px_W) (r : px_Res) (h : f_E_word_1 K N a0 a1 a2 a3 s t = some r) : px_E px_ET px_P 2 19 0 (px_ent 6 [.ref 1, .int a0, .int a1, .int a2, .int a3]) [] (px_w K s t) r.1 (px_w K r.2.1 r.2.2) := by
  have hM : px_P[19]? = some pm_E_word := rfl
  unfold f_E_word_1 at h
  refine px_blkif (c := a0 < 0) (t := 10) (e := 2) (L' := [some (.ref 1), some (.int a0), some (.int a1), some (.int a2), some (.int a3), none]) (S' := []) (w' := px_w K s t) (q := []) 2 hM rfl trivial (fun hc1 => ?_) (fun hc1 => ?_)
  · rw [if_pos hc1] at h
    refine px_blk (i' := 11) (L' := [some (.ref 1), some (.int a0), some (.int a1), some (.int a2), some (.int a3), none]) (S' := [.int (-2147483648 : Int32)]) (w' := px_w K s t) (q := []) 1 hM rfl trivial ?_
    cases h
    exact px_E_ret hM rfl rfl rfl trivial
  · rw [if_neg hc1] at h
    refine px_blkif (c := (1 : Int32) < a0) (t := 10) (e := 5) (L' := [some (.ref 1), some (.int a0), some (.int a1), some (.int a2), some (.int a3), none]) (S' := []) (w' := px_w K s t) (q := []) 3 hM rfl trivial (fun hc2 => ?_) (fun hc2 => ?_)
    · rw [if_pos hc2] at h
      refine px_blk (i' := 11) (L' := [some (.ref 1), some (.int a0), some (.int a1), some (.int a2), some (.int a3), none]) (S' := [.int (-2147483648 : Int32)]) (w' := px_w K s t) (q := []) 1 hM rfl trivial ?_
      cases h
      exact px_E_ret hM rfl rfl rfl trivial
    · rw [if_neg hc2] at h
      refine px_blkif (c := a2 < 0) (t := 10) (e := 7) (L' := [some (.ref 1), some (.int a0), some (.int a1), some (.int a2), some (.int a3), none]) (S' := []) (w' := px_w K s t) (q := []) 2 hM rfl trivial (fun hc3 => ?_) (fun hc3 => ?_)
      · rw [if_pos hc3] at h
        refine px_blk (i' := 11) (L' := [some (.ref 1), some (.int a0), some (.int a1), some (.int a2), some (.int a3), none]) (S' := [.int (-2147483648 : Int32)]) (w' := px_w K s t) (q := []) 1 hM rfl trivial ?_
        cases h
        exact px_E_ret hM rfl rfl rfl trivial
      · rw [if_neg hc3] at h
        refine px_blkif (c := a2 < (16 : Int32)) (t := 12) (e := 10) (L' := [some (.ref 1), some (.int a0), some (.int a1), some (.int a2), some (.int a3), none]) (S' := []) (w' := px_w K s t) (q := []) 3 hM rfl trivial (fun hc4 => ?_) (fun hc4 => ?_)
        · rw [if_pos hc4] at h
          refine px_blkif (c := ¬ a0 = 0) (t := 17) (e := 14) (L' := [some (.ref 1), some (.int a0), some (.int a1), some (.int a2), some (.int a3), none]) (S' := []) (w' := px_w K s t) (q := []) 2 hM rfl trivial (fun hc5 => ?_) (fun hc5 => ?_)
          · rw [if_pos hc5] at h
            refine px_blk (i' := 22) (L' := [some (.ref 1), some (.int a0), some (.int a1), some (.int a2), some (.int a3), some (.ref 8)]) (S' := [.int a1, .ref 8]) (w' := px_w K s t) (q := []) 5 hM rfl trivial ?_
            rcases px_bi_some h with ⟨v9, s6, t7, hk8, h⟩ | ⟨x10, s6, t7, hk8, h⟩
            · refine px_E_call hM rfl rfl rfl rfl (px_E_mono (by decide) (e_D_has_8 K N a1 s t _ hk8)) ?_
              refine px_blkif (c := ¬ v9 = 0) (t := 26) (e := 24) (L' := [some (.ref 1), some (.int a0), some (.int a1), some (.int a2), some (.int a3), some (.ref 8)]) (S' := []) (w' := px_w K s6 t7) (q := []) 1 hM rfl trivial (fun hc11 => ?_) (fun hc11 => ?_)
              · rw [if_pos hc11] at h
                refine px_blkif (c := a3 = 0) (t := 37) (e := 28) (L' := [some (.ref 1), some (.int a0), some (.int a1), some (.int a2), some (.int a3), some (.ref 8)]) (S' := []) (w' := px_w K s6 t7) (q := []) 2 hM rfl trivial (fun hc12 => ?_) (fun hc12 => ?_)
                · rw [if_pos hc12] at h
                  obtain ⟨hq13, h⟩ := px_gd_some h
                  refine px_blk (i' := 45) (L' := [some (.ref 1), some (.int a0), some (.int a1), some (.int a2), some (.int a3), some (.ref 8)]) (S' := [.int ((s6.2.2.1 11) ((a1 * (16 : Int32)) + a2).toNatClampNeg)]) (w' := px_w K s6 t7) (q := [vp_in ((a1 * (16 : Int32)) + a2) (K.2.2 11)]) 8 hM rfl (show vp_in ((a1 * (16 : Int32)) + a2) (K.2.2 11) from hq13) ?_
                  cases h
                  exact px_E_ret hM rfl rfl rfl trivial
                · rw [if_neg hc12] at h
                  obtain ⟨hq14, h⟩ := px_gd_some h
                  refine px_blk (i' := 45) (L' := [some (.ref 1), some (.int a0), some (.int a1), some (.int a2), some (.int a3), some (.ref 8)]) (S' := [.int ((s6.2.2.1 12) ((a1 * (16 : Int32)) + a2).toNatClampNeg)]) (w' := px_w K s6 t7) (q := [vp_in ((a1 * (16 : Int32)) + a2) (K.2.2 12)]) 9 hM rfl (show vp_in ((a1 * (16 : Int32)) + a2) (K.2.2 12) from hq14) ?_
                  cases h
                  exact px_E_ret hM rfl rfl rfl trivial
              · rw [if_neg hc11] at h
                refine px_blk (i' := 25) (L' := [some (.ref 1), some (.int a0), some (.int a1), some (.int a2), some (.int a3), some (.ref 8)]) (S' := [.int (-2147483648 : Int32)]) (w' := px_w K s6 t7) (q := []) 1 hM rfl trivial ?_
                cases h
                exact px_E_ret hM rfl rfl rfl trivial
            · cases h
          · rw [if_neg hc5] at h
            refine px_blk (i' := 22) (L' := [some (.ref 1), some (.int a0), some (.int a1), some (.int a2), some (.int a3), some (.ref 3)]) (S' := [.int a1, .ref 3]) (w' := px_w K s t) (q := []) 6 hM rfl trivial ?_
            rcases px_bi_some h with ⟨v18, s15, t16, hk17, h⟩ | ⟨x19, s15, t16, hk17, h⟩
            · refine px_E_call hM rfl rfl rfl rfl (px_E_mono (by decide) (e_D_has_3 K N a1 s t _ hk17)) ?_
              refine px_blkif (c := ¬ v18 = 0) (t := 26) (e := 24) (L' := [some (.ref 1), some (.int a0), some (.int a1), some (.int a2), some (.int a3), some (.ref 3)]) (S' := []) (w' := px_w K s15 t16) (q := []) 1 hM rfl trivial (fun hc20 => ?_) (fun hc20 => ?_)
              · rw [if_pos hc20] at h
                refine px_blkif (c := a3 = 0) (t := 37) (e := 28) (L' := [some (.ref 1), some (.int a0), some (.int a1), some (.int a2), some (.int a3), some (.ref 3)]) (S' := []) (w' := px_w K s15 t16) (q := []) 2 hM rfl trivial (fun hc21 => ?_) (fun hc21 => ?_)
                · rw [if_pos hc21] at h
                  obtain ⟨hq22, h⟩ := px_gd_some h
                  refine px_blk (i' := 45) (L' := [some (.ref 1), some (.int a0), some (.int a1), some (.int a2), some (.int a3), some (.ref 3)]) (S' := [.int ((s15.2.2.1 6) ((a1 * (16 : Int32)) + a2).toNatClampNeg)]) (w' := px_w K s15 t16) (q := [vp_in ((a1 * (16 : Int32)) + a2) (K.2.2 6)]) 8 hM rfl (show vp_in ((a1 * (16 : Int32)) + a2) (K.2.2 6) from hq22) ?_
                  cases h
                  exact px_E_ret hM rfl rfl rfl trivial
                · rw [if_neg hc21] at h
                  obtain ⟨hq23, h⟩ := px_gd_some h
                  refine px_blk (i' := 45) (L' := [some (.ref 1), some (.int a0), some (.int a1), some (.int a2), some (.int a3), some (.ref 3)]) (S' := [.int ((s15.2.2.1 7) ((a1 * (16 : Int32)) + a2).toNatClampNeg)]) (w' := px_w K s15 t16) (q := [vp_in ((a1 * (16 : Int32)) + a2) (K.2.2 7)]) 9 hM rfl (show vp_in ((a1 * (16 : Int32)) + a2) (K.2.2 7) from hq23) ?_
                  cases h
                  exact px_E_ret hM rfl rfl rfl trivial
              · rw [if_neg hc20] at h
                refine px_blk (i' := 25) (L' := [some (.ref 1), some (.int a0), some (.int a1), some (.int a2), some (.int a3), some (.ref 3)]) (S' := [.int (-2147483648 : Int32)]) (w' := px_w K s15 t16) (q := []) 1 hM rfl trivial ?_
                cases h
                exact px_E_ret hM rfl rfl rfl trivial
            · cases h
        · rw [if_neg hc4] at h
          refine px_blk (i' := 11) (L' := [some (.ref 1), some (.int a0), some (.int a1), some (.int a2), some (.int a3), none]) (S' := [.int (-2147483648 : Int32)]) (w' := px_w K s t) (q := []) 1 hM rfl trivial ?_
          cases h
          exact px_E_ret hM rfl rfl rfl trivial
noncomputable def f_V_tellEpochs_13 (K : px_K) (N : Nat) (a0 : Int32) (s : px_S) (t : px_W) : Option px_Res :=
  (if a0.toInt = 3 then (some (.inl (some (.int (s.1 16))), s, t)) else (if a0.toInt = 4 then (px_bi (f_V_landed_13 K N s t) (fun v6 s3 t4 => (some (.inl (some (.int (((s.1 16) - (1 : Int32)) - v6))), s3, t4))) (fun x7 s3 t4 => none)) else (some (.inl (some (.int (s.1 17))), s, t))))
set_option maxRecDepth 100000 in
theorem e_V_tellEpochs_13 (K : px_K) (N : Nat) (a0 : Int32) (s : px_S) (t : px_W) (r : px_Res) (h : f_V_tellEpochs_13 K N a0 s t = some r) : px_E px_ET px_P 2 183 0 (px_ent 2 [.ref 13, .int a0]) [] (px_w K s t) r.1 (px_w K r.2.1 r.2.2) := by
  have hM : px_P[183]? = some pm_V_tellEpochs := rfl
  unfold f_V_tellEpochs_13 at h
  refine px_blk (i' := 1) (L' := [some (.ref 13), some (.int a0)]) (S' := [.int a0]) (w' := px_w K s t) (q := []) 1 hM rfl trivial ?_
  by_cases hs1 : a0.toInt = 3
  · rw [if_pos hs1] at h
    refine px_E_step hM rfl rfl (px_lk_of hs1 rfl) trivial ?_
    refine px_blk (i' := 4) (L' := [some (.ref 13), some (.int a0)]) (S' := [.int (s.1 16)]) (w' := px_w K s t) (q := []) 2 hM rfl trivial ?_
    cases h
    exact px_E_ret hM rfl rfl rfl trivial
  · rw [if_neg hs1] at h
    by_cases hs2 : a0.toInt = 4
    · rw [if_pos hs2] at h
      refine px_E_step hM rfl rfl (px_lk_of hs2 rfl) trivial ?_
      refine px_blk (i' := 10) (L' := [some (.ref 13), some (.int a0)]) (S' := [.ref 13, .int ((s.1 16) - (1 : Int32))]) (w' := px_w K s t) (q := []) 5 hM rfl trivial ?_
      rcases px_bi_some h with ⟨v6, s3, t4, hk5, h⟩ | ⟨x7, s3, t4, hk5, h⟩
      · refine px_E_call hM rfl rfl rfl rfl (px_E_mono (by decide) (e_V_landed_13 K N s t _ hk5)) ?_
        refine px_blk (i' := 12) (L' := [some (.ref 13), some (.int a0)]) (S' := [.int (((s.1 16) - (1 : Int32)) - v6)]) (w' := px_w K s3 t4) (q := []) 1 hM rfl trivial ?_
        cases h
        exact px_E_ret hM rfl rfl rfl trivial
      · cases h
    · rw [if_neg hs2] at h
      refine px_E_step hM rfl rfl (px_lk_df (by simp; omega) rfl) trivial ?_
      refine px_blk (i' := 15) (L' := [some (.ref 13), some (.int a0)]) (S' := [.int (s.1 17)]) (w' := px_w K s t) (q := []) 2 hM rfl trivial ?_
      cases h
      exact px_E_ret hM rfl rfl rfl trivial
noncomputable def l_T_usedInodes_22_4 (K : px_K) (N : Nat) (n : Nat) (m1 : Int32) (m2 : Int32) (s : px_S) (t : px_W) : Option px_LO := match n with
  | 0 => none
  | n + 1 => (if (24 : Int32) ≤ m2 then (some (.inl (15, [m1], s, t))) else (px_bi (f_T_inodeWord_22 K N m2 (0 : Int32) s t) (fun v5 s2 t3 => (if v5 = 0 then (l_T_usedInodes_22_4 K N n m1 (m2 + (1 : Int32)) s2 t3) else (l_T_usedInodes_22_4 K N n (m1 + (1 : Int32)) (m2 + (1 : Int32)) s2 t3))) (fun x6 s2 t3 => none)))
def a_l_T_usedInodes_22_4 (K : px_K) (z : px_LO) (o : Option Value ⊕ Nat) (w2 : px_W) : Prop := match z with
  | .inr (o', s', t') => o = o' ∧ w2 = px_w K s' t'
  | .inl (15, [y1], s', t') => px_E px_ET px_P 2 134 15 [none, some (.int y1), none] [] (px_w K s' t') o w2
  | _ => False
set_option maxRecDepth 100000 in
theorem e_l_T_usedInodes_22_4 (K : px_K) (N : Nat) : ∀ (n : Nat) (m1 : Int32) (m2 : Int32) (s : px_S) (t : px_W) (z : px_LO), l_T_usedInodes_22_4 K N n m1 m2 s t = some z → ∀ (o : Option Value ⊕ Nat) (w2 : px_W), a_l_T_usedInodes_22_4 K z o w2 → px_E px_ET px_P 2 134 4 [some (.ref 22), some (.int m1), some (.int m2)] [] (px_w K s t) o w2 := by
  have hM : px_P[134]? = some pm_T_usedInodes := rfl
  intro n
  induction n with
  | zero => intro m1 m2 s t z h; cases h
  | succ n ih =>
    intro m1 m2 s t z h o w2 ha
    unfold l_T_usedInodes_22_4 at h
    refine px_blkif (c := (24 : Int32) ≤ m2) (t := 15) (e := 7) (L' := [some (.ref 22), some (.int m1), some (.int m2)]) (S' := []) (w' := px_w K s t) (q := []) 3 hM rfl trivial (fun hc1 => ?_) (fun hc1 => ?_)
    · rw [if_pos hc1] at h
      cases h
      exact px_E_le (px_leC_L _ _ (by simp [px_leC, px_le1, Value.category])) ha
    · rw [if_neg hc1] at h
      refine px_blk (i' := 10) (L' := [some (.ref 22), some (.int m1), some (.int m2)]) (S' := [.int (0 : Int32), .int m2, .ref 22]) (w' := px_w K s t) (q := []) 3 hM rfl trivial ?_
      rcases px_bi_some h with ⟨v5, s2, t3, hk4, h⟩ | ⟨x6, s2, t3, hk4, h⟩
      · refine px_E_call hM rfl rfl rfl rfl (px_E_mono (by decide) (e_T_inodeWord_22 K N m2 (0 : Int32) s t _ hk4)) ?_
        refine px_blkif (c := v5 = 0) (t := 13) (e := 12) (L' := [some (.ref 22), some (.int m1), some (.int m2)]) (S' := []) (w' := px_w K s2 t3) (q := []) 1 hM rfl trivial (fun hc7 => ?_) (fun hc7 => ?_)
        · rw [if_pos hc7] at h
          refine px_blk (i' := 4) (L' := [some (.ref 22), some (.int m1), some (.int (m2 + (1 : Int32)))]) (S' := []) (w' := px_w K s2 t3) (q := []) 2 hM rfl trivial ?_
          exact ih m1 (m2 + (1 : Int32)) s2 t3 z h o w2 ha
        · rw [if_neg hc7] at h
          refine px_blk (i' := 4) (L' := [some (.ref 22), some (.int (m1 + (1 : Int32))), some (.int (m2 + (1 : Int32)))]) (S' := []) (w' := px_w K s2 t3) (q := []) 3 hM rfl trivial ?_
          exact ih (m1 + (1 : Int32)) (m2 + (1 : Int32)) s2 t3 z h o w2 ha
      · cases h
noncomputable def f_T_usedInodes_22 (K : px_K) (N : Nat) (s : px_S) (t : px_W) : Option px_Res :=
  (px_lp (l_T_usedInodes_22_4 K N N (0 : Int32) (0 : Int32) s t) (fun i1 vs2 s3 t4 => (if i1 = 15 then (px_v1 vs2 (fun y7 => (some (.inl (some (.int y7)), s3, t4)))) else none)) (fun z6 => some z6))
set_option maxRecDepth 100000 in
theorem e_T_usedInodes_22 (K : px_K) (N : Nat) (s : px_S) (t : px_W) (r : px_Res) (h : f_T_usedInodes_22 K N s t = some r) : px_E px_ET px_P 2 134 0 (px_ent 3 [.ref 22]) [] (px_w K s t) r.1 (px_w K r.2.1 r.2.2) := by
  have hM : px_P[134]? = some pm_T_usedInodes := rfl
  unfold f_T_usedInodes_22 at h
  refine px_blk (i' := 4) (L' := [some (.ref 22), some (.int (0 : Int32)), some (.int (0 : Int32))]) (S' := []) (w' := px_w K s t) (q := []) 4 hM rfl trivial ?_
  rcases px_lp_some h with ⟨i1, vs2, s3, t4, hl5, h⟩ | ⟨z6, hl5, h⟩
  · by_cases hi8 : i1 = 15
    · subst hi8
      rw [if_pos rfl] at h
      have h9 := px_v1_some h
      clear h
      obtain ⟨y7, rfl, h⟩ := h9
      refine e_l_T_usedInodes_22_4 K N N (0 : Int32) (0 : Int32) s t _ hl5 _ _ ?_
      show px_E px_ET px_P 2 134 15 [none, some (.int y7), none] [] (px_w K s3 t4) _ _
      refine px_blk (i' := 16) (L' := [none, some (.int y7), none]) (S' := [.int y7]) (w' := px_w K s3 t4) (q := []) 1 hM rfl trivial ?_
      cases h
      exact px_E_ret hM rfl rfl rfl trivial
    · rw [if_neg hi8] at h
      cases h
  · cases h
    exact e_l_T_usedInodes_22_4 K N N (0 : Int32) (0 : Int32) s t _ hl5 _ _ ⟨rfl, rfl⟩
noncomputable def f_T_tellCount_22 (K : px_K) (N : Nat) (a0 : Int32) (s : px_S) (t : px_W) : Option px_Res :=
  (if a0.toInt = 6 then (some (.inl (some (.int (s.1 23))), s, t)) else (if a0.toInt = 7 then (some (.inl (some (.int (s.1 21))), s, t)) else (if a0.toInt = 8 then (some (.inl (some (.int (s.1 22))), s, t)) else (if a0.toInt = 9 then (some (.inl (some (.int ((28 : Int32) - (s.1 24)))), s, t)) else (if a0.toInt = 10 then (px_bi (f_T_usedInodes_22 K N s t) (fun v9 s6 t7 => (some (.inl (some (.int v9)), s6, t7))) (fun x10 s6 t7 => none)) else (px_bi (f_T_usedBlocks_22 K N s t) (fun v14 s11 t12 => (some (.inl (some (.int v14)), s11, t12))) (fun x15 s11 t12 => none)))))))
set_option maxRecDepth 100000 in
theorem e_T_tellCount_22 (K : px_K) (N : Nat) (a0 : Int32) (s : px_S) (t : px_W) (r : px_Res) (h : f_T_tellCount_22 K N a0 s t = some r) : px_E px_ET px_P 3 133 0 (px_ent 2 [.ref 22, .int a0]) [] (px_w K s t) r.1 (px_w K r.2.1 r.2.2) := by
  have hM : px_P[133]? = some pm_T_tellCount := rfl
  unfold f_T_tellCount_22 at h
  refine px_blk (i' := 1) (L' := [some (.ref 22), some (.int a0)]) (S' := [.int a0]) (w' := px_w K s t) (q := []) 1 hM rfl trivial ?_
  by_cases hs1 : a0.toInt = 6
  · rw [if_pos hs1] at h
    refine px_E_step hM rfl rfl (px_tb_at hs1 rfl) trivial ?_
    refine px_blk (i' := 4) (L' := [some (.ref 22), some (.int a0)]) (S' := [.int (s.1 23)]) (w' := px_w K s t) (q := []) 2 hM rfl trivial ?_
    cases h
    exact px_E_ret hM rfl rfl rfl trivial
  · rw [if_neg hs1] at h
    by_cases hs2 : a0.toInt = 7
    · rw [if_pos hs2] at h
      refine px_E_step hM rfl rfl (px_tb_at hs2 rfl) trivial ?_
      refine px_blk (i' := 7) (L' := [some (.ref 22), some (.int a0)]) (S' := [.int (s.1 21)]) (w' := px_w K s t) (q := []) 2 hM rfl trivial ?_
      cases h
      exact px_E_ret hM rfl rfl rfl trivial
    · rw [if_neg hs2] at h
      by_cases hs3 : a0.toInt = 8
      · rw [if_pos hs3] at h
        refine px_E_step hM rfl rfl (px_tb_at hs3 rfl) trivial ?_
        refine px_blk (i' := 10) (L' := [some (.ref 22), some (.int a0)]) (S' := [.int (s.1 22)]) (w' := px_w K s t) (q := []) 2 hM rfl trivial ?_
        cases h
        exact px_E_ret hM rfl rfl rfl trivial
      · rw [if_neg hs3] at h
        by_cases hs4 : a0.toInt = 9
        · rw [if_pos hs4] at h
          refine px_E_step hM rfl rfl (px_tb_at hs4 rfl) trivial ?_
          refine px_blk (i' := 15) (L' := [some (.ref 22), some (.int a0)]) (S' := [.int ((28 : Int32) - (s.1 24))]) (w' := px_w K s t) (q := []) 4 hM rfl trivial ?_
          cases h
          exact px_E_ret hM rfl rfl rfl trivial
        · rw [if_neg hs4] at h
          by_cases hs5 : a0.toInt = 10
          · rw [if_pos hs5] at h
            refine px_E_step hM rfl rfl (px_tb_at hs5 rfl) trivial ?_
            refine px_blk (i' := 17) (L' := [some (.ref 22), some (.int a0)]) (S' := [.ref 22]) (w' := px_w K s t) (q := []) 1 hM rfl trivial ?_
            rcases px_bi_some h with ⟨v9, s6, t7, hk8, h⟩ | ⟨x10, s6, t7, hk8, h⟩
            · refine px_E_call hM rfl rfl rfl rfl (px_E_mono (by decide) (e_T_usedInodes_22 K N s t _ hk8)) ?_
              cases h
              exact px_E_ret hM rfl rfl rfl trivial
            · cases h
          · rw [if_neg hs5] at h
            refine px_E_step hM rfl rfl (px_tb_df (by omega) rfl) trivial ?_
            refine px_blk (i' := 20) (L' := [some (.ref 22), some (.int a0)]) (S' := [.ref 22]) (w' := px_w K s t) (q := []) 1 hM rfl trivial ?_
            rcases px_bi_some h with ⟨v14, s11, t12, hk13, h⟩ | ⟨x15, s11, t12, hk13, h⟩
            · refine px_E_call hM rfl rfl rfl rfl (px_E_mono (by decide) (e_T_usedBlocks_22 K N s t _ hk13)) ?_
              cases h
              exact px_E_ret hM rfl rfl rfl trivial
            · cases h
noncomputable def f_E_count_1 (K : px_K) (N : Nat) (a0 : Int32) (s : px_S) (t : px_W) : Option px_Res :=
  (if a0.toInt = 0 then (some (.inl (some (.int (if (s.1 0) = 0 then (0 : Int32) else (1 : Int32)))), s, t)) else (if a0.toInt = 1 then (some (.inl (some (.int (if (s.1 0) = 0 then (0 : Int32) else (if (s.1 12) = 0 then (0 : Int32) else (1 : Int32))))), s, t)) else (if a0.toInt = 2 then (px_bi (f_V_landed_13 K N s t) (fun v10 s7 t8 => (some (.inl (some (.int v10)), s7, t8))) (fun x11 s7 t8 => none)) else (if a0.toInt = 3 then (if (s.1 0) = 0 then (some (.inl (some (.int (-1 : Int32))), s, t)) else (if (s.1 12) = 0 then (some (.inl (some (.int (-1 : Int32))), s, t)) else (px_bi (f_V_tellEpochs_13 K N a0 s t) (fun v18 s15 t16 => (some (.inl (some (.int v18)), s15, t16))) (fun x19 s15 t16 => none)))) else (if a0.toInt = 4 then (if (s.1 0) = 0 then (some (.inl (some (.int (-1 : Int32))), s, t)) else (if (s.1 12) = 0 then (some (.inl (some (.int (-1 : Int32))), s, t)) else (px_bi (f_V_tellEpochs_13 K N a0 s t) (fun v26 s23 t24 => (some (.inl (some (.int v26)), s23, t24))) (fun x27 s23 t24 => none)))) else (if a0.toInt = 5 then (if (s.1 0) = 0 then (some (.inl (some (.int (-1 : Int32))), s, t)) else (if (s.1 12) = 0 then (some (.inl (some (.int (-1 : Int32))), s, t)) else (px_bi (f_V_tellEpochs_13 K N a0 s t) (fun v34 s31 t32 => (some (.inl (some (.int v34)), s31, t32))) (fun x35 s31 t32 => none)))) else (if a0.toInt = 6 then (if (s.1 0) = 0 then (some (.inl (some (.int (-1 : Int32))), s, t)) else (px_bi (f_T_tellCount_22 K N a0 s t) (fun v41 s38 t39 => (some (.inl (some (.int v41)), s38, t39))) (fun x42 s38 t39 => none))) else (if a0.toInt = 7 then (if (s.1 0) = 0 then (some (.inl (some (.int (-1 : Int32))), s, t)) else (px_bi (f_T_tellCount_22 K N a0 s t) (fun v48 s45 t46 => (some (.inl (some (.int v48)), s45, t46))) (fun x49 s45 t46 => none))) else (if a0.toInt = 8 then (if (s.1 0) = 0 then (some (.inl (some (.int (-1 : Int32))), s, t)) else (px_bi (f_T_tellCount_22 K N a0 s t) (fun v55 s52 t53 => (some (.inl (some (.int v55)), s52, t53))) (fun x56 s52 t53 => none))) else (if a0.toInt = 9 then (if (s.1 0) = 0 then (some (.inl (some (.int (-1 : Int32))), s, t)) else (px_bi (f_T_tellCount_22 K N a0 s t) (fun v62 s59 t60 => (some (.inl (some (.int v62)), s59, t60))) (fun x63 s59 t60 => none))) else (if a0.toInt = 10 then (if (s.1 0) = 0 then (some (.inl (some (.int (-1 : Int32))), s, t)) else (px_bi (f_T_tellCount_22 K N a0 s t) (fun v69 s66 t67 => (some (.inl (some (.int v69)), s66, t67))) (fun x70 s66 t67 => none))) else (if a0.toInt = 11 then (if (s.1 0) = 0 then (some (.inl (some (.int (-1 : Int32))), s, t)) else (px_bi (f_T_tellCount_22 K N a0 s t) (fun v76 s73 t74 => (some (.inl (some (.int v76)), s73, t74))) (fun x77 s73 t74 => none))) else (if a0.toInt = 12 then (some (.inl (some (.int (s.1 3))), s, t)) else (if a0.toInt = 13 then (some (.inl (some (.int (s.1 8))), s, t)) else (if a0.toInt = 14 then (some (.inl (some (.int (s.1 4))), s, t)) else (if a0.toInt = 15 then (some (.inl (some (.int (s.1 9))), s, t)) else (if a0.toInt = 16 then (some (.inl (some (.int (s.1 5))), s, t)) else (if a0.toInt = 17 then (some (.inl (some (.int (s.1 10))), s, t)) else (some (.inl (some (.int (-1 : Int32))), s, t))))))))))))))))))))
set_option maxRecDepth 100000 in
theorem e_E_count_1 (K : px_K) (N : Nat) (a0 : Int32) (s : px_S) (t : px_W) (r : px_Res) (h : f_E_count_1 K N a0 s t = some r) : px_E px_ET px_P 4 20 0 (px_ent 2 [.ref 1, .int a0]) [] (px_w K s t) r.1 (px_w K r.2.1 r.2.2) := by
  have hM : px_P[20]? = some pm_E_count := rfl
  unfold f_E_count_1 at h
  refine px_blk (i' := 1) (L' := [some (.ref 1), some (.int a0)]) (S' := [.int a0]) (w' := px_w K s t) (q := []) 1 hM rfl trivial ?_
  by_cases hs1 : a0.toInt = 0
  · rw [if_pos hs1] at h
    refine px_E_step hM rfl rfl (px_tb_at hs1 rfl) trivial ?_
    refine px_blk (i' := 5) (L' := [some (.ref 1), some (.int a0)]) (S' := [.int (s.1 0)]) (w' := px_w K s t) (q := []) 3 hM rfl trivial ?_
    have hK : px_E px_ET px_P 4 20 9 [some (.ref 1), some (.int a0)] [.int (if (s.1 0) = 0 then (0 : Int32) else (1 : Int32))] (px_w K s t) r.1 (px_w K r.2.1 r.2.2) := by
      cases h
      exact px_E_ret hM rfl rfl rfl trivial
    clear h
    refine px_blkif (c := (s.1 0) = 0) (t := 8) (e := 6) (L' := [some (.ref 1), some (.int a0)]) (S' := []) (w' := px_w K s t) (q := []) 1 hM rfl trivial (fun hc2 => ?_) (fun hc2 => ?_)
    · rw [if_pos hc2] at hK
      exact px_blk (i' := 9) (L' := [some (.ref 1), some (.int a0)]) (S' := [.int (0 : Int32)]) (w' := px_w K s t) (q := []) 1 hM rfl trivial hK
    · rw [if_neg hc2] at hK
      exact px_blk (i' := 9) (L' := [some (.ref 1), some (.int a0)]) (S' := [.int (1 : Int32)]) (w' := px_w K s t) (q := []) 2 hM rfl trivial hK
  · rw [if_neg hs1] at h
    by_cases hs3 : a0.toInt = 1
    · rw [if_pos hs3] at h
      refine px_E_step hM rfl rfl (px_tb_at hs3 rfl) trivial ?_
      refine px_blk (i' := 13) (L' := [some (.ref 1), some (.int a0)]) (S' := [.int (s.1 0)]) (w' := px_w K s t) (q := []) 3 hM rfl trivial ?_
      have hK : px_E px_ET px_P 4 20 21 [some (.ref 1), some (.int a0)] [.int (if (s.1 0) = 0 then (0 : Int32) else (if (s.1 12) = 0 then (0 : Int32) else (1 : Int32)))] (px_w K s t) r.1 (px_w K r.2.1 r.2.2) := by
        cases h
        exact px_E_ret hM rfl rfl rfl trivial
      clear h
      refine px_blkif (c := (s.1 0) = 0) (t := 20) (e := 14) (L' := [some (.ref 1), some (.int a0)]) (S' := []) (w' := px_w K s t) (q := []) 1 hM rfl trivial (fun hc4 => ?_) (fun hc4 => ?_)
      · rw [if_pos hc4] at hK
        exact px_blk (i' := 21) (L' := [some (.ref 1), some (.int a0)]) (S' := [.int (0 : Int32)]) (w' := px_w K s t) (q := []) 1 hM rfl trivial hK
      · rw [if_neg hc4] at hK
        refine px_blkif (c := (s.1 12) = 0) (t := 20) (e := 18) (L' := [some (.ref 1), some (.int a0)]) (S' := []) (w' := px_w K s t) (q := []) 4 hM rfl trivial (fun hc5 => ?_) (fun hc5 => ?_)
        · rw [if_pos hc5] at hK
          exact px_blk (i' := 21) (L' := [some (.ref 1), some (.int a0)]) (S' := [.int (0 : Int32)]) (w' := px_w K s t) (q := []) 1 hM rfl trivial hK
        · rw [if_neg hc5] at hK
          exact px_blk (i' := 21) (L' := [some (.ref 1), some (.int a0)]) (S' := [.int (1 : Int32)]) (w' := px_w K s t) (q := []) 2 hM rfl trivial hK
    · rw [if_neg hs3] at h
      by_cases hs6 : a0.toInt = 2
      · rw [if_pos hs6] at h
        refine px_E_step hM rfl rfl (px_tb_at hs6 rfl) trivial ?_
        refine px_blk (i' := 24) (L' := [some (.ref 1), some (.int a0)]) (S' := [.ref 13]) (w' := px_w K s t) (q := []) 2 hM rfl trivial ?_
        rcases px_bi_some h with ⟨v10, s7, t8, hk9, h⟩ | ⟨x11, s7, t8, hk9, h⟩
        · refine px_E_call hM rfl rfl rfl rfl (px_E_mono (by decide) (e_V_landed_13 K N s t _ hk9)) ?_
          cases h
          exact px_E_ret hM rfl rfl rfl trivial
        · cases h
      · rw [if_neg hs6] at h
        by_cases hs12 : a0.toInt = 3
        · rw [if_pos hs12] at h
          refine px_E_step hM rfl rfl (px_tb_at hs12 rfl) trivial ?_
          refine px_blkif (c := (s.1 0) = 0) (t := 39) (e := 30) (L' := [some (.ref 1), some (.int a0)]) (S' := []) (w' := px_w K s t) (q := []) 4 hM rfl trivial (fun hc13 => ?_) (fun hc13 => ?_)
          · rw [if_pos hc13] at h
            refine px_blk (i' := 40) (L' := [some (.ref 1), some (.int a0)]) (S' := [.int (-1 : Int32)]) (w' := px_w K s t) (q := []) 1 hM rfl trivial ?_
            cases h
            exact px_E_ret hM rfl rfl rfl trivial
          · rw [if_neg hc13] at h
            refine px_blkif (c := (s.1 12) = 0) (t := 39) (e := 34) (L' := [some (.ref 1), some (.int a0)]) (S' := []) (w' := px_w K s t) (q := []) 4 hM rfl trivial (fun hc14 => ?_) (fun hc14 => ?_)
            · rw [if_pos hc14] at h
              refine px_blk (i' := 40) (L' := [some (.ref 1), some (.int a0)]) (S' := [.int (-1 : Int32)]) (w' := px_w K s t) (q := []) 1 hM rfl trivial ?_
              cases h
              exact px_E_ret hM rfl rfl rfl trivial
            · rw [if_neg hc14] at h
              refine px_blk (i' := 37) (L' := [some (.ref 1), some (.int a0)]) (S' := [.int a0, .ref 13]) (w' := px_w K s t) (q := []) 3 hM rfl trivial ?_
              rcases px_bi_some h with ⟨v18, s15, t16, hk17, h⟩ | ⟨x19, s15, t16, hk17, h⟩
              · refine px_E_call hM rfl rfl rfl rfl (px_E_mono (by decide) (e_V_tellEpochs_13 K N a0 s t _ hk17)) ?_
                refine px_blk (i' := 40) (L' := [some (.ref 1), some (.int a0)]) (S' := [.int v18]) (w' := px_w K s15 t16) (q := []) 1 hM rfl trivial ?_
                cases h
                exact px_E_ret hM rfl rfl rfl trivial
              · cases h
        · rw [if_neg hs12] at h
          by_cases hs20 : a0.toInt = 4
          · rw [if_pos hs20] at h
            refine px_E_step hM rfl rfl (px_tb_at hs20 rfl) trivial ?_
            refine px_blkif (c := (s.1 0) = 0) (t := 39) (e := 30) (L' := [some (.ref 1), some (.int a0)]) (S' := []) (w' := px_w K s t) (q := []) 4 hM rfl trivial (fun hc21 => ?_) (fun hc21 => ?_)
            · rw [if_pos hc21] at h
              refine px_blk (i' := 40) (L' := [some (.ref 1), some (.int a0)]) (S' := [.int (-1 : Int32)]) (w' := px_w K s t) (q := []) 1 hM rfl trivial ?_
              cases h
              exact px_E_ret hM rfl rfl rfl trivial
            · rw [if_neg hc21] at h
              refine px_blkif (c := (s.1 12) = 0) (t := 39) (e := 34) (L' := [some (.ref 1), some (.int a0)]) (S' := []) (w' := px_w K s t) (q := []) 4 hM rfl trivial (fun hc22 => ?_) (fun hc22 => ?_)
              · rw [if_pos hc22] at h
                refine px_blk (i' := 40) (L' := [some (.ref 1), some (.int a0)]) (S' := [.int (-1 : Int32)]) (w' := px_w K s t) (q := []) 1 hM rfl trivial ?_
                cases h
                exact px_E_ret hM rfl rfl rfl trivial
              · rw [if_neg hc22] at h
                refine px_blk (i' := 37) (L' := [some (.ref 1), some (.int a0)]) (S' := [.int a0, .ref 13]) (w' := px_w K s t) (q := []) 3 hM rfl trivial ?_
                rcases px_bi_some h with ⟨v26, s23, t24, hk25, h⟩ | ⟨x27, s23, t24, hk25, h⟩
                · refine px_E_call hM rfl rfl rfl rfl (px_E_mono (by decide) (e_V_tellEpochs_13 K N a0 s t _ hk25)) ?_
                  refine px_blk (i' := 40) (L' := [some (.ref 1), some (.int a0)]) (S' := [.int v26]) (w' := px_w K s23 t24) (q := []) 1 hM rfl trivial ?_
                  cases h
                  exact px_E_ret hM rfl rfl rfl trivial
                · cases h
          · rw [if_neg hs20] at h
            by_cases hs28 : a0.toInt = 5
            · rw [if_pos hs28] at h
              refine px_E_step hM rfl rfl (px_tb_at hs28 rfl) trivial ?_
              refine px_blkif (c := (s.1 0) = 0) (t := 39) (e := 30) (L' := [some (.ref 1), some (.int a0)]) (S' := []) (w' := px_w K s t) (q := []) 4 hM rfl trivial (fun hc29 => ?_) (fun hc29 => ?_)
              · rw [if_pos hc29] at h
                refine px_blk (i' := 40) (L' := [some (.ref 1), some (.int a0)]) (S' := [.int (-1 : Int32)]) (w' := px_w K s t) (q := []) 1 hM rfl trivial ?_
                cases h
                exact px_E_ret hM rfl rfl rfl trivial
              · rw [if_neg hc29] at h
                refine px_blkif (c := (s.1 12) = 0) (t := 39) (e := 34) (L' := [some (.ref 1), some (.int a0)]) (S' := []) (w' := px_w K s t) (q := []) 4 hM rfl trivial (fun hc30 => ?_) (fun hc30 => ?_)
                · rw [if_pos hc30] at h
                  refine px_blk (i' := 40) (L' := [some (.ref 1), some (.int a0)]) (S' := [.int (-1 : Int32)]) (w' := px_w K s t) (q := []) 1 hM rfl trivial ?_
                  cases h
                  exact px_E_ret hM rfl rfl rfl trivial
                · rw [if_neg hc30] at h
                  refine px_blk (i' := 37) (L' := [some (.ref 1), some (.int a0)]) (S' := [.int a0, .ref 13]) (w' := px_w K s t) (q := []) 3 hM rfl trivial ?_
                  rcases px_bi_some h with ⟨v34, s31, t32, hk33, h⟩ | ⟨x35, s31, t32, hk33, h⟩
                  · refine px_E_call hM rfl rfl rfl rfl (px_E_mono (by decide) (e_V_tellEpochs_13 K N a0 s t _ hk33)) ?_
                    refine px_blk (i' := 40) (L' := [some (.ref 1), some (.int a0)]) (S' := [.int v34]) (w' := px_w K s31 t32) (q := []) 1 hM rfl trivial ?_
                    cases h
                    exact px_E_ret hM rfl rfl rfl trivial
                  · cases h
            · rw [if_neg hs28] at h
              by_cases hs36 : a0.toInt = 6
              · rw [if_pos hs36] at h
                refine px_E_step hM rfl rfl (px_tb_at hs36 rfl) trivial ?_
                refine px_blkif (c := (s.1 0) = 0) (t := 50) (e := 45) (L' := [some (.ref 1), some (.int a0)]) (S' := []) (w' := px_w K s t) (q := []) 4 hM rfl trivial (fun hc37 => ?_) (fun hc37 => ?_)
                · rw [if_pos hc37] at h
                  refine px_blk (i' := 51) (L' := [some (.ref 1), some (.int a0)]) (S' := [.int (-1 : Int32)]) (w' := px_w K s t) (q := []) 1 hM rfl trivial ?_
                  cases h
                  exact px_E_ret hM rfl rfl rfl trivial
                · rw [if_neg hc37] at h
                  refine px_blk (i' := 48) (L' := [some (.ref 1), some (.int a0)]) (S' := [.int a0, .ref 22]) (w' := px_w K s t) (q := []) 3 hM rfl trivial ?_
                  rcases px_bi_some h with ⟨v41, s38, t39, hk40, h⟩ | ⟨x42, s38, t39, hk40, h⟩
                  · refine px_E_call hM rfl rfl rfl rfl (px_E_mono (by decide) (e_T_tellCount_22 K N a0 s t _ hk40)) ?_
                    refine px_blk (i' := 51) (L' := [some (.ref 1), some (.int a0)]) (S' := [.int v41]) (w' := px_w K s38 t39) (q := []) 1 hM rfl trivial ?_
                    cases h
                    exact px_E_ret hM rfl rfl rfl trivial
                  · cases h
              · rw [if_neg hs36] at h
                by_cases hs43 : a0.toInt = 7
                · rw [if_pos hs43] at h
                  refine px_E_step hM rfl rfl (px_tb_at hs43 rfl) trivial ?_
                  refine px_blkif (c := (s.1 0) = 0) (t := 50) (e := 45) (L' := [some (.ref 1), some (.int a0)]) (S' := []) (w' := px_w K s t) (q := []) 4 hM rfl trivial (fun hc44 => ?_) (fun hc44 => ?_)
                  · rw [if_pos hc44] at h
                    refine px_blk (i' := 51) (L' := [some (.ref 1), some (.int a0)]) (S' := [.int (-1 : Int32)]) (w' := px_w K s t) (q := []) 1 hM rfl trivial ?_
                    cases h
                    exact px_E_ret hM rfl rfl rfl trivial
                  · rw [if_neg hc44] at h
                    refine px_blk (i' := 48) (L' := [some (.ref 1), some (.int a0)]) (S' := [.int a0, .ref 22]) (w' := px_w K s t) (q := []) 3 hM rfl trivial ?_
                    rcases px_bi_some h with ⟨v48, s45, t46, hk47, h⟩ | ⟨x49, s45, t46, hk47, h⟩
                    · refine px_E_call hM rfl rfl rfl rfl (px_E_mono (by decide) (e_T_tellCount_22 K N a0 s t _ hk47)) ?_
                      refine px_blk (i' := 51) (L' := [some (.ref 1), some (.int a0)]) (S' := [.int v48]) (w' := px_w K s45 t46) (q := []) 1 hM rfl trivial ?_
                      cases h
                      exact px_E_ret hM rfl rfl rfl trivial
                    · cases h
                · rw [if_neg hs43] at h
                  by_cases hs50 : a0.toInt = 8
                  · rw [if_pos hs50] at h
                    refine px_E_step hM rfl rfl (px_tb_at hs50 rfl) trivial ?_
                    refine px_blkif (c := (s.1 0) = 0) (t := 50) (e := 45) (L' := [some (.ref 1), some (.int a0)]) (S' := []) (w' := px_w K s t) (q := []) 4 hM rfl trivial (fun hc51 => ?_) (fun hc51 => ?_)
                    · rw [if_pos hc51] at h
                      refine px_blk (i' := 51) (L' := [some (.ref 1), some (.int a0)]) (S' := [.int (-1 : Int32)]) (w' := px_w K s t) (q := []) 1 hM rfl trivial ?_
                      cases h
                      exact px_E_ret hM rfl rfl rfl trivial
                    · rw [if_neg hc51] at h
                      refine px_blk (i' := 48) (L' := [some (.ref 1), some (.int a0)]) (S' := [.int a0, .ref 22]) (w' := px_w K s t) (q := []) 3 hM rfl trivial ?_
                      rcases px_bi_some h with ⟨v55, s52, t53, hk54, h⟩ | ⟨x56, s52, t53, hk54, h⟩
                      · refine px_E_call hM rfl rfl rfl rfl (px_E_mono (by decide) (e_T_tellCount_22 K N a0 s t _ hk54)) ?_
                        refine px_blk (i' := 51) (L' := [some (.ref 1), some (.int a0)]) (S' := [.int v55]) (w' := px_w K s52 t53) (q := []) 1 hM rfl trivial ?_
                        cases h
                        exact px_E_ret hM rfl rfl rfl trivial
                      · cases h
                  · rw [if_neg hs50] at h
                    by_cases hs57 : a0.toInt = 9
                    · rw [if_pos hs57] at h
                      refine px_E_step hM rfl rfl (px_tb_at hs57 rfl) trivial ?_
                      refine px_blkif (c := (s.1 0) = 0) (t := 50) (e := 45) (L' := [some (.ref 1), some (.int a0)]) (S' := []) (w' := px_w K s t) (q := []) 4 hM rfl trivial (fun hc58 => ?_) (fun hc58 => ?_)
                      · rw [if_pos hc58] at h
                        refine px_blk (i' := 51) (L' := [some (.ref 1), some (.int a0)]) (S' := [.int (-1 : Int32)]) (w' := px_w K s t) (q := []) 1 hM rfl trivial ?_
                        cases h
                        exact px_E_ret hM rfl rfl rfl trivial
                      · rw [if_neg hc58] at h
                        refine px_blk (i' := 48) (L' := [some (.ref 1), some (.int a0)]) (S' := [.int a0, .ref 22]) (w' := px_w K s t) (q := []) 3 hM rfl trivial ?_
                        rcases px_bi_some h with ⟨v62, s59, t60, hk61, h⟩ | ⟨x63, s59, t60, hk61, h⟩
                        · refine px_E_call hM rfl rfl rfl rfl (px_E_mono (by decide) (e_T_tellCount_22 K N a0 s t _ hk61)) ?_
                          refine px_blk (i' := 51) (L' := [some (.ref 1), some (.int a0)]) (S' := [.int v62]) (w' := px_w K s59 t60) (q := []) 1 hM rfl trivial ?_
                          cases h
                          exact px_E_ret hM rfl rfl rfl trivial
                        · cases h
                    · rw [if_neg hs57] at h
                      by_cases hs64 : a0.toInt = 10
                      · rw [if_pos hs64] at h
                        refine px_E_step hM rfl rfl (px_tb_at hs64 rfl) trivial ?_
                        refine px_blkif (c := (s.1 0) = 0) (t := 50) (e := 45) (L' := [some (.ref 1), some (.int a0)]) (S' := []) (w' := px_w K s t) (q := []) 4 hM rfl trivial (fun hc65 => ?_) (fun hc65 => ?_)
                        · rw [if_pos hc65] at h
                          refine px_blk (i' := 51) (L' := [some (.ref 1), some (.int a0)]) (S' := [.int (-1 : Int32)]) (w' := px_w K s t) (q := []) 1 hM rfl trivial ?_
                          cases h
                          exact px_E_ret hM rfl rfl rfl trivial
                        · rw [if_neg hc65] at h
                          refine px_blk (i' := 48) (L' := [some (.ref 1), some (.int a0)]) (S' := [.int a0, .ref 22]) (w' := px_w K s t) (q := []) 3 hM rfl trivial ?_
                          rcases px_bi_some h with ⟨v69, s66, t67, hk68, h⟩ | ⟨x70, s66, t67, hk68, h⟩
                          · refine px_E_call hM rfl rfl rfl rfl (px_E_mono (by decide) (e_T_tellCount_22 K N a0 s t _ hk68)) ?_
                            refine px_blk (i' := 51) (L' := [some (.ref 1), some (.int a0)]) (S' := [.int v69]) (w' := px_w K s66 t67) (q := []) 1 hM rfl trivial ?_
                            cases h
                            exact px_E_ret hM rfl rfl rfl trivial
                          · cases h
                      · rw [if_neg hs64] at h
                        by_cases hs71 : a0.toInt = 11
                        · rw [if_pos hs71] at h
                          refine px_E_step hM rfl rfl (px_tb_at hs71 rfl) trivial ?_
                          refine px_blkif (c := (s.1 0) = 0) (t := 50) (e := 45) (L' := [some (.ref 1), some (.int a0)]) (S' := []) (w' := px_w K s t) (q := []) 4 hM rfl trivial (fun hc72 => ?_) (fun hc72 => ?_)
                          · rw [if_pos hc72] at h
                            refine px_blk (i' := 51) (L' := [some (.ref 1), some (.int a0)]) (S' := [.int (-1 : Int32)]) (w' := px_w K s t) (q := []) 1 hM rfl trivial ?_
                            cases h
                            exact px_E_ret hM rfl rfl rfl trivial
                          · rw [if_neg hc72] at h
                            refine px_blk (i' := 48) (L' := [some (.ref 1), some (.int a0)]) (S' := [.int a0, .ref 22]) (w' := px_w K s t) (q := []) 3 hM rfl trivial ?_
                            rcases px_bi_some h with ⟨v76, s73, t74, hk75, h⟩ | ⟨x77, s73, t74, hk75, h⟩
                            · refine px_E_call hM rfl rfl rfl rfl (px_E_mono (by decide) (e_T_tellCount_22 K N a0 s t _ hk75)) ?_
                              refine px_blk (i' := 51) (L' := [some (.ref 1), some (.int a0)]) (S' := [.int v76]) (w' := px_w K s73 t74) (q := []) 1 hM rfl trivial ?_
                              cases h
                              exact px_E_ret hM rfl rfl rfl trivial
                            · cases h
                        · rw [if_neg hs71] at h
                          by_cases hs78 : a0.toInt = 12
                          · rw [if_pos hs78] at h
                            refine px_E_step hM rfl rfl (px_tb_at hs78 rfl) trivial ?_
                            refine px_blk (i' := 55) (L' := [some (.ref 1), some (.int a0)]) (S' := [.int (s.1 3)]) (w' := px_w K s t) (q := []) 3 hM rfl trivial ?_
                            cases h
                            exact px_E_ret hM rfl rfl rfl trivial
                          · rw [if_neg hs78] at h
                            by_cases hs79 : a0.toInt = 13
                            · rw [if_pos hs79] at h
                              refine px_E_step hM rfl rfl (px_tb_at hs79 rfl) trivial ?_
                              refine px_blk (i' := 59) (L' := [some (.ref 1), some (.int a0)]) (S' := [.int (s.1 8)]) (w' := px_w K s t) (q := []) 3 hM rfl trivial ?_
                              cases h
                              exact px_E_ret hM rfl rfl rfl trivial
                            · rw [if_neg hs79] at h
                              by_cases hs80 : a0.toInt = 14
                              · rw [if_pos hs80] at h
                                refine px_E_step hM rfl rfl (px_tb_at hs80 rfl) trivial ?_
                                refine px_blk (i' := 63) (L' := [some (.ref 1), some (.int a0)]) (S' := [.int (s.1 4)]) (w' := px_w K s t) (q := []) 3 hM rfl trivial ?_
                                cases h
                                exact px_E_ret hM rfl rfl rfl trivial
                              · rw [if_neg hs80] at h
                                by_cases hs81 : a0.toInt = 15
                                · rw [if_pos hs81] at h
                                  refine px_E_step hM rfl rfl (px_tb_at hs81 rfl) trivial ?_
                                  refine px_blk (i' := 67) (L' := [some (.ref 1), some (.int a0)]) (S' := [.int (s.1 9)]) (w' := px_w K s t) (q := []) 3 hM rfl trivial ?_
                                  cases h
                                  exact px_E_ret hM rfl rfl rfl trivial
                                · rw [if_neg hs81] at h
                                  by_cases hs82 : a0.toInt = 16
                                  · rw [if_pos hs82] at h
                                    refine px_E_step hM rfl rfl (px_tb_at hs82 rfl) trivial ?_
                                    refine px_blk (i' := 71) (L' := [some (.ref 1), some (.int a0)]) (S' := [.int (s.1 5)]) (w' := px_w K s t) (q := []) 3 hM rfl trivial ?_
                                    cases h
                                    exact px_E_ret hM rfl rfl rfl trivial
                                  · rw [if_neg hs82] at h
                                    by_cases hs83 : a0.toInt = 17
                                    · rw [if_pos hs83] at h
                                      refine px_E_step hM rfl rfl (px_tb_at hs83 rfl) trivial ?_
                                      refine px_blk (i' := 75) (L' := [some (.ref 1), some (.int a0)]) (S' := [.int (s.1 10)]) (w' := px_w K s t) (q := []) 3 hM rfl trivial ?_
                                      cases h
                                      exact px_E_ret hM rfl rfl rfl trivial
                                    · rw [if_neg hs83] at h
                                      refine px_E_step hM rfl rfl (px_tb_df (by omega) rfl) trivial ?_
                                      refine px_blk (i' := 77) (L' := [some (.ref 1), some (.int a0)]) (S' := [.int (-1 : Int32)]) (w' := px_w K s t) (q := []) 1 hM rfl trivial ?_
                                      cases h
                                      exact px_E_ret hM rfl rfl rfl trivial
