/-! THE METHODS AS FUNCTIONS (by program). -/
noncomputable def l_M_bringHome_28_6 (K : px_K) (N : Nat) (n : Nat) (m1 : Int32) (s : px_S) (t : px_W) : Option px_LO := match n with
  | 0 => none
  | n + 1 => (if (106 : Int32) ≤ m1 then (some (.inl (24, [], s, t))) else (px_gd (vp_in m1 (K.2.2 42)) (if ((s.2.2.1 42) m1.toNatClampNeg) = 0 then (l_M_bringHome_28_6 K N n (m1 + (1 : Int32)) s t) else (px_bv (f_M_writeVolume_28_40 K N m1 ((16 : Int32) * m1) s t) (fun s4 t5 => (l_M_bringHome_28_6 K N n (m1 + (1 : Int32)) s4 t5)) (fun x8 s4 t5 => none)))))
def a_l_M_bringHome_28_6 (K : px_K) (z : px_LO) (o : Option Value ⊕ Nat) (w2 : px_W) : Prop := match z with
  | .inr (o', s', t') => o = o' ∧ w2 = px_w K s' t'
  | .inl (24, [], s', t') => px_E px_ET px_P 10 73 24 [some (.ref 28), none] [] (px_w K s' t') o w2
  | _ => False
noncomputable def l_M_bringHome_28_44 (K : px_K) (N : Nat) (n : Nat) (m1 : Int32) (s : px_S) (t : px_W) : Option px_LO := match n with
  | 0 => none
  | n + 1 => (if (106 : Int32) ≤ m1 then (some (.inl (54, [], s, t))) else (px_gd (vp_in m1 (K.2.2 42)) (px_let (sA s 42 m1.toNatClampNeg (0 : Int32)) (fun s3 => (l_M_bringHome_28_44 K N n (m1 + (1 : Int32)) s3 t)))))
def a_l_M_bringHome_28_44 (K : px_K) (z : px_LO) (o : Option Value ⊕ Nat) (w2 : px_W) : Prop := match z with
  | .inr (o', s', t') => o = o' ∧ w2 = px_w K s' t'
  | .inl (54, [], s', t') => px_E px_ET px_P 10 73 54 [some (.ref 28), none] [] (px_w K s' t') o w2
  | _ => False
set_option maxRecDepth 100000 in
theorem e_l_M_bringHome_28_6 (K : px_K) (N : Nat) : ∀ (n : Nat) (m1 : Int32) (s : px_S) (t : px_W) (z : px_LO), l_M_bringHome_28_6 K N n m1 s t = some z → ∀ (o : Option Value ⊕ Nat) (w2 : px_W), a_l_M_bringHome_28_6 K z o w2 → px_E px_ET px_P 10 73 6 [some (.ref 28), some (.int m1)] [] (px_w K s t) o w2 := by
  have hM : px_P[73]? = some pm_M_bringHome := rfl
  intro n
  induction n with
  | zero => intro m1 s t z h; cases h
  | succ n ih =>
    intro m1 s t z h o w2 ha
    unfold l_M_bringHome_28_6 at h
    refine px_blkif (c := (106 : Int32) ≤ m1) (t := 24) (e := 9) (L' := [some (.ref 28), some (.int m1)]) (S' := []) (w' := px_w K s t) (q := []) 3 hM rfl trivial (fun hc1 => ?_) (fun hc1 => ?_)
    · rw [if_pos hc1] at h
      cases h
      exact px_E_le (px_leC_L _ _ (by simp [px_leC, px_le1, Value.category])) ha
    · rw [if_neg hc1] at h
      obtain ⟨hq2, h⟩ := px_gd_some h
      refine px_blkif (c := ((s.2.2.1 42) m1.toNatClampNeg) = 0) (t := 22) (e := 14) (L' := [some (.ref 28), some (.int m1)]) (S' := []) (w' := px_w K s t) (q := [vp_in m1 (K.2.2 42)]) 5 hM rfl (show vp_in m1 (K.2.2 42) from hq2) (fun hc3 => ?_) (fun hc3 => ?_)
      · rw [if_pos hc3] at h
        refine px_blk (i' := 6) (L' := [some (.ref 28), some (.int (m1 + (1 : Int32)))]) (S' := []) (w' := px_w K s t) (q := []) 2 hM rfl trivial ?_
        exact ih (m1 + (1 : Int32)) s t z h o w2 ha
      · rw [if_neg hc3] at h
        refine px_blk (i' := 21) (L' := [some (.ref 28), some (.int m1)]) (S' := [.int ((16 : Int32) * m1), .ref 40, .int m1, .ref 28]) (w' := px_w K s t) (q := []) 7 hM rfl trivial ?_
        rcases px_bv_some h with ⟨s4, t5, hk6, h⟩ | ⟨x8, s4, t5, hk6, h⟩
        · refine px_E_call hM rfl rfl rfl rfl (px_E_mono (by decide) (e_M_writeVolume_28_40 K N m1 ((16 : Int32) * m1) s t _ hk6)) ?_
          refine px_blk (i' := 6) (L' := [some (.ref 28), some (.int (m1 + (1 : Int32)))]) (S' := []) (w' := px_w K s4 t5) (q := []) 2 hM rfl trivial ?_
          exact ih (m1 + (1 : Int32)) s4 t5 z h o w2 ha
        · cases h
set_option maxRecDepth 100000 in
theorem e_l_M_bringHome_28_44 (K : px_K) (N : Nat) : ∀ (n : Nat) (m1 : Int32) (s : px_S) (t : px_W) (z : px_LO), l_M_bringHome_28_44 K N n m1 s t = some z → ∀ (o : Option Value ⊕ Nat) (w2 : px_W), a_l_M_bringHome_28_44 K z o w2 → px_E px_ET px_P 10 73 44 [some (.ref 28), some (.int m1)] [] (px_w K s t) o w2 := by
  have hM : px_P[73]? = some pm_M_bringHome := rfl
  intro n
  induction n with
  | zero => intro m1 s t z h; cases h
  | succ n ih =>
    intro m1 s t z h o w2 ha
    unfold l_M_bringHome_28_44 at h
    refine px_blkif (c := (106 : Int32) ≤ m1) (t := 54) (e := 47) (L' := [some (.ref 28), some (.int m1)]) (S' := []) (w' := px_w K s t) (q := []) 3 hM rfl trivial (fun hc1 => ?_) (fun hc1 => ?_)
    · rw [if_pos hc1] at h
      cases h
      exact px_E_le (px_leC_L _ _ (by simp [px_leC, px_le1, Value.category])) ha
    · rw [if_neg hc1] at h
      obtain ⟨hq2, h⟩ := px_gd_some h
      refine px_blk (i' := 52) (L' := [some (.ref 28), some (.int m1)]) (S' := []) (w' := px_w K (sA s 42 m1.toNatClampNeg (0 : Int32)) t) (q := [vp_in m1 (K.2.2 42), (0 : Int32) = 0 ∨ (0 : Int32) = 1]) 5 hM rfl (show (vp_in m1 (K.2.2 42)) ∧ ((0 : Int32) = 0 ∨ (0 : Int32) = 1) from ⟨hq2, Or.inl rfl⟩) ?_
      obtain ⟨s3, hs4, h⟩ := px_let_some h
      rw [← hs4]
      refine px_blk (i' := 44) (L' := [some (.ref 28), some (.int (m1 + (1 : Int32)))]) (S' := []) (w' := px_w K s3 t) (q := []) 2 hM rfl trivial ?_
      exact ih (m1 + (1 : Int32)) s3 t z h o w2 ha
noncomputable def f_M_bringHome_28 (K : px_K) (N : Nat) (s : px_S) (t : px_W) : Option px_Res :=
  (px_bi (f_M_keeps_28 K N s t) (fun v4 s1 t2 => (if ¬ v4 = 0 then (px_lp (l_M_bringHome_28_6 K N N (0 : Int32) s1 t2) (fun i7 vs8 s9 t10 => (if i7 = 24 then (px_v0 vs8 (px_bv (f_M_flushVolume_28 K N s9 t10) (fun s14 t15 => (px_bv (f_M_three_28_44 K N (s14.1 36) (0 : Int32) (0 : Int32) s14 t15) (fun s19 t20 => (px_bv (f_M_writeVolume_28_44 K N (0 : Int32) (0 : Int32) s19 t20) (fun s24 t25 => (px_bv (f_M_flushVolume_28 K N s24 t25) (fun s29 t30 => (px_lp (l_M_bringHome_28_44 K N N (0 : Int32) s29 t30) (fun i34 vs35 s36 t37 => (if i34 = 54 then (px_v0 vs35 (px_let (sR s36 37 (1 : Int32)) (fun s41 => (some (.inl none, s41, t37))))) else none)) (fun z39 => some z39))) (fun x33 s29 t30 => none))) (fun x28 s24 t25 => none))) (fun x23 s19 t20 => none))) (fun x18 s14 t15 => none))) else none)) (fun z12 => some z12)) else (some (.inl none, s1, t2)))) (fun x5 s1 t2 => none))
set_option maxRecDepth 100000 in
theorem e_M_bringHome_28 (K : px_K) (N : Nat) (s : px_S) (t : px_W) (r : px_Res) (h : f_M_bringHome_28 K N s t = some r) : px_E px_ET px_P 10 73 0 (px_ent 2 [.ref 28]) [] (px_w K s t) r.1 (px_w K r.2.1 r.2.2) := by
  have hM : px_P[73]? = some pm_M_bringHome := rfl
  unfold f_M_bringHome_28 at h
  refine px_blk (i' := 1) (L' := [some (.ref 28), none]) (S' := [.ref 28]) (w' := px_w K s t) (q := []) 1 hM rfl trivial ?_
  rcases px_bi_some h with ⟨v4, s1, t2, hk3, h⟩ | ⟨x5, s1, t2, hk3, h⟩
  · refine px_E_call hM rfl rfl rfl rfl (px_E_mono (by decide) (e_M_keeps_28 K N s t _ hk3)) ?_
    refine px_blkif (c := ¬ v4 = 0) (t := 4) (e := 3) (L' := [some (.ref 28), none]) (S' := []) (w' := px_w K s1 t2) (q := []) 1 hM rfl trivial (fun hc6 => ?_) (fun hc6 => ?_)
    · rw [if_pos hc6] at h
      refine px_blk (i' := 6) (L' := [some (.ref 28), some (.int (0 : Int32))]) (S' := []) (w' := px_w K s1 t2) (q := []) 2 hM rfl trivial ?_
      rcases px_lp_some h with ⟨i7, vs8, s9, t10, hl11, h⟩ | ⟨z12, hl11, h⟩
      · by_cases hi13 : i7 = 24
        · subst hi13
          rw [if_pos rfl] at h
          have h9 := px_v0_some h
          clear h
          obtain ⟨rfl, h⟩ := h9
          refine e_l_M_bringHome_28_6 K N N (0 : Int32) s1 t2 _ hl11 _ _ ?_
          show px_E px_ET px_P 10 73 24 [some (.ref 28), none] [] (px_w K s9 t10) _ _
          refine px_blk (i' := 25) (L' := [some (.ref 28), none]) (S' := [.ref 28]) (w' := px_w K s9 t10) (q := []) 1 hM rfl trivial ?_
          rcases px_bv_some h with ⟨s14, t15, hk16, h⟩ | ⟨x18, s14, t15, hk16, h⟩
          · refine px_E_call hM rfl rfl rfl rfl (px_E_mono (by decide) (e_M_flushVolume_28 K N s9 t10 _ hk16)) ?_
            refine px_blk (i' := 33) (L' := [some (.ref 28), none]) (S' := [.int (0 : Int32), .int (0 : Int32), .int (s14.1 36), .ref 44, .ref 28]) (w' := px_w K s14 t15) (q := []) 7 hM rfl trivial ?_
            rcases px_bv_some h with ⟨s19, t20, hk21, h⟩ | ⟨x23, s19, t20, hk21, h⟩
            · refine px_E_call hM rfl rfl rfl rfl (px_E_mono (by decide) (e_M_three_28_44 K N (s14.1 36) (0 : Int32) (0 : Int32) s14 t15 _ hk21)) ?_
              refine px_blk (i' := 39) (L' := [some (.ref 28), none]) (S' := [.int (0 : Int32), .ref 44, .int (0 : Int32), .ref 28]) (w' := px_w K s19 t20) (q := []) 5 hM rfl trivial ?_
              rcases px_bv_some h with ⟨s24, t25, hk26, h⟩ | ⟨x28, s24, t25, hk26, h⟩
              · refine px_E_call hM rfl rfl rfl rfl (px_E_mono (by decide) (e_M_writeVolume_28_44 K N (0 : Int32) (0 : Int32) s19 t20 _ hk26)) ?_
                refine px_blk (i' := 41) (L' := [some (.ref 28), none]) (S' := [.ref 28]) (w' := px_w K s24 t25) (q := []) 1 hM rfl trivial ?_
                rcases px_bv_some h with ⟨s29, t30, hk31, h⟩ | ⟨x33, s29, t30, hk31, h⟩
                · refine px_E_call hM rfl rfl rfl rfl (px_E_mono (by decide) (e_M_flushVolume_28 K N s24 t25 _ hk31)) ?_
                  refine px_blk (i' := 44) (L' := [some (.ref 28), some (.int (0 : Int32))]) (S' := []) (w' := px_w K s29 t30) (q := []) 2 hM rfl trivial ?_
                  rcases px_lp_some h with ⟨i34, vs35, s36, t37, hl38, h⟩ | ⟨z39, hl38, h⟩
                  · by_cases hi40 : i34 = 54
                    · subst hi40
                      rw [if_pos rfl] at h
                      have h9 := px_v0_some h
                      clear h
                      obtain ⟨rfl, h⟩ := h9
                      refine e_l_M_bringHome_28_44 K N N (0 : Int32) s29 t30 _ hl38 _ _ ?_
                      show px_E px_ET px_P 10 73 54 [some (.ref 28), none] [] (px_w K s36 t37) _ _
                      refine px_blk (i' := 57) (L' := [some (.ref 28), none]) (S' := []) (w' := px_w K (sR s36 37 (1 : Int32)) t37) (q := []) 3 hM rfl trivial ?_
                      obtain ⟨s41, hs42, h⟩ := px_let_some h
                      rw [← hs42]
                      cases h
                      exact px_E_ret hM rfl rfl rfl trivial
                    · rw [if_neg hi40] at h
                      cases h
                  · cases h
                    exact e_l_M_bringHome_28_44 K N N (0 : Int32) s29 t30 _ hl38 _ _ ⟨rfl, rfl⟩
                · cases h
              · cases h
            · cases h
          · cases h
        · rw [if_neg hi13] at h
          cases h
      · cases h
        exact e_l_M_bringHome_28_6 K N N (0 : Int32) s1 t2 _ hl11 _ _ ⟨rfl, rfl⟩
    · rw [if_neg hc6] at h
      cases h
      exact px_E_ret hM rfl rfl rfl trivial
  · cases h
noncomputable def l_M_commit_28_28 (K : px_K) (N : Nat) (n : Nat) (m2 : Int32) (m3 : Int32) (s : px_S) (t : px_W) : Option px_LO := match n with
  | 0 => none
  | n + 1 => (if (106 : Int32) ≤ m3 then (some (.inl (70, [], s, t))) else (px_gd (vp_in m3 (K.2.2 41)) (if ¬ ((s.2.2.1 41) m3.toNatClampNeg) = 0 then (px_gd (vp_in ((3 : Int32) + m2) (K.2.2 44)) (px_let (sA s 44 ((3 : Int32) + m2).toNatClampNeg m3) (fun s5 => (px_gd (vp_in (15 : Int32) (K.2.2 44)) (px_bi (f_M_word_28 K N m3 (0 : Int32) s5 t) (fun v11 s8 t9 => (px_bi (f_M_isEscaped K N v11 s8 t9) (fun v16 s13 t14 => (if v16 = 0 then (px_gd (vp_in (15 : Int32) (K.2.2 44)) (px_let (sA s13 44 (15 : Int32).toNatClampNeg (((s5.2.2.1 44) (15 : Int32).toNatClampNeg) + (0 : Int32))) (fun s20 => (l_M_commit_28_28 K N n (m2 + (1 : Int32)) (m3 + (1 : Int32)) s20 t14)))) else (px_bi (f_M_word_28 K N m3 (0 : Int32) s13 t14) (fun v25 s22 t23 => (px_gd (vp_in (15 : Int32) (K.2.2 44)) (px_let (sA s22 44 (15 : Int32).toNatClampNeg (((s5.2.2.1 44) (15 : Int32).toNatClampNeg) + (v25 <<< (((2 : Int32) * m2) &&& 31)))) (fun s28 => (l_M_commit_28_28 K N n (m2 + (1 : Int32)) (m3 + (1 : Int32)) s28 t23))))) (fun x26 s22 t23 => none)))) (fun x17 s13 t14 => none))) (fun x12 s8 t9 => none)))))) else (l_M_commit_28_28 K N n m2 (m3 + (1 : Int32)) s t))))
def a_l_M_commit_28_28 (K : px_K) (z : px_LO) (o : Option Value ⊕ Nat) (w2 : px_W) : Prop := match z with
  | .inr (o', s', t') => o = o' ∧ w2 = px_w K s' t'
  | .inl (70, [], s', t') => px_E px_ET px_P 11 72 70 [some (.ref 28), none, none, none, none] [] (px_w K s' t') o w2
  | _ => False
noncomputable def l_M_commit_28_96 (K : px_K) (N : Nat) (n : Nat) (u3 : Int32) (m4 : Int32) (s : px_S) (t : px_W) : Option px_LO := match n with
  | 0 => none
  | n + 1 => (if (16 : Int32) ≤ m4 then (some (.inl (131, [], s, t))) else (px_bi (f_M_word_28 K N u3 m4 s t) (fun v5 s2 t3 => (px_gd (vp_in (((16 : Int32) * u3) + m4) (K.2.2 40)) (px_let (sA s2 40 (((16 : Int32) * u3) + m4).toNatClampNeg v5) (fun s8 => (if ¬ m4 = 0 then (px_bi (f_M_word_28 K N u3 m4 s8 t3) (fun v14 s11 t12 => (px_gd (vp_in m4 (K.2.2 44)) (px_let (sA s11 44 m4.toNatClampNeg v14) (fun s17 => (l_M_commit_28_96 K N n u3 (m4 + (1 : Int32)) s17 t12))))) (fun x15 s11 t12 => none)) else (px_bi (f_M_word_28 K N u3 m4 s8 t3) (fun v22 s19 t20 => (px_bi (f_M_isEscaped K N v22 s19 t20) (fun v27 s24 t25 => (if v27 = 0 then (px_bi (f_M_word_28 K N u3 m4 s24 t25) (fun v33 s30 t31 => (px_gd (vp_in m4 (K.2.2 44)) (px_let (sA s30 44 m4.toNatClampNeg v33) (fun s36 => (l_M_commit_28_96 K N n u3 (m4 + (1 : Int32)) s36 t31))))) (fun x34 s30 t31 => none)) else (px_gd (vp_in m4 (K.2.2 44)) (px_let (sA s24 44 m4.toNatClampNeg (0 : Int32)) (fun s39 => (l_M_commit_28_96 K N n u3 (m4 + (1 : Int32)) s39 t25)))))) (fun x28 s24 t25 => none))) (fun x23 s19 t20 => none))))))) (fun x6 s2 t3 => none)))
def a_l_M_commit_28_96 (K : px_K) (u3 : Int32) (z : px_LO) (o : Option Value ⊕ Nat) (w2 : px_W) : Prop := match z with
  | .inr (o', s', t') => o = o' ∧ w2 = px_w K s' t'
  | .inl (131, [], s', t') => px_E px_ET px_P 11 72 131 [some (.ref 28), none, none, some (.int u3), none] [] (px_w K s' t') o w2
  | _ => False
noncomputable def l_M_commit_28_79 (K : px_K) (N : Nat) (n : Nat) (m3 : Int32) (s : px_S) (t : px_W) : Option px_LO := match n with
  | 0 => none
  | n + 1 => (if (106 : Int32) ≤ m3 then (some (.inl (150, [], s, t))) else (px_gd (vp_in m3 (K.2.2 41)) (if ¬ ((s.2.2.1 41) m3.toNatClampNeg) = 0 then (px_let (sR s 37 ((s.1 37) + (1 : Int32))) (fun s4 => (px_lp (l_M_commit_28_96 K N N m3 (0 : Int32) s4 t) (fun i6 vs7 s8 t9 => (if i6 = 131 then (px_v0 vs7 (px_bv (f_M_writeVolume_28_44 K N (s8.1 37) (0 : Int32) s8 t9) (fun s13 t14 => (px_gd (vp_in m3 (K.2.2 41)) (px_let (sA s13 41 m3.toNatClampNeg (0 : Int32)) (fun s19 => (px_gd (vp_in m3 (K.2.2 42)) (px_let (sA s19 42 m3.toNatClampNeg (1 : Int32)) (fun s22 => (l_M_commit_28_79 K N n (m3 + (1 : Int32)) s22 t14)))))))) (fun x17 s13 t14 => none))) else none)) (fun z11 => some (.inr z11))))) else (l_M_commit_28_79 K N n (m3 + (1 : Int32)) s t))))
def a_l_M_commit_28_79 (K : px_K) (z : px_LO) (o : Option Value ⊕ Nat) (w2 : px_W) : Prop := match z with
  | .inr (o', s', t') => o = o' ∧ w2 = px_w K s' t'
  | .inl (150, [], s', t') => px_E px_ET px_P 11 72 150 [some (.ref 28), none, none, none, none] [] (px_w K s' t') o w2
  | _ => False
set_option maxRecDepth 100000 in
theorem e_l_M_commit_28_28 (K : px_K) (N : Nat) : ∀ (n : Nat) (m2 : Int32) (m3 : Int32) (s : px_S) (t : px_W) (z : px_LO), l_M_commit_28_28 K N n m2 m3 s t = some z → ∀ (o : Option Value ⊕ Nat) (w2 : px_W), a_l_M_commit_28_28 K z o w2 → px_E px_ET px_P 11 72 28 [some (.ref 28), none, some (.int m2), some (.int m3), none] [] (px_w K s t) o w2 := by
  have hM : px_P[72]? = some pm_M_commit := rfl
  intro n
  induction n with
  | zero => intro m2 m3 s t z h; cases h
  | succ n ih =>
    intro m2 m3 s t z h o w2 ha
    unfold l_M_commit_28_28 at h
    refine px_blkif (c := (106 : Int32) ≤ m3) (t := 70) (e := 31) (L' := [some (.ref 28), none, some (.int m2), some (.int m3), none]) (S' := []) (w' := px_w K s t) (q := []) 3 hM rfl trivial (fun hc1 => ?_) (fun hc1 => ?_)
    · rw [if_pos hc1] at h
      cases h
      exact px_E_le (px_leC_L _ _ (by simp [px_leC, px_le1, Value.category])) ha
    · rw [if_neg hc1] at h
      obtain ⟨hq2, h⟩ := px_gd_some h
      refine px_blkif (c := ¬ ((s.2.2.1 41) m3.toNatClampNeg) = 0) (t := 37) (e := 36) (L' := [some (.ref 28), none, some (.int m2), some (.int m3), none]) (S' := []) (w' := px_w K s t) (q := [vp_in m3 (K.2.2 41)]) 5 hM rfl (show vp_in m3 (K.2.2 41) from hq2) (fun hc3 => ?_) (fun hc3 => ?_)
      · rw [if_pos hc3] at h
        obtain ⟨hq4, h⟩ := px_gd_some h
        refine px_blk (i' := 44) (L' := [some (.ref 28), none, some (.int m2), some (.int m3), none]) (S' := []) (w' := px_w K (sA s 44 ((3 : Int32) + m2).toNatClampNeg m3) t) (q := [vp_in ((3 : Int32) + m2) (K.2.2 44)]) 7 hM rfl (show vp_in ((3 : Int32) + m2) (K.2.2 44) from hq4) ?_
        obtain ⟨s5, hs6, h⟩ := px_let_some h
        rw [← hs6]
        obtain ⟨hq7, h⟩ := px_gd_some h
        refine px_blk (i' := 52) (L' := [some (.ref 28), none, some (.int m2), some (.int m3), none]) (S' := [.int (0 : Int32), .int m3, .ref 28, .int ((s5.2.2.1 44) (15 : Int32).toNatClampNeg), .int (15 : Int32), .ref 44]) (w' := px_w K s5 t) (q := [vp_in (15 : Int32) (K.2.2 44)]) 8 hM rfl (show vp_in (15 : Int32) (K.2.2 44) from hq7) ?_
        rcases px_bi_some h with ⟨v11, s8, t9, hk10, h⟩ | ⟨x12, s8, t9, hk10, h⟩
        · refine px_E_call hM rfl rfl rfl rfl (px_E_mono (by decide) (e_M_word_28 K N m3 (0 : Int32) s5 t _ hk10)) ?_
          rcases px_bi_some h with ⟨v16, s13, t14, hk15, h⟩ | ⟨x17, s13, t14, hk15, h⟩
          · refine px_E_call hM rfl rfl rfl rfl (px_E_mono (by decide) (e_M_isEscaped K N v11 s8 t9 _ hk15)) ?_
            refine px_blkif (c := v16 = 0) (t := 64) (e := 55) (L' := [some (.ref 28), none, some (.int m2), some (.int m3), none]) (S' := [.int ((s5.2.2.1 44) (15 : Int32).toNatClampNeg), .int (15 : Int32), .ref 44]) (w' := px_w K s13 t14) (q := []) 1 hM rfl trivial (fun hc18 => ?_) (fun hc18 => ?_)
            · rw [if_pos hc18] at h
              obtain ⟨hq19, h⟩ := px_gd_some h
              refine px_blk (i' := 67) (L' := [some (.ref 28), none, some (.int m2), some (.int m3), none]) (S' := []) (w' := px_w K (sA s13 44 (15 : Int32).toNatClampNeg (((s5.2.2.1 44) (15 : Int32).toNatClampNeg) + (0 : Int32))) t14) (q := [vp_in (15 : Int32) (K.2.2 44)]) 3 hM rfl (show vp_in (15 : Int32) (K.2.2 44) from hq19) ?_
              obtain ⟨s20, hs21, h⟩ := px_let_some h
              rw [← hs21]
              refine px_blk (i' := 28) (L' := [some (.ref 28), none, some (.int (m2 + (1 : Int32))), some (.int (m3 + (1 : Int32))), none]) (S' := []) (w' := px_w K s20 t14) (q := []) 3 hM rfl trivial ?_
              exact ih (m2 + (1 : Int32)) (m3 + (1 : Int32)) s20 t14 z h o w2 ha
            · rw [if_neg hc18] at h
              refine px_blk (i' := 58) (L' := [some (.ref 28), none, some (.int m2), some (.int m3), none]) (S' := [.int (0 : Int32), .int m3, .ref 28, .int ((s5.2.2.1 44) (15 : Int32).toNatClampNeg), .int (15 : Int32), .ref 44]) (w' := px_w K s13 t14) (q := []) 3 hM rfl trivial ?_
              rcases px_bi_some h with ⟨v25, s22, t23, hk24, h⟩ | ⟨x26, s22, t23, hk24, h⟩
              · refine px_E_call hM rfl rfl rfl rfl (px_E_mono (by decide) (e_M_word_28 K N m3 (0 : Int32) s13 t14 _ hk24)) ?_
                obtain ⟨hq27, h⟩ := px_gd_some h
                refine px_blk (i' := 67) (L' := [some (.ref 28), none, some (.int m2), some (.int m3), none]) (S' := []) (w' := px_w K (sA s22 44 (15 : Int32).toNatClampNeg (((s5.2.2.1 44) (15 : Int32).toNatClampNeg) + (v25 <<< (((2 : Int32) * m2) &&& 31)))) t23) (q := [vp_in (15 : Int32) (K.2.2 44)]) 7 hM rfl (show vp_in (15 : Int32) (K.2.2 44) from hq27) ?_
                obtain ⟨s28, hs29, h⟩ := px_let_some h
                rw [← hs29]
                refine px_blk (i' := 28) (L' := [some (.ref 28), none, some (.int (m2 + (1 : Int32))), some (.int (m3 + (1 : Int32))), none]) (S' := []) (w' := px_w K s28 t23) (q := []) 3 hM rfl trivial ?_
                exact ih (m2 + (1 : Int32)) (m3 + (1 : Int32)) s28 t23 z h o w2 ha
              · cases h
          · cases h
        · cases h
      · rw [if_neg hc3] at h
        refine px_blk (i' := 28) (L' := [some (.ref 28), none, some (.int m2), some (.int (m3 + (1 : Int32))), none]) (S' := []) (w' := px_w K s t) (q := []) 3 hM rfl trivial ?_
        exact ih m2 (m3 + (1 : Int32)) s t z h o w2 ha
set_option maxRecDepth 100000 in
theorem e_l_M_commit_28_96 (K : px_K) (N : Nat) (u3 : Int32) : ∀ (n : Nat) (m4 : Int32) (s : px_S) (t : px_W) (z : px_LO), l_M_commit_28_96 K N n u3 m4 s t = some z → ∀ (o : Option Value ⊕ Nat) (w2 : px_W), a_l_M_commit_28_96 K u3 z o w2 → px_E px_ET px_P 11 72 96 [some (.ref 28), none, none, some (.int u3), some (.int m4)] [] (px_w K s t) o w2 := by
  have hM : px_P[72]? = some pm_M_commit := rfl
  intro n
  induction n with
  | zero => intro m4 s t z h; cases h
  | succ n ih =>
    intro m4 s t z h o w2 ha
    unfold l_M_commit_28_96 at h
    refine px_blkif (c := (16 : Int32) ≤ m4) (t := 131) (e := 99) (L' := [some (.ref 28), none, none, some (.int u3), some (.int m4)]) (S' := []) (w' := px_w K s t) (q := []) 3 hM rfl trivial (fun hc1 => ?_) (fun hc1 => ?_)
    · rw [if_pos hc1] at h
      cases h
      exact px_E_le (px_leC_L _ _ (by simp [px_leC, px_le1, Value.category])) ha
    · rw [if_neg hc1] at h
      refine px_blk (i' := 109) (L' := [some (.ref 28), none, none, some (.int u3), some (.int m4)]) (S' := [.int m4, .int u3, .ref 28, .int (((16 : Int32) * u3) + m4), .ref 40]) (w' := px_w K s t) (q := []) 10 hM rfl trivial ?_
      rcases px_bi_some h with ⟨v5, s2, t3, hk4, h⟩ | ⟨x6, s2, t3, hk4, h⟩
      · refine px_E_call hM rfl rfl rfl rfl (px_E_mono (by decide) (e_M_word_28 K N u3 m4 s t _ hk4)) ?_
        obtain ⟨hq7, h⟩ := px_gd_some h
        refine px_blk (i' := 111) (L' := [some (.ref 28), none, none, some (.int u3), some (.int m4)]) (S' := []) (w' := px_w K (sA s2 40 (((16 : Int32) * u3) + m4).toNatClampNeg v5) t3) (q := [vp_in (((16 : Int32) * u3) + m4) (K.2.2 40)]) 1 hM rfl (show vp_in (((16 : Int32) * u3) + m4) (K.2.2 40) from hq7) ?_
        obtain ⟨s8, hs9, h⟩ := px_let_some h
        rw [← hs9]
        refine px_blkif (c := ¬ m4 = 0) (t := 124) (e := 116) (L' := [some (.ref 28), none, none, some (.int u3), some (.int m4)]) (S' := [.int m4, .ref 44]) (w' := px_w K s8 t3) (q := []) 5 hM rfl trivial (fun hc10 => ?_) (fun hc10 => ?_)
        · rw [if_pos hc10] at h
          refine px_blk (i' := 127) (L' := [some (.ref 28), none, none, some (.int u3), some (.int m4)]) (S' := [.int m4, .int u3, .ref 28, .int m4, .ref 44]) (w' := px_w K s8 t3) (q := []) 3 hM rfl trivial ?_
          rcases px_bi_some h with ⟨v14, s11, t12, hk13, h⟩ | ⟨x15, s11, t12, hk13, h⟩
          · refine px_E_call hM rfl rfl rfl rfl (px_E_mono (by decide) (e_M_word_28 K N u3 m4 s8 t3 _ hk13)) ?_
            obtain ⟨hq16, h⟩ := px_gd_some h
            refine px_blk (i' := 129) (L' := [some (.ref 28), none, none, some (.int u3), some (.int m4)]) (S' := []) (w' := px_w K (sA s11 44 m4.toNatClampNeg v14) t12) (q := [vp_in m4 (K.2.2 44)]) 1 hM rfl (show vp_in m4 (K.2.2 44) from hq16) ?_
            obtain ⟨s17, hs18, h⟩ := px_let_some h
            rw [← hs18]
            refine px_blk (i' := 96) (L' := [some (.ref 28), none, none, some (.int u3), some (.int (m4 + (1 : Int32)))]) (S' := []) (w' := px_w K s17 t12) (q := []) 2 hM rfl trivial ?_
            exact ih (m4 + (1 : Int32)) s17 t12 z h o w2 ha
          · cases h
        · rw [if_neg hc10] at h
          refine px_blk (i' := 119) (L' := [some (.ref 28), none, none, some (.int u3), some (.int m4)]) (S' := [.int m4, .int u3, .ref 28, .int m4, .ref 44]) (w' := px_w K s8 t3) (q := []) 3 hM rfl trivial ?_
          rcases px_bi_some h with ⟨v22, s19, t20, hk21, h⟩ | ⟨x23, s19, t20, hk21, h⟩
          · refine px_E_call hM rfl rfl rfl rfl (px_E_mono (by decide) (e_M_word_28 K N u3 m4 s8 t3 _ hk21)) ?_
            rcases px_bi_some h with ⟨v27, s24, t25, hk26, h⟩ | ⟨x28, s24, t25, hk26, h⟩
            · refine px_E_call hM rfl rfl rfl rfl (px_E_mono (by decide) (e_M_isEscaped K N v22 s19 t20 _ hk26)) ?_
              refine px_blkif (c := v27 = 0) (t := 124) (e := 122) (L' := [some (.ref 28), none, none, some (.int u3), some (.int m4)]) (S' := [.int m4, .ref 44]) (w' := px_w K s24 t25) (q := []) 1 hM rfl trivial (fun hc29 => ?_) (fun hc29 => ?_)
              · rw [if_pos hc29] at h
                refine px_blk (i' := 127) (L' := [some (.ref 28), none, none, some (.int u3), some (.int m4)]) (S' := [.int m4, .int u3, .ref 28, .int m4, .ref 44]) (w' := px_w K s24 t25) (q := []) 3 hM rfl trivial ?_
                rcases px_bi_some h with ⟨v33, s30, t31, hk32, h⟩ | ⟨x34, s30, t31, hk32, h⟩
                · refine px_E_call hM rfl rfl rfl rfl (px_E_mono (by decide) (e_M_word_28 K N u3 m4 s24 t25 _ hk32)) ?_
                  obtain ⟨hq35, h⟩ := px_gd_some h
                  refine px_blk (i' := 129) (L' := [some (.ref 28), none, none, some (.int u3), some (.int m4)]) (S' := []) (w' := px_w K (sA s30 44 m4.toNatClampNeg v33) t31) (q := [vp_in m4 (K.2.2 44)]) 1 hM rfl (show vp_in m4 (K.2.2 44) from hq35) ?_
                  obtain ⟨s36, hs37, h⟩ := px_let_some h
                  rw [← hs37]
                  refine px_blk (i' := 96) (L' := [some (.ref 28), none, none, some (.int u3), some (.int (m4 + (1 : Int32)))]) (S' := []) (w' := px_w K s36 t31) (q := []) 2 hM rfl trivial ?_
                  exact ih (m4 + (1 : Int32)) s36 t31 z h o w2 ha
                · cases h
              · rw [if_neg hc29] at h
                obtain ⟨hq38, h⟩ := px_gd_some h
                refine px_blk (i' := 129) (L' := [some (.ref 28), none, none, some (.int u3), some (.int m4)]) (S' := []) (w' := px_w K (sA s24 44 m4.toNatClampNeg (0 : Int32)) t25) (q := [vp_in m4 (K.2.2 44)]) 3 hM rfl (show vp_in m4 (K.2.2 44) from hq38) ?_
                obtain ⟨s39, hs40, h⟩ := px_let_some h
                rw [← hs40]
                refine px_blk (i' := 96) (L' := [some (.ref 28), none, none, some (.int u3), some (.int (m4 + (1 : Int32)))]) (S' := []) (w' := px_w K s39 t25) (q := []) 2 hM rfl trivial ?_
                exact ih (m4 + (1 : Int32)) s39 t25 z h o w2 ha
            · cases h
          · cases h
      · cases h
set_option maxRecDepth 100000 in
theorem e_l_M_commit_28_79 (K : px_K) (N : Nat) : ∀ (n : Nat) (m3 : Int32) (s : px_S) (t : px_W) (z : px_LO), l_M_commit_28_79 K N n m3 s t = some z → ∀ (o : Option Value ⊕ Nat) (w2 : px_W), a_l_M_commit_28_79 K z o w2 → px_E px_ET px_P 11 72 79 [some (.ref 28), none, none, some (.int m3), none] [] (px_w K s t) o w2 := by
  have hM : px_P[72]? = some pm_M_commit := rfl
  intro n
  induction n with
  | zero => intro m3 s t z h; cases h
  | succ n ih =>
    intro m3 s t z h o w2 ha
    unfold l_M_commit_28_79 at h
    refine px_blkif (c := (106 : Int32) ≤ m3) (t := 150) (e := 82) (L' := [some (.ref 28), none, none, some (.int m3), none]) (S' := []) (w' := px_w K s t) (q := []) 3 hM rfl trivial (fun hc1 => ?_) (fun hc1 => ?_)
    · rw [if_pos hc1] at h
      cases h
      exact px_E_le (px_leC_L _ _ (by simp [px_leC, px_le1, Value.category])) ha
    · rw [if_neg hc1] at h
      obtain ⟨hq2, h⟩ := px_gd_some h
      refine px_blkif (c := ¬ ((s.2.2.1 41) m3.toNatClampNeg) = 0) (t := 88) (e := 87) (L' := [some (.ref 28), none, none, some (.int m3), none]) (S' := []) (w' := px_w K s t) (q := [vp_in m3 (K.2.2 41)]) 5 hM rfl (show vp_in m3 (K.2.2 41) from hq2) (fun hc3 => ?_) (fun hc3 => ?_)
      · rw [if_pos hc3] at h
        refine px_blk (i' := 94) (L' := [some (.ref 28), none, none, some (.int m3), none]) (S' := []) (w' := px_w K (sR s 37 ((s.1 37) + (1 : Int32))) t) (q := []) 6 hM rfl trivial ?_
        obtain ⟨s4, hs5, h⟩ := px_let_some h
        rw [← hs5]
        refine px_blk (i' := 96) (L' := [some (.ref 28), none, none, some (.int m3), some (.int (0 : Int32))]) (S' := []) (w' := px_w K s4 t) (q := []) 2 hM rfl trivial ?_
        rcases px_lp_some h with ⟨i6, vs7, s8, t9, hl10, h⟩ | ⟨z11, hl10, h⟩
        · by_cases hi12 : i6 = 131
          · subst hi12
            rw [if_pos rfl] at h
            have h9 := px_v0_some h
            clear h
            obtain ⟨rfl, h⟩ := h9
            refine e_l_M_commit_28_96 K N m3 N (0 : Int32) s4 t _ hl10 _ _ ?_
            show px_E px_ET px_P 11 72 131 [some (.ref 28), none, none, some (.int m3), none] [] (px_w K s8 t9) _ _
            refine px_blk (i' := 137) (L' := [some (.ref 28), none, none, some (.int m3), none]) (S' := [.int (0 : Int32), .ref 44, .int (s8.1 37), .ref 28]) (w' := px_w K s8 t9) (q := []) 6 hM rfl trivial ?_
            rcases px_bv_some h with ⟨s13, t14, hk15, h⟩ | ⟨x17, s13, t14, hk15, h⟩
            · refine px_E_call hM rfl rfl rfl rfl (px_E_mono (by decide) (e_M_writeVolume_28_44 K N (s8.1 37) (0 : Int32) s8 t9 _ hk15)) ?_
              obtain ⟨hq18, h⟩ := px_gd_some h
              refine px_blk (i' := 143) (L' := [some (.ref 28), none, none, some (.int m3), none]) (S' := []) (w' := px_w K (sA s13 41 m3.toNatClampNeg (0 : Int32)) t14) (q := [vp_in m3 (K.2.2 41), (0 : Int32) = 0 ∨ (0 : Int32) = 1]) 5 hM rfl (show (vp_in m3 (K.2.2 41)) ∧ ((0 : Int32) = 0 ∨ (0 : Int32) = 1) from ⟨hq18, Or.inl rfl⟩) ?_
              obtain ⟨s19, hs20, h⟩ := px_let_some h
              rw [← hs20]
              obtain ⟨hq21, h⟩ := px_gd_some h
              refine px_blk (i' := 148) (L' := [some (.ref 28), none, none, some (.int m3), none]) (S' := []) (w' := px_w K (sA s19 42 m3.toNatClampNeg (1 : Int32)) t14) (q := [vp_in m3 (K.2.2 42), (1 : Int32) = 0 ∨ (1 : Int32) = 1]) 5 hM rfl (show (vp_in m3 (K.2.2 42)) ∧ ((1 : Int32) = 0 ∨ (1 : Int32) = 1) from ⟨hq21, Or.inr rfl⟩) ?_
              obtain ⟨s22, hs23, h⟩ := px_let_some h
              rw [← hs23]
              refine px_blk (i' := 79) (L' := [some (.ref 28), none, none, some (.int (m3 + (1 : Int32))), none]) (S' := []) (w' := px_w K s22 t14) (q := []) 2 hM rfl trivial ?_
              exact ih (m3 + (1 : Int32)) s22 t14 z h o w2 ha
            · cases h
          · rw [if_neg hi12] at h
            cases h
        · cases h
          obtain ⟨rfl, rfl⟩ := ha
          exact e_l_M_commit_28_96 K N m3 N (0 : Int32) s4 t _ hl10 _ _ ⟨rfl, rfl⟩
      · rw [if_neg hc3] at h
        refine px_blk (i' := 79) (L' := [some (.ref 28), none, none, some (.int (m3 + (1 : Int32))), none]) (S' := []) (w' := px_w K s t) (q := []) 3 hM rfl trivial ?_
        exact ih (m3 + (1 : Int32)) s t z h o w2 ha
noncomputable def f_M_commit_28 (K : px_K) (N : Nat) (s : px_S) (t : px_W) : Option px_Res :=
  (px_bi (f_M_changes_28 K N s t) (fun v4 s1 t2 => (if ¬ v4 = 0 then (if (v4 + (2 : Int32)) ≤ ((29 : Int32) - (s1.1 37)) then (px_bv (f_M_three_28_44 K N (1 : Int32) (s1.1 36) v4 s1 t2) (fun s8 t9 => (px_lp (l_M_commit_28_28 K N N (0 : Int32) (0 : Int32) s8 t9) (fun i13 vs14 s15 t16 => (if i13 = 70 then (px_v0 vs14 (px_bv (f_M_writeVolume_28_44 K N (s15.1 37) (0 : Int32) s15 t16) (fun s20 t21 => (px_lp (l_M_commit_28_79 K N N (0 : Int32) s20 t21) (fun i25 vs26 s27 t28 => (if i25 = 150 then (px_v0 vs26 (px_let (sR s27 37 ((s27.1 37) + (1 : Int32))) (fun s32 => (px_bv (f_M_flushVolume_28 K N s32 t28) (fun s34 t35 => (px_bv (f_M_three_28_44 K N (2 : Int32) (s34.1 36) (0 : Int32) s34 t35) (fun s39 t40 => (px_bv (f_M_writeVolume_28_44 K N (s39.1 37) (0 : Int32) s39 t40) (fun s44 t45 => (px_let (sR s44 37 ((s44.1 37) + (1 : Int32))) (fun s49 => (px_bv (f_M_flushVolume_28 K N s49 t45) (fun s51 t52 => (px_let (sR s51 36 ((s51.1 36) + (1 : Int32))) (fun s56 => (some (.inl none, s56, t52))))) (fun x55 s51 t52 => none))))) (fun x48 s44 t45 => none))) (fun x43 s39 t40 => none))) (fun x38 s34 t35 => none))))) else none)) (fun z30 => some z30))) (fun x24 s20 t21 => none))) else none)) (fun z18 => some z18))) (fun x12 s8 t9 => none)) else (px_bv (f_M_bringHome_28 K N s1 t2) (fun s58 t59 => (px_bv (f_M_three_28_44 K N (1 : Int32) (s58.1 36) v4 s58 t59) (fun s63 t64 => (px_lp (l_M_commit_28_28 K N N (0 : Int32) (0 : Int32) s63 t64) (fun i68 vs69 s70 t71 => (if i68 = 70 then (px_v0 vs69 (px_bv (f_M_writeVolume_28_44 K N (s70.1 37) (0 : Int32) s70 t71) (fun s75 t76 => (px_lp (l_M_commit_28_79 K N N (0 : Int32) s75 t76) (fun i80 vs81 s82 t83 => (if i80 = 150 then (px_v0 vs81 (px_let (sR s82 37 ((s82.1 37) + (1 : Int32))) (fun s87 => (px_bv (f_M_flushVolume_28 K N s87 t83) (fun s89 t90 => (px_bv (f_M_three_28_44 K N (2 : Int32) (s89.1 36) (0 : Int32) s89 t90) (fun s94 t95 => (px_bv (f_M_writeVolume_28_44 K N (s94.1 37) (0 : Int32) s94 t95) (fun s99 t100 => (px_let (sR s99 37 ((s99.1 37) + (1 : Int32))) (fun s104 => (px_bv (f_M_flushVolume_28 K N s104 t100) (fun s106 t107 => (px_let (sR s106 36 ((s106.1 36) + (1 : Int32))) (fun s111 => (some (.inl none, s111, t107))))) (fun x110 s106 t107 => none))))) (fun x103 s99 t100 => none))) (fun x98 s94 t95 => none))) (fun x93 s89 t90 => none))))) else none)) (fun z85 => some z85))) (fun x79 s75 t76 => none))) else none)) (fun z73 => some z73))) (fun x67 s63 t64 => none))) (fun x62 s58 t59 => none))) else (some (.inl none, s1, t2)))) (fun x5 s1 t2 => none))
set_option maxRecDepth 100000 in
theorem e_M_commit_28 (K : px_K) (N : Nat) (s : px_S) (t : px_W) (r : px_Res) (h : f_M_commit_28 K N s t = some r) : px_E px_ET px_P 11 72 0 (px_ent 5 [.ref 28]) [] (px_w K s t) r.1 (px_w K r.2.1 r.2.2) := by
  have hM : px_P[72]? = some pm_M_commit := rfl
  unfold f_M_commit_28 at h
  refine px_blk (i' := 1) (L' := [some (.ref 28), none, none, none, none]) (S' := [.ref 28]) (w' := px_w K s t) (q := []) 1 hM rfl trivial ?_
  rcases px_bi_some h with ⟨v4, s1, t2, hk3, h⟩ | ⟨x5, s1, t2, hk3, h⟩
  · refine px_E_call hM rfl rfl rfl rfl (px_E_mono (by decide) (e_M_changes_28 K N s t _ hk3)) ?_
    refine px_blkif (c := ¬ v4 = 0) (t := 6) (e := 5) (L' := [some (.ref 28), some (.int v4), none, none, none]) (S' := []) (w' := px_w K s1 t2) (q := []) 3 hM rfl trivial (fun hc6 => ?_) (fun hc6 => ?_)
    · rw [if_pos hc6] at h
      refine px_blkif (c := (v4 + (2 : Int32)) ≤ ((29 : Int32) - (s1.1 37))) (t := 16) (e := 14) (L' := [some (.ref 28), some (.int v4), none, none, none]) (S' := []) (w' := px_w K s1 t2) (q := []) 8 hM rfl trivial (fun hc7 => ?_) (fun hc7 => ?_)
      · rw [if_pos hc7] at h
        refine px_blk (i' := 23) (L' := [some (.ref 28), some (.int v4), none, none, none]) (S' := [.int v4, .int (s1.1 36), .int (1 : Int32), .ref 44, .ref 28]) (w' := px_w K s1 t2) (q := []) 7 hM rfl trivial ?_
        rcases px_bv_some h with ⟨s8, t9, hk10, h⟩ | ⟨x12, s8, t9, hk10, h⟩
        · refine px_E_call hM rfl rfl rfl rfl (px_E_mono (by decide) (e_M_three_28_44 K N (1 : Int32) (s1.1 36) v4 s1 t2 _ hk10)) ?_
          refine px_blk (i' := 28) (L' := [some (.ref 28), some (.int v4), some (.int (0 : Int32)), some (.int (0 : Int32)), none]) (S' := []) (w' := px_w K s8 t9) (q := []) 4 hM rfl trivial ?_
          rcases px_lp_some h with ⟨i13, vs14, s15, t16, hl17, h⟩ | ⟨z18, hl17, h⟩
          · by_cases hi19 : i13 = 70
            · subst hi19
              rw [if_pos rfl] at h
              have h9 := px_v0_some h
              clear h
              obtain ⟨rfl, h⟩ := h9
              refine px_E_le (px_leC_L _ _ (by simp [px_leC, px_le1, Value.category])) (e_l_M_commit_28_28 K N N (0 : Int32) (0 : Int32) s8 t9 _ hl17 _ _ ?_)
              show px_E px_ET px_P 11 72 70 [some (.ref 28), none, none, none, none] [] (px_w K s15 t16) _ _
              refine px_blk (i' := 76) (L' := [some (.ref 28), none, none, none, none]) (S' := [.int (0 : Int32), .ref 44, .int (s15.1 37), .ref 28]) (w' := px_w K s15 t16) (q := []) 6 hM rfl trivial ?_
              rcases px_bv_some h with ⟨s20, t21, hk22, h⟩ | ⟨x24, s20, t21, hk22, h⟩
              · refine px_E_call hM rfl rfl rfl rfl (px_E_mono (by decide) (e_M_writeVolume_28_44 K N (s15.1 37) (0 : Int32) s15 t16 _ hk22)) ?_
                refine px_blk (i' := 79) (L' := [some (.ref 28), none, none, some (.int (0 : Int32)), none]) (S' := []) (w' := px_w K s20 t21) (q := []) 2 hM rfl trivial ?_
                rcases px_lp_some h with ⟨i25, vs26, s27, t28, hl29, h⟩ | ⟨z30, hl29, h⟩
                · by_cases hi31 : i25 = 150
                  · subst hi31
                    rw [if_pos rfl] at h
                    have h9 := px_v0_some h
                    clear h
                    obtain ⟨rfl, h⟩ := h9
                    refine e_l_M_commit_28_79 K N N (0 : Int32) s20 t21 _ hl29 _ _ ?_
                    show px_E px_ET px_P 11 72 150 [some (.ref 28), none, none, none, none] [] (px_w K s27 t28) _ _
                    refine px_blk (i' := 156) (L' := [some (.ref 28), none, none, none, none]) (S' := []) (w' := px_w K (sR s27 37 ((s27.1 37) + (1 : Int32))) t28) (q := []) 6 hM rfl trivial ?_
                    obtain ⟨s32, hs33, h⟩ := px_let_some h
                    rw [← hs33]
                    refine px_blk (i' := 157) (L' := [some (.ref 28), none, none, none, none]) (S' := [.ref 28]) (w' := px_w K s32 t28) (q := []) 1 hM rfl trivial ?_
                    rcases px_bv_some h with ⟨s34, t35, hk36, h⟩ | ⟨x38, s34, t35, hk36, h⟩
                    · refine px_E_call hM rfl rfl rfl rfl (px_E_mono (by decide) (e_M_flushVolume_28 K N s32 t28 _ hk36)) ?_
                      refine px_blk (i' := 165) (L' := [some (.ref 28), none, none, none, none]) (S' := [.int (0 : Int32), .int (s34.1 36), .int (2 : Int32), .ref 44, .ref 28]) (w' := px_w K s34 t35) (q := []) 7 hM rfl trivial ?_
                      rcases px_bv_some h with ⟨s39, t40, hk41, h⟩ | ⟨x43, s39, t40, hk41, h⟩
                      · refine px_E_call hM rfl rfl rfl rfl (px_E_mono (by decide) (e_M_three_28_44 K N (2 : Int32) (s34.1 36) (0 : Int32) s34 t35 _ hk41)) ?_
                        refine px_blk (i' := 172) (L' := [some (.ref 28), none, none, none, none]) (S' := [.int (0 : Int32), .ref 44, .int (s39.1 37), .ref 28]) (w' := px_w K s39 t40) (q := []) 6 hM rfl trivial ?_
                        rcases px_bv_some h with ⟨s44, t45, hk46, h⟩ | ⟨x48, s44, t45, hk46, h⟩
                        · refine px_E_call hM rfl rfl rfl rfl (px_E_mono (by decide) (e_M_writeVolume_28_44 K N (s39.1 37) (0 : Int32) s39 t40 _ hk46)) ?_
                          refine px_blk (i' := 179) (L' := [some (.ref 28), none, none, none, none]) (S' := []) (w' := px_w K (sR s44 37 ((s44.1 37) + (1 : Int32))) t45) (q := []) 6 hM rfl trivial ?_
                          obtain ⟨s49, hs50, h⟩ := px_let_some h
                          rw [← hs50]
                          refine px_blk (i' := 180) (L' := [some (.ref 28), none, none, none, none]) (S' := [.ref 28]) (w' := px_w K s49 t45) (q := []) 1 hM rfl trivial ?_
                          rcases px_bv_some h with ⟨s51, t52, hk53, h⟩ | ⟨x55, s51, t52, hk53, h⟩
                          · refine px_E_call hM rfl rfl rfl rfl (px_E_mono (by decide) (e_M_flushVolume_28 K N s49 t45 _ hk53)) ?_
                            refine px_blk (i' := 187) (L' := [some (.ref 28), none, none, none, none]) (S' := []) (w' := px_w K (sR s51 36 ((s51.1 36) + (1 : Int32))) t52) (q := []) 6 hM rfl trivial ?_
                            obtain ⟨s56, hs57, h⟩ := px_let_some h
                            rw [← hs57]
                            cases h
                            exact px_E_ret hM rfl rfl rfl trivial
                          · cases h
                        · cases h
                      · cases h
                    · cases h
                  · rw [if_neg hi31] at h
                    cases h
                · cases h
                  exact e_l_M_commit_28_79 K N N (0 : Int32) s20 t21 _ hl29 _ _ ⟨rfl, rfl⟩
              · cases h
            · rw [if_neg hi19] at h
              cases h
          · cases h
            exact px_E_le (px_leC_L _ _ (by simp [px_leC, px_le1, Value.category])) (e_l_M_commit_28_28 K N N (0 : Int32) (0 : Int32) s8 t9 _ hl17 _ _ ⟨rfl, rfl⟩)
        · cases h
      · rw [if_neg hc7] at h
        refine px_blk (i' := 15) (L' := [some (.ref 28), some (.int v4), none, none, none]) (S' := [.ref 28]) (w' := px_w K s1 t2) (q := []) 1 hM rfl trivial ?_
        rcases px_bv_some h with ⟨s58, t59, hk60, h⟩ | ⟨x62, s58, t59, hk60, h⟩
        · refine px_E_call hM rfl rfl rfl rfl (px_E_mono (by decide) (e_M_bringHome_28 K N s1 t2 _ hk60)) ?_
          refine px_blk (i' := 23) (L' := [some (.ref 28), some (.int v4), none, none, none]) (S' := [.int v4, .int (s58.1 36), .int (1 : Int32), .ref 44, .ref 28]) (w' := px_w K s58 t59) (q := []) 7 hM rfl trivial ?_
          rcases px_bv_some h with ⟨s63, t64, hk65, h⟩ | ⟨x67, s63, t64, hk65, h⟩
          · refine px_E_call hM rfl rfl rfl rfl (px_E_mono (by decide) (e_M_three_28_44 K N (1 : Int32) (s58.1 36) v4 s58 t59 _ hk65)) ?_
            refine px_blk (i' := 28) (L' := [some (.ref 28), some (.int v4), some (.int (0 : Int32)), some (.int (0 : Int32)), none]) (S' := []) (w' := px_w K s63 t64) (q := []) 4 hM rfl trivial ?_
            rcases px_lp_some h with ⟨i68, vs69, s70, t71, hl72, h⟩ | ⟨z73, hl72, h⟩
            · by_cases hi74 : i68 = 70
              · subst hi74
                rw [if_pos rfl] at h
                have h9 := px_v0_some h
                clear h
                obtain ⟨rfl, h⟩ := h9
                refine px_E_le (px_leC_L _ _ (by simp [px_leC, px_le1, Value.category])) (e_l_M_commit_28_28 K N N (0 : Int32) (0 : Int32) s63 t64 _ hl72 _ _ ?_)
                show px_E px_ET px_P 11 72 70 [some (.ref 28), none, none, none, none] [] (px_w K s70 t71) _ _
                refine px_blk (i' := 76) (L' := [some (.ref 28), none, none, none, none]) (S' := [.int (0 : Int32), .ref 44, .int (s70.1 37), .ref 28]) (w' := px_w K s70 t71) (q := []) 6 hM rfl trivial ?_
                rcases px_bv_some h with ⟨s75, t76, hk77, h⟩ | ⟨x79, s75, t76, hk77, h⟩
                · refine px_E_call hM rfl rfl rfl rfl (px_E_mono (by decide) (e_M_writeVolume_28_44 K N (s70.1 37) (0 : Int32) s70 t71 _ hk77)) ?_
                  refine px_blk (i' := 79) (L' := [some (.ref 28), none, none, some (.int (0 : Int32)), none]) (S' := []) (w' := px_w K s75 t76) (q := []) 2 hM rfl trivial ?_
                  rcases px_lp_some h with ⟨i80, vs81, s82, t83, hl84, h⟩ | ⟨z85, hl84, h⟩
                  · by_cases hi86 : i80 = 150
                    · subst hi86
                      rw [if_pos rfl] at h
                      have h9 := px_v0_some h
                      clear h
                      obtain ⟨rfl, h⟩ := h9
                      refine e_l_M_commit_28_79 K N N (0 : Int32) s75 t76 _ hl84 _ _ ?_
                      show px_E px_ET px_P 11 72 150 [some (.ref 28), none, none, none, none] [] (px_w K s82 t83) _ _
                      refine px_blk (i' := 156) (L' := [some (.ref 28), none, none, none, none]) (S' := []) (w' := px_w K (sR s82 37 ((s82.1 37) + (1 : Int32))) t83) (q := []) 6 hM rfl trivial ?_
                      obtain ⟨s87, hs88, h⟩ := px_let_some h
                      rw [← hs88]
                      refine px_blk (i' := 157) (L' := [some (.ref 28), none, none, none, none]) (S' := [.ref 28]) (w' := px_w K s87 t83) (q := []) 1 hM rfl trivial ?_
                      rcases px_bv_some h with ⟨s89, t90, hk91, h⟩ | ⟨x93, s89, t90, hk91, h⟩
                      · refine px_E_call hM rfl rfl rfl rfl (px_E_mono (by decide) (e_M_flushVolume_28 K N s87 t83 _ hk91)) ?_
                        refine px_blk (i' := 165) (L' := [some (.ref 28), none, none, none, none]) (S' := [.int (0 : Int32), .int (s89.1 36), .int (2 : Int32), .ref 44, .ref 28]) (w' := px_w K s89 t90) (q := []) 7 hM rfl trivial ?_
                        rcases px_bv_some h with ⟨s94, t95, hk96, h⟩ | ⟨x98, s94, t95, hk96, h⟩
                        · refine px_E_call hM rfl rfl rfl rfl (px_E_mono (by decide) (e_M_three_28_44 K N (2 : Int32) (s89.1 36) (0 : Int32) s89 t90 _ hk96)) ?_
                          refine px_blk (i' := 172) (L' := [some (.ref 28), none, none, none, none]) (S' := [.int (0 : Int32), .ref 44, .int (s94.1 37), .ref 28]) (w' := px_w K s94 t95) (q := []) 6 hM rfl trivial ?_
                          rcases px_bv_some h with ⟨s99, t100, hk101, h⟩ | ⟨x103, s99, t100, hk101, h⟩
                          · refine px_E_call hM rfl rfl rfl rfl (px_E_mono (by decide) (e_M_writeVolume_28_44 K N (s94.1 37) (0 : Int32) s94 t95 _ hk101)) ?_
                            refine px_blk (i' := 179) (L' := [some (.ref 28), none, none, none, none]) (S' := []) (w' := px_w K (sR s99 37 ((s99.1 37) + (1 : Int32))) t100) (q := []) 6 hM rfl trivial ?_
                            obtain ⟨s104, hs105, h⟩ := px_let_some h
                            rw [← hs105]
                            refine px_blk (i' := 180) (L' := [some (.ref 28), none, none, none, none]) (S' := [.ref 28]) (w' := px_w K s104 t100) (q := []) 1 hM rfl trivial ?_
                            rcases px_bv_some h with ⟨s106, t107, hk108, h⟩ | ⟨x110, s106, t107, hk108, h⟩
                            · refine px_E_call hM rfl rfl rfl rfl (px_E_mono (by decide) (e_M_flushVolume_28 K N s104 t100 _ hk108)) ?_
                              refine px_blk (i' := 187) (L' := [some (.ref 28), none, none, none, none]) (S' := []) (w' := px_w K (sR s106 36 ((s106.1 36) + (1 : Int32))) t107) (q := []) 6 hM rfl trivial ?_
                              obtain ⟨s111, hs112, h⟩ := px_let_some h
                              rw [← hs112]
                              cases h
                              exact px_E_ret hM rfl rfl rfl trivial
                            · cases h
                          · cases h
                        · cases h
                      · cases h
                    · rw [if_neg hi86] at h
                      cases h
                  · cases h
                    exact e_l_M_commit_28_79 K N N (0 : Int32) s75 t76 _ hl84 _ _ ⟨rfl, rfl⟩
                · cases h
              · rw [if_neg hi74] at h
                cases h
            · cases h
              exact px_E_le (px_leC_L _ _ (by simp [px_leC, px_le1, Value.category])) (e_l_M_commit_28_28 K N N (0 : Int32) (0 : Int32) s63 t64 _ hl72 _ _ ⟨rfl, rfl⟩)
          · cases h
        · cases h
    · rw [if_neg hc6] at h
      cases h
      exact px_E_ret hM rfl rfl rfl trivial
  · cases h
noncomputable def f_M_begins_28 (K : px_K) (N : Nat) (s : px_S) (t : px_W) : Option px_Res :=
  (if (s.1 29) = 0 then (px_gd ((s.1 29) = 0 ∨ (s.1 29) = 1) (some (.inl (some (.int (s.1 29))), s, t))) else (px_bi (f_M_changes_28 K N s t) (fun v6 s3 t4 => (if v6 ≤ (7 : Int32) then (px_gd ((s3.1 29) = 0 ∨ (s3.1 29) = 1) (some (.inl (some (.int (s3.1 29))), s3, t4))) else (px_bv (f_M_commit_28 K N s3 t4) (fun s10 t11 => (px_gd ((s10.1 29) = 0 ∨ (s10.1 29) = 1) (some (.inl (some (.int (s10.1 29))), s10, t11)))) (fun x14 s10 t11 => none)))) (fun x7 s3 t4 => none)))
set_option maxRecDepth 100000 in
theorem e_M_begins_28 (K : px_K) (N : Nat) (s : px_S) (t : px_W) (r : px_Res) (h : f_M_begins_28 K N s t = some r) : px_E px_ET px_P 12 74 0 (px_ent 1 [.ref 28]) [] (px_w K s t) r.1 (px_w K r.2.1 r.2.2) := by
  have hM : px_P[74]? = some pm_M_begins := rfl
  unfold f_M_begins_28 at h
  refine px_blkif (c := (s.1 29) = 0) (t := 9) (e := 3) (L' := [some (.ref 28)]) (S' := []) (w' := px_w K s t) (q := []) 3 hM rfl trivial (fun hc1 => ?_) (fun hc1 => ?_)
  · rw [if_pos hc1] at h
    refine px_blk (i' := 11) (L' := [some (.ref 28)]) (S' := [.int (s.1 29)]) (w' := px_w K s t) (q := []) 2 hM rfl trivial ?_
    obtain ⟨hq2, h⟩ := px_gd_some h
    cases h
    exact px_E_ret hM rfl rfl rfl (show (s.1 29) = 0 ∨ (s.1 29) = 1 from hq2)
  · rw [if_neg hc1] at h
    refine px_blk (i' := 4) (L' := [some (.ref 28)]) (S' := [.ref 28]) (w' := px_w K s t) (q := []) 1 hM rfl trivial ?_
    rcases px_bi_some h with ⟨v6, s3, t4, hk5, h⟩ | ⟨x7, s3, t4, hk5, h⟩
    · refine px_E_call hM rfl rfl rfl rfl (px_E_mono (by decide) (e_M_changes_28 K N s t _ hk5)) ?_
      refine px_blkif (c := v6 ≤ (7 : Int32)) (t := 9) (e := 7) (L' := [some (.ref 28)]) (S' := []) (w' := px_w K s3 t4) (q := []) 2 hM rfl trivial (fun hc8 => ?_) (fun hc8 => ?_)
      · rw [if_pos hc8] at h
        refine px_blk (i' := 11) (L' := [some (.ref 28)]) (S' := [.int (s3.1 29)]) (w' := px_w K s3 t4) (q := []) 2 hM rfl trivial ?_
        obtain ⟨hq9, h⟩ := px_gd_some h
        cases h
        exact px_E_ret hM rfl rfl rfl (show (s3.1 29) = 0 ∨ (s3.1 29) = 1 from hq9)
      · rw [if_neg hc8] at h
        refine px_blk (i' := 8) (L' := [some (.ref 28)]) (S' := [.ref 28]) (w' := px_w K s3 t4) (q := []) 1 hM rfl trivial ?_
        rcases px_bv_some h with ⟨s10, t11, hk12, h⟩ | ⟨x14, s10, t11, hk12, h⟩
        · refine px_E_call hM rfl rfl rfl rfl (px_E_mono (by decide) (e_M_commit_28 K N s3 t4 _ hk12)) ?_
          refine px_blk (i' := 11) (L' := [some (.ref 28)]) (S' := [.int (s10.1 29)]) (w' := px_w K s10 t11) (q := []) 2 hM rfl trivial ?_
          obtain ⟨hq15, h⟩ := px_gd_some h
          cases h
          exact px_E_ret hM rfl rfl rfl (show (s10.1 29) = 0 ∨ (s10.1 29) = 1 from hq15)
        · cases h
    · cases h
noncomputable def f_M_answer_28 (K : px_K) (N : Nat) (a0 : Int32) (s : px_S) (t : px_W) : Option px_Res :=
  (if (s.1 29) = 0 then (some (.inl (some (.int (-9 : Int32))), s, t)) else (some (.inl (some (.int a0)), s, t)))
set_option maxRecDepth 100000 in
theorem e_M_answer_28 (K : px_K) (N : Nat) (a0 : Int32) (s : px_S) (t : px_W) (r : px_Res) (h : f_M_answer_28 K N a0 s t = some r) : px_E px_ET px_P 1 75 0 (px_ent 2 [.ref 28, .int a0]) [] (px_w K s t) r.1 (px_w K r.2.1 r.2.2) := by
  have hM : px_P[75]? = some pm_M_answer := rfl
  unfold f_M_answer_28 at h
  refine px_blkif (c := (s.1 29) = 0) (t := 5) (e := 3) (L' := [some (.ref 28), some (.int a0)]) (S' := []) (w' := px_w K s t) (q := []) 3 hM rfl trivial (fun hc1 => ?_) (fun hc1 => ?_)
  · rw [if_pos hc1] at h
    refine px_blk (i' := 6) (L' := [some (.ref 28), some (.int a0)]) (S' := [.int (-9 : Int32)]) (w' := px_w K s t) (q := []) 1 hM rfl trivial ?_
    cases h
    exact px_E_ret hM rfl rfl rfl trivial
  · rw [if_neg hc1] at h
    refine px_blk (i' := 6) (L' := [some (.ref 28), some (.int a0)]) (S' := [.int a0]) (w' := px_w K s t) (q := []) 2 hM rfl trivial ?_
    cases h
    exact px_E_ret hM rfl rfl rfl trivial
noncomputable def l_M_make_28_27 (K : px_K) (N : Nat) (n : Nat) (u1 : Int32) (u2 : Int32) (u3 : Int32) (m4 : Int32) (s : px_S) (t : px_W) : Option px_LO := match n with
  | 0 => none
  | n + 1 => (if (24 : Int32) ≤ m4 then (some (.inl (37, [m4], s, t))) else (px_bi (f_M_ofInode_28 K N m4 (0 : Int32) s t) (fun v5 s2 t3 => (if v5 = 0 then (some (.inl (37, [m4], s2, t3))) else (l_M_make_28_27 K N n u1 u2 u3 (m4 + (1 : Int32)) s2 t3))) (fun x6 s2 t3 => none)))
def a_l_M_make_28_27 (K : px_K) (u1 : Int32) (u2 : Int32) (u3 : Int32) (z : px_LO) (o : Option Value ⊕ Nat) (w2 : px_W) : Prop := match z with
  | .inr (o', s', t') => o = o' ∧ w2 = px_w K s' t'
  | .inl (37, [y4], s', t') => px_E px_ET px_P 13 76 37 [some (.ref 28), some (.int u1), some (.int u2), some (.int u3), some (.int y4)] [] (px_w K s' t') o w2
  | _ => False
set_option maxRecDepth 100000 in
theorem e_l_M_make_28_27 (K : px_K) (N : Nat) (u1 : Int32) (u2 : Int32) (u3 : Int32) : ∀ (n : Nat) (m4 : Int32) (s : px_S) (t : px_W) (z : px_LO), l_M_make_28_27 K N n u1 u2 u3 m4 s t = some z → ∀ (o : Option Value ⊕ Nat) (w2 : px_W), a_l_M_make_28_27 K u1 u2 u3 z o w2 → px_E px_ET px_P 13 76 27 [some (.ref 28), some (.int u1), some (.int u2), some (.int u3), some (.int m4)] [] (px_w K s t) o w2 := by
  have hM : px_P[76]? = some pm_M_make := rfl
  intro n
  induction n with
  | zero => intro m4 s t z h; cases h
  | succ n ih =>
    intro m4 s t z h o w2 ha
    unfold l_M_make_28_27 at h
    refine px_blkif (c := (24 : Int32) ≤ m4) (t := 37) (e := 30) (L' := [some (.ref 28), some (.int u1), some (.int u2), some (.int u3), some (.int m4)]) (S' := []) (w' := px_w K s t) (q := []) 3 hM rfl trivial (fun hc1 => ?_) (fun hc1 => ?_)
    · rw [if_pos hc1] at h
      cases h
      exact px_E_le (px_leC_L _ _ (by simp [px_leC, px_le1, Value.category])) ha
    · rw [if_neg hc1] at h
      refine px_blk (i' := 33) (L' := [some (.ref 28), some (.int u1), some (.int u2), some (.int u3), some (.int m4)]) (S' := [.int (0 : Int32), .int m4, .ref 28]) (w' := px_w K s t) (q := []) 3 hM rfl trivial ?_
      rcases px_bi_some h with ⟨v5, s2, t3, hk4, h⟩ | ⟨x6, s2, t3, hk4, h⟩
      · refine px_E_call hM rfl rfl rfl rfl (px_E_mono (by decide) (e_M_ofInode_28 K N m4 (0 : Int32) s t _ hk4)) ?_
        refine px_blkif (c := v5 = 0) (t := 37) (e := 35) (L' := [some (.ref 28), some (.int u1), some (.int u2), some (.int u3), some (.int m4)]) (S' := []) (w' := px_w K s2 t3) (q := []) 1 hM rfl trivial (fun hc7 => ?_) (fun hc7 => ?_)
        · rw [if_pos hc7] at h
          cases h
          exact px_E_le (px_leC_L _ _ (by simp [px_leC, px_le1, Value.category])) ha
        · rw [if_neg hc7] at h
          refine px_blk (i' := 27) (L' := [some (.ref 28), some (.int u1), some (.int u2), some (.int u3), some (.int (m4 + (1 : Int32)))]) (S' := []) (w' := px_w K s2 t3) (q := []) 2 hM rfl trivial ?_
          exact ih (m4 + (1 : Int32)) s2 t3 z h o w2 ha
      · cases h
noncomputable def f_M_make_28 (K : px_K) (N : Nat) (a0 : Int32) (a1 : Int32) (a2 : Int32) (s : px_S) (t : px_W) : Option px_Res :=
  (px_let (sR s 25 (0 : Int32)) (fun s1 => (px_bi (f_M_begins_28 K N s1 t) (fun v6 s3 t4 => (if ¬ v6 = 0 then (px_bi (f_M_isKind_28 K N a0 (1 : Int32) s3 t4) (fun v12 s9 t10 => (if v12 = 0 then (some (.inl (some (.int (-4 : Int32))), s9, t10)) else (if (1 : Int32) ≤ a1 then (px_bi (f_M_placeOf_28 K N a0 a1 s9 t10) (fun v19 s16 t17 => (if v19 < 0 then (px_lp (l_M_make_28_27 K N N a0 a1 a2 (0 : Int32) s16 t17) (fun i22 vs23 s24 t25 => (if i22 = 37 then (px_v1 vs23 (fun y28 => (if y28 = (24 : Int32) then (some (.inl (some (.int (-3 : Int32))), s24, t25)) else (px_bi (f_M_hasRoom_28 K N a0 s24 t25) (fun v34 s31 t32 => (if ¬ v34 = 0 then (if a2 = 0 then (px_bv (f_M_tellInode_28 K N y28 (0 : Int32) (2 : Int32) s31 t32) (fun s38 t39 => (px_bv (f_M_enter_28 K N a0 a1 y28 s38 t39) (fun s43 t44 => (some (.inl (some (.int y28)), s43, t44))) (fun x47 s43 t44 => none))) (fun x42 s38 t39 => none)) else (px_bv (f_M_tellInode_28 K N y28 (0 : Int32) (1 : Int32) s31 t32) (fun s48 t49 => (px_bv (f_M_enter_28 K N a0 a1 y28 s48 t49) (fun s53 t54 => (some (.inl (some (.int y28)), s53, t54))) (fun x57 s53 t54 => none))) (fun x52 s48 t49 => none))) else (some (.inl (some (.int (-3 : Int32))), s31, t32)))) (fun x35 s31 t32 => none))))) else none)) (fun z27 => some z27)) else (some (.inl (some (.int (-2 : Int32))), s16, t17)))) (fun x20 s16 t17 => none)) else (some (.inl (some (.int (-4 : Int32))), s9, t10))))) (fun x13 s9 t10 => none)) else (some (.inl (some (.int (-9 : Int32))), s3, t4)))) (fun x7 s3 t4 => none))))
set_option maxRecDepth 100000 in
theorem e_M_make_28 (K : px_K) (N : Nat) (a0 : Int32) (a1 : Int32) (a2 : Int32) (s : px_S) (t : px_W) (r : px_Res) (h : f_M_make_28 K N a0 a1 a2 s t = some r) : px_E px_ET px_P 13 76 0 (px_ent 5 [.ref 28, .int a0, .int a1, .int a2]) [] (px_w K s t) r.1 (px_w K r.2.1 r.2.2) := by
  have hM : px_P[76]? = some pm_M_make := rfl
  unfold f_M_make_28 at h
  refine px_blk (i' := 3) (L' := [some (.ref 28), some (.int a0), some (.int a1), some (.int a2), none]) (S' := []) (w' := px_w K (sR s 25 (0 : Int32)) t) (q := []) 3 hM rfl trivial ?_
  obtain ⟨s1, hs2, h⟩ := px_let_some h
  rw [← hs2]
  refine px_blk (i' := 4) (L' := [some (.ref 28), some (.int a0), some (.int a1), some (.int a2), none]) (S' := [.ref 28]) (w' := px_w K s1 t) (q := []) 1 hM rfl trivial ?_
  rcases px_bi_some h with ⟨v6, s3, t4, hk5, h⟩ | ⟨x7, s3, t4, hk5, h⟩
  · refine px_E_call hM rfl rfl rfl rfl (px_E_mono (by decide) (e_M_begins_28 K N s1 t _ hk5)) ?_
    refine px_blkif (c := ¬ v6 = 0) (t := 8) (e := 6) (L' := [some (.ref 28), some (.int a0), some (.int a1), some (.int a2), none]) (S' := []) (w' := px_w K s3 t4) (q := []) 1 hM rfl trivial (fun hc8 => ?_) (fun hc8 => ?_)
    · rw [if_pos hc8] at h
      refine px_blk (i' := 11) (L' := [some (.ref 28), some (.int a0), some (.int a1), some (.int a2), none]) (S' := [.int (1 : Int32), .int a0, .ref 28]) (w' := px_w K s3 t4) (q := []) 3 hM rfl trivial ?_
      rcases px_bi_some h with ⟨v12, s9, t10, hk11, h⟩ | ⟨x13, s9, t10, hk11, h⟩
      · refine px_E_call hM rfl rfl rfl rfl (px_E_mono (by decide) (e_M_isKind_28 K N a0 (1 : Int32) s3 t4 _ hk11)) ?_
        refine px_blkif (c := v12 = 0) (t := 16) (e := 13) (L' := [some (.ref 28), some (.int a0), some (.int a1), some (.int a2), none]) (S' := []) (w' := px_w K s9 t10) (q := []) 1 hM rfl trivial (fun hc14 => ?_) (fun hc14 => ?_)
        · rw [if_pos hc14] at h
          refine px_blk (i' := 17) (L' := [some (.ref 28), some (.int a0), some (.int a1), some (.int a2), none]) (S' := [.int (-4 : Int32)]) (w' := px_w K s9 t10) (q := []) 1 hM rfl trivial ?_
          cases h
          exact px_E_ret hM rfl rfl rfl trivial
        · rw [if_neg hc14] at h
          refine px_blkif (c := (1 : Int32) ≤ a1) (t := 18) (e := 16) (L' := [some (.ref 28), some (.int a0), some (.int a1), some (.int a2), none]) (S' := []) (w' := px_w K s9 t10) (q := []) 3 hM rfl trivial (fun hc15 => ?_) (fun hc15 => ?_)
          · rw [if_pos hc15] at h
            refine px_blk (i' := 21) (L' := [some (.ref 28), some (.int a0), some (.int a1), some (.int a2), none]) (S' := [.int a1, .int a0, .ref 28]) (w' := px_w K s9 t10) (q := []) 3 hM rfl trivial ?_
            rcases px_bi_some h with ⟨v19, s16, t17, hk18, h⟩ | ⟨x20, s16, t17, hk18, h⟩
            · refine px_E_call hM rfl rfl rfl rfl (px_E_mono (by decide) (e_M_placeOf_28 K N a0 a1 s9 t10 _ hk18)) ?_
              refine px_blkif (c := v19 < 0) (t := 25) (e := 23) (L' := [some (.ref 28), some (.int a0), some (.int a1), some (.int a2), none]) (S' := []) (w' := px_w K s16 t17) (q := []) 1 hM rfl trivial (fun hc21 => ?_) (fun hc21 => ?_)
              · rw [if_pos hc21] at h
                refine px_blk (i' := 27) (L' := [some (.ref 28), some (.int a0), some (.int a1), some (.int a2), some (.int (0 : Int32))]) (S' := []) (w' := px_w K s16 t17) (q := []) 2 hM rfl trivial ?_
                rcases px_lp_some h with ⟨i22, vs23, s24, t25, hl26, h⟩ | ⟨z27, hl26, h⟩
                · by_cases hi29 : i22 = 37
                  · subst hi29
                    rw [if_pos rfl] at h
                    have h9 := px_v1_some h
                    clear h
                    obtain ⟨y28, rfl, h⟩ := h9
                    refine e_l_M_make_28_27 K N a0 a1 a2 N (0 : Int32) s16 t17 _ hl26 _ _ ?_
                    show px_E px_ET px_P 13 76 37 [some (.ref 28), some (.int a0), some (.int a1), some (.int a2), some (.int y28)] [] (px_w K s24 t25) _ _
                    refine px_blkif (c := y28 = (24 : Int32)) (t := 44) (e := 40) (L' := [some (.ref 28), some (.int a0), some (.int a1), some (.int a2), some (.int y28)]) (S' := []) (w' := px_w K s24 t25) (q := []) 3 hM rfl trivial (fun hc30 => ?_) (fun hc30 => ?_)
                    · rw [if_pos hc30] at h
                      refine px_blk (i' := 45) (L' := [some (.ref 28), some (.int a0), some (.int a1), some (.int a2), some (.int y28)]) (S' := [.int (-3 : Int32)]) (w' := px_w K s24 t25) (q := []) 1 hM rfl trivial ?_
                      cases h
                      exact px_E_ret hM rfl rfl rfl trivial
                    · rw [if_neg hc30] at h
                      refine px_blk (i' := 42) (L' := [some (.ref 28), some (.int a0), some (.int a1), some (.int a2), some (.int y28)]) (S' := [.int a0, .ref 28]) (w' := px_w K s24 t25) (q := []) 2 hM rfl trivial ?_
                      rcases px_bi_some h with ⟨v34, s31, t32, hk33, h⟩ | ⟨x35, s31, t32, hk33, h⟩
                      · refine px_E_call hM rfl rfl rfl rfl (px_E_mono (by decide) (e_M_hasRoom_28 K N a0 s24 t25 _ hk33)) ?_
                        refine px_blkif (c := ¬ v34 = 0) (t := 46) (e := 44) (L' := [some (.ref 28), some (.int a0), some (.int a1), some (.int a2), some (.int y28)]) (S' := []) (w' := px_w K s31 t32) (q := []) 1 hM rfl trivial (fun hc36 => ?_) (fun hc36 => ?_)
                        · rw [if_pos hc36] at h
                          refine px_blkif (c := a2 = 0) (t := 53) (e := 51) (L' := [some (.ref 28), some (.int a0), some (.int a1), some (.int a2), some (.int y28)]) (S' := [.int (0 : Int32), .int y28, .ref 28]) (w' := px_w K s31 t32) (q := []) 5 hM rfl trivial (fun hc37 => ?_) (fun hc37 => ?_)
                          · rw [if_pos hc37] at h
                            refine px_blk (i' := 54) (L' := [some (.ref 28), some (.int a0), some (.int a1), some (.int a2), some (.int y28)]) (S' := [.int (2 : Int32), .int (0 : Int32), .int y28, .ref 28]) (w' := px_w K s31 t32) (q := []) 1 hM rfl trivial ?_
                            rcases px_bv_some h with ⟨s38, t39, hk40, h⟩ | ⟨x42, s38, t39, hk40, h⟩
                            · refine px_E_call hM rfl rfl rfl rfl (px_E_mono (by decide) (e_M_tellInode_28 K N y28 (0 : Int32) (2 : Int32) s31 t32 _ hk40)) ?_
                              refine px_blk (i' := 59) (L' := [some (.ref 28), some (.int a0), some (.int a1), some (.int a2), some (.int y28)]) (S' := [.int y28, .int a1, .int a0, .ref 28]) (w' := px_w K s38 t39) (q := []) 4 hM rfl trivial ?_
                              rcases px_bv_some h with ⟨s43, t44, hk45, h⟩ | ⟨x47, s43, t44, hk45, h⟩
                              · refine px_E_call hM rfl rfl rfl rfl (px_E_mono (by decide) (e_M_enter_28 K N a0 a1 y28 s38 t39 _ hk45)) ?_
                                refine px_blk (i' := 61) (L' := [some (.ref 28), some (.int a0), some (.int a1), some (.int a2), some (.int y28)]) (S' := [.int y28]) (w' := px_w K s43 t44) (q := []) 1 hM rfl trivial ?_
                                cases h
                                exact px_E_ret hM rfl rfl rfl trivial
                              · cases h
                            · cases h
                          · rw [if_neg hc37] at h
                            refine px_blk (i' := 54) (L' := [some (.ref 28), some (.int a0), some (.int a1), some (.int a2), some (.int y28)]) (S' := [.int (1 : Int32), .int (0 : Int32), .int y28, .ref 28]) (w' := px_w K s31 t32) (q := []) 2 hM rfl trivial ?_
                            rcases px_bv_some h with ⟨s48, t49, hk50, h⟩ | ⟨x52, s48, t49, hk50, h⟩
                            · refine px_E_call hM rfl rfl rfl rfl (px_E_mono (by decide) (e_M_tellInode_28 K N y28 (0 : Int32) (1 : Int32) s31 t32 _ hk50)) ?_
                              refine px_blk (i' := 59) (L' := [some (.ref 28), some (.int a0), some (.int a1), some (.int a2), some (.int y28)]) (S' := [.int y28, .int a1, .int a0, .ref 28]) (w' := px_w K s48 t49) (q := []) 4 hM rfl trivial ?_
                              rcases px_bv_some h with ⟨s53, t54, hk55, h⟩ | ⟨x57, s53, t54, hk55, h⟩
                              · refine px_E_call hM rfl rfl rfl rfl (px_E_mono (by decide) (e_M_enter_28 K N a0 a1 y28 s48 t49 _ hk55)) ?_
                                refine px_blk (i' := 61) (L' := [some (.ref 28), some (.int a0), some (.int a1), some (.int a2), some (.int y28)]) (S' := [.int y28]) (w' := px_w K s53 t54) (q := []) 1 hM rfl trivial ?_
                                cases h
                                exact px_E_ret hM rfl rfl rfl trivial
                              · cases h
                            · cases h
                        · rw [if_neg hc36] at h
                          refine px_blk (i' := 45) (L' := [some (.ref 28), some (.int a0), some (.int a1), some (.int a2), some (.int y28)]) (S' := [.int (-3 : Int32)]) (w' := px_w K s31 t32) (q := []) 1 hM rfl trivial ?_
                          cases h
                          exact px_E_ret hM rfl rfl rfl trivial
                      · cases h
                  · rw [if_neg hi29] at h
                    cases h
                · cases h
                  exact e_l_M_make_28_27 K N a0 a1 a2 N (0 : Int32) s16 t17 _ hl26 _ _ ⟨rfl, rfl⟩
              · rw [if_neg hc21] at h
                refine px_blk (i' := 24) (L' := [some (.ref 28), some (.int a0), some (.int a1), some (.int a2), none]) (S' := [.int (-2 : Int32)]) (w' := px_w K s16 t17) (q := []) 1 hM rfl trivial ?_
                cases h
                exact px_E_ret hM rfl rfl rfl trivial
            · cases h
          · rw [if_neg hc15] at h
            refine px_blk (i' := 17) (L' := [some (.ref 28), some (.int a0), some (.int a1), some (.int a2), none]) (S' := [.int (-4 : Int32)]) (w' := px_w K s9 t10) (q := []) 1 hM rfl trivial ?_
            cases h
            exact px_E_ret hM rfl rfl rfl trivial
      · cases h
    · rw [if_neg hc8] at h
      refine px_blk (i' := 7) (L' := [some (.ref 28), some (.int a0), some (.int a1), some (.int a2), none]) (S' := [.int (-9 : Int32)]) (w' := px_w K s3 t4) (q := []) 1 hM rfl trivial ?_
      cases h
      exact px_E_ret hM rfl rfl rfl trivial
  · cases h
noncomputable def f_M_find2_28 (K : px_K) (N : Nat) (a0 : Int32) (a1 : Int32) (s : px_S) (t : px_W) : Option px_Res :=
  (px_let (sR s 25 (0 : Int32)) (fun s1 => (if ¬ (s1.1 29) = 0 then (px_bi (f_M_isKind_28 K N a0 (1 : Int32) s1 t) (fun v7 s4 t5 => (if ¬ v7 = 0 then (px_bi (f_M_placeOf_28 K N a0 a1 s4 t5) (fun v13 s10 t11 => (if 0 ≤ v13 then (px_bi (f_M_inodeAt_28 K N a0 v13 s10 t11) (fun v19 s16 t17 => (some (.inl (some (.int v19)), s16, t17))) (fun x20 s16 t17 => none)) else (some (.inl (some (.int (-1 : Int32))), s10, t11)))) (fun x14 s10 t11 => none)) else (some (.inl (some (.int (-4 : Int32))), s4, t5)))) (fun x8 s4 t5 => none)) else (some (.inl (some (.int (-9 : Int32))), s1, t)))))
set_option maxRecDepth 100000 in
theorem e_M_find2_28 (K : px_K) (N : Nat) (a0 : Int32) (a1 : Int32) (s : px_S) (t : px_W) (r : px_Res) (h : f_M_find2_28 K N a0 a1 s t = some r) : px_E px_ET px_P 6 77 0 (px_ent 4 [.ref 28, .int a0, .int a1]) [] (px_w K s t) r.1 (px_w K r.2.1 r.2.2) := by
  have hM : px_P[77]? = some pm_M_find2 := rfl
  unfold f_M_find2_28 at h
  refine px_blk (i' := 3) (L' := [some (.ref 28), some (.int a0), some (.int a1), none]) (S' := []) (w' := px_w K (sR s 25 (0 : Int32)) t) (q := []) 3 hM rfl trivial ?_
  obtain ⟨s1, hs2, h⟩ := px_let_some h
  rw [← hs2]
  refine px_blkif (c := ¬ (s1.1 29) = 0) (t := 8) (e := 6) (L' := [some (.ref 28), some (.int a0), some (.int a1), none]) (S' := []) (w' := px_w K s1 t) (q := []) 3 hM rfl trivial (fun hc3 => ?_) (fun hc3 => ?_)
  · rw [if_pos hc3] at h
    refine px_blk (i' := 11) (L' := [some (.ref 28), some (.int a0), some (.int a1), none]) (S' := [.int (1 : Int32), .int a0, .ref 28]) (w' := px_w K s1 t) (q := []) 3 hM rfl trivial ?_
    rcases px_bi_some h with ⟨v7, s4, t5, hk6, h⟩ | ⟨x8, s4, t5, hk6, h⟩
    · refine px_E_call hM rfl rfl rfl rfl (px_E_mono (by decide) (e_M_isKind_28 K N a0 (1 : Int32) s1 t _ hk6)) ?_
      refine px_blkif (c := ¬ v7 = 0) (t := 15) (e := 13) (L' := [some (.ref 28), some (.int a0), some (.int a1), none]) (S' := []) (w' := px_w K s4 t5) (q := []) 1 hM rfl trivial (fun hc9 => ?_) (fun hc9 => ?_)
      · rw [if_pos hc9] at h
        refine px_blk (i' := 18) (L' := [some (.ref 28), some (.int a0), some (.int a1), none]) (S' := [.int a1, .int a0, .ref 28]) (w' := px_w K s4 t5) (q := []) 3 hM rfl trivial ?_
        rcases px_bi_some h with ⟨v13, s10, t11, hk12, h⟩ | ⟨x14, s10, t11, hk12, h⟩
        · refine px_E_call hM rfl rfl rfl rfl (px_E_mono (by decide) (e_M_placeOf_28 K N a0 a1 s4 t5 _ hk12)) ?_
          refine px_blkif (c := 0 ≤ v13) (t := 24) (e := 22) (L' := [some (.ref 28), some (.int a0), some (.int a1), some (.int v13)]) (S' := []) (w' := px_w K s10 t11) (q := []) 3 hM rfl trivial (fun hc15 => ?_) (fun hc15 => ?_)
          · rw [if_pos hc15] at h
            refine px_blk (i' := 27) (L' := [some (.ref 28), some (.int a0), some (.int a1), some (.int v13)]) (S' := [.int v13, .int a0, .ref 28]) (w' := px_w K s10 t11) (q := []) 3 hM rfl trivial ?_
            rcases px_bi_some h with ⟨v19, s16, t17, hk18, h⟩ | ⟨x20, s16, t17, hk18, h⟩
            · refine px_E_call hM rfl rfl rfl rfl (px_E_mono (by decide) (e_M_inodeAt_28 K N a0 v13 s10 t11 _ hk18)) ?_
              cases h
              exact px_E_ret hM rfl rfl rfl trivial
            · cases h
          · rw [if_neg hc15] at h
            refine px_blk (i' := 28) (L' := [some (.ref 28), some (.int a0), some (.int a1), some (.int v13)]) (S' := [.int (-1 : Int32)]) (w' := px_w K s10 t11) (q := []) 2 hM rfl trivial ?_
            cases h
            exact px_E_ret hM rfl rfl rfl trivial
        · cases h
      · rw [if_neg hc9] at h
        refine px_blk (i' := 14) (L' := [some (.ref 28), some (.int a0), some (.int a1), none]) (S' := [.int (-4 : Int32)]) (w' := px_w K s4 t5) (q := []) 1 hM rfl trivial ?_
        cases h
        exact px_E_ret hM rfl rfl rfl trivial
    · cases h
  · rw [if_neg hc3] at h
    refine px_blk (i' := 7) (L' := [some (.ref 28), some (.int a0), some (.int a1), none]) (S' := [.int (-9 : Int32)]) (w' := px_w K s1 t) (q := []) 1 hM rfl trivial ?_
    cases h
    exact px_E_ret hM rfl rfl rfl trivial
noncomputable def f_M_fetch_28 (K : px_K) (N : Nat) (a0 : Int32) (s : px_S) (t : px_W) : Option px_Res :=
  (px_gd (vp_in a0 (K.2.2 41)) (if ¬ ((s.2.2.1 41) a0.toNatClampNeg) = 0 then (some (.inl none, s, t)) else (px_gd (vp_in a0 (K.2.2 42)) (if ¬ ((s.2.2.1 42) a0.toNatClampNeg) = 0 then (some (.inl none, s, t)) else (px_bv (f_M_readVolume_28 K N a0 s t) (fun s5 t6 => (some (.inl none, s5, t6))) (fun x9 s5 t6 => none))))))
set_option maxRecDepth 100000 in
theorem e_M_fetch_28 (K : px_K) (N : Nat) (a0 : Int32) (s : px_S) (t : px_W) (r : px_Res) (h : f_M_fetch_28 K N a0 s t = some r) : px_E px_ET px_P 7 78 0 (px_ent 2 [.ref 28, .int a0]) [] (px_w K s t) r.1 (px_w K r.2.1 r.2.2) := by
  have hM : px_P[78]? = some pm_M_fetch := rfl
  unfold f_M_fetch_28 at h
  obtain ⟨hq1, h⟩ := px_gd_some h
  refine px_blkif (c := ¬ ((s.2.2.1 41) a0.toNatClampNeg) = 0) (t := 13) (e := 5) (L' := [some (.ref 28), some (.int a0)]) (S' := []) (w' := px_w K s t) (q := [vp_in a0 (K.2.2 41)]) 5 hM rfl (show vp_in a0 (K.2.2 41) from hq1) (fun hc2 => ?_) (fun hc2 => ?_)
  · rw [if_pos hc2] at h
    cases h
    exact px_E_ret hM rfl rfl rfl trivial
  · rw [if_neg hc2] at h
    obtain ⟨hq3, h⟩ := px_gd_some h
    refine px_blkif (c := ¬ ((s.2.2.1 42) a0.toNatClampNeg) = 0) (t := 13) (e := 10) (L' := [some (.ref 28), some (.int a0)]) (S' := []) (w' := px_w K s t) (q := [vp_in a0 (K.2.2 42)]) 5 hM rfl (show vp_in a0 (K.2.2 42) from hq3) (fun hc4 => ?_) (fun hc4 => ?_)
    · rw [if_pos hc4] at h
      cases h
      exact px_E_ret hM rfl rfl rfl trivial
    · rw [if_neg hc4] at h
      refine px_blk (i' := 12) (L' := [some (.ref 28), some (.int a0)]) (S' := [.int a0, .ref 28]) (w' := px_w K s t) (q := []) 2 hM rfl trivial ?_
      rcases px_bv_some h with ⟨s5, t6, hk7, h⟩ | ⟨x9, s5, t6, hk7, h⟩
      · refine px_E_call hM rfl rfl rfl rfl (px_E_mono (by decide) (e_M_readVolume_28 K N a0 s t _ hk7)) ?_
        cases h
        exact px_E_ret hM rfl rfl rfl trivial
      · cases h
noncomputable def f_M_write2_28 (K : px_K) (N : Nat) (a0 : Int32) (a1 : Int32) (a2 : Int32) (s : px_S) (t : px_W) : Option px_Res :=
  (px_let (sR s 25 (0 : Int32)) (fun s1 => (px_bi (f_M_begins_28 K N s1 t) (fun v6 s3 t4 => (if ¬ v6 = 0 then (px_bi (f_M_isKind_28 K N a0 (2 : Int32) s3 t4) (fun v12 s9 t10 => (if v12 = 0 then (some (.inl (some (.int (-4 : Int32))), s9, t10)) else (if a1 < 0 then (some (.inl (some (.int (-4 : Int32))), s9, t10)) else (if a1 < (320 : Int32) then (px_bi (f_M_blockOf_28 K N a0 (a1 / (16 : Int32)) s9 t10) (fun v20 s17 t18 => (if ¬ v20 = 0 then (px_bv (f_M_fetch_28 K N v20 s17 t18) (fun s23 t24 => (if ¬ (s23.1 29) = 0 then (px_bv (f_M_tell_28 K N v20 (a1 - a1 / (16 : Int32) * (16 : Int32)) a2 s23 t24) (fun s29 t30 => (px_bi (f_M_ofInode_28 K N a0 (1 : Int32) s29 t30) (fun v37 s34 t35 => (if a1 < v37 then (px_bi (f_M_ofInode_28 K N a0 (1 : Int32) s34 t35) (fun v43 s40 t41 => (some (.inl (some (.int v43)), s40, t41))) (fun x44 s40 t41 => none)) else (px_bv (f_M_tellInode_28 K N a0 (1 : Int32) (a1 + (1 : Int32)) s34 t35) (fun s45 t46 => (px_bi (f_M_ofInode_28 K N a0 (1 : Int32) s45 t46) (fun v53 s50 t51 => (some (.inl (some (.int v53)), s50, t51))) (fun x54 s50 t51 => none))) (fun x49 s45 t46 => none)))) (fun x38 s34 t35 => none))) (fun x33 s29 t30 => none)) else (some (.inl (some (.int (-9 : Int32))), s23, t24)))) (fun x27 s23 t24 => none)) else (px_bi (f_M_wants_28 K N a0 (a1 / (16 : Int32)) s17 t18) (fun v58 s55 t56 => (px_bi (f_M_left_28 K N s55 t56) (fun v63 s60 t61 => (if v58 ≤ v63 then (px_bi (f_M_takeFor_28 K N a0 (a1 / (16 : Int32)) s60 t61) (fun v69 s66 t67 => (if ¬ (s66.1 29) = 0 then (px_bv (f_M_tell_28 K N v69 (a1 - a1 / (16 : Int32) * (16 : Int32)) a2 s66 t67) (fun s72 t73 => (px_bi (f_M_ofInode_28 K N a0 (1 : Int32) s72 t73) (fun v80 s77 t78 => (if a1 < v80 then (px_bi (f_M_ofInode_28 K N a0 (1 : Int32) s77 t78) (fun v86 s83 t84 => (some (.inl (some (.int v86)), s83, t84))) (fun x87 s83 t84 => none)) else (px_bv (f_M_tellInode_28 K N a0 (1 : Int32) (a1 + (1 : Int32)) s77 t78) (fun s88 t89 => (px_bi (f_M_ofInode_28 K N a0 (1 : Int32) s88 t89) (fun v96 s93 t94 => (some (.inl (some (.int v96)), s93, t94))) (fun x97 s93 t94 => none))) (fun x92 s88 t89 => none)))) (fun x81 s77 t78 => none))) (fun x76 s72 t73 => none)) else (some (.inl (some (.int (-9 : Int32))), s66, t67)))) (fun x70 s66 t67 => none)) else (some (.inl (some (.int (-3 : Int32))), s60, t61)))) (fun x64 s60 t61 => none))) (fun x59 s55 t56 => none)))) (fun x21 s17 t18 => none)) else (some (.inl (some (.int (-4 : Int32))), s9, t10)))))) (fun x13 s9 t10 => none)) else (some (.inl (some (.int (-9 : Int32))), s3, t4)))) (fun x7 s3 t4 => none))))
set_option maxRecDepth 100000 in
theorem e_M_write2_28 (K : px_K) (N : Nat) (a0 : Int32) (a1 : Int32) (a2 : Int32) (s : px_S) (t : px_W) (r : px_Res) (h : f_M_write2_28 K N a0 a1 a2 s t = some r) : px_E px_ET px_P 13 79 0 (px_ent 5 [.ref 28, .int a0, .int a1, .int a2]) [] (px_w K s t) r.1 (px_w K r.2.1 r.2.2) := by
  have hM : px_P[79]? = some pm_M_write2 := rfl
  unfold f_M_write2_28 at h
  refine px_blk (i' := 3) (L' := [some (.ref 28), some (.int a0), some (.int a1), some (.int a2), none]) (S' := []) (w' := px_w K (sR s 25 (0 : Int32)) t) (q := []) 3 hM rfl trivial ?_
  obtain ⟨s1, hs2, h⟩ := px_let_some h
  rw [← hs2]
  refine px_blk (i' := 4) (L' := [some (.ref 28), some (.int a0), some (.int a1), some (.int a2), none]) (S' := [.ref 28]) (w' := px_w K s1 t) (q := []) 1 hM rfl trivial ?_
  rcases px_bi_some h with ⟨v6, s3, t4, hk5, h⟩ | ⟨x7, s3, t4, hk5, h⟩
  · refine px_E_call hM rfl rfl rfl rfl (px_E_mono (by decide) (e_M_begins_28 K N s1 t _ hk5)) ?_
    refine px_blkif (c := ¬ v6 = 0) (t := 8) (e := 6) (L' := [some (.ref 28), some (.int a0), some (.int a1), some (.int a2), none]) (S' := []) (w' := px_w K s3 t4) (q := []) 1 hM rfl trivial (fun hc8 => ?_) (fun hc8 => ?_)
    · rw [if_pos hc8] at h
      refine px_blk (i' := 11) (L' := [some (.ref 28), some (.int a0), some (.int a1), some (.int a2), none]) (S' := [.int (2 : Int32), .int a0, .ref 28]) (w' := px_w K s3 t4) (q := []) 3 hM rfl trivial ?_
      rcases px_bi_some h with ⟨v12, s9, t10, hk11, h⟩ | ⟨x13, s9, t10, hk11, h⟩
      · refine px_E_call hM rfl rfl rfl rfl (px_E_mono (by decide) (e_M_isKind_28 K N a0 (2 : Int32) s3 t4 _ hk11)) ?_
        refine px_blkif (c := v12 = 0) (t := 18) (e := 13) (L' := [some (.ref 28), some (.int a0), some (.int a1), some (.int a2), none]) (S' := []) (w' := px_w K s9 t10) (q := []) 1 hM rfl trivial (fun hc14 => ?_) (fun hc14 => ?_)
        · rw [if_pos hc14] at h
          refine px_blk (i' := 19) (L' := [some (.ref 28), some (.int a0), some (.int a1), some (.int a2), none]) (S' := [.int (-4 : Int32)]) (w' := px_w K s9 t10) (q := []) 1 hM rfl trivial ?_
          cases h
          exact px_E_ret hM rfl rfl rfl trivial
        · rw [if_neg hc14] at h
          refine px_blkif (c := a1 < 0) (t := 18) (e := 15) (L' := [some (.ref 28), some (.int a0), some (.int a1), some (.int a2), none]) (S' := []) (w' := px_w K s9 t10) (q := []) 2 hM rfl trivial (fun hc15 => ?_) (fun hc15 => ?_)
          · rw [if_pos hc15] at h
            refine px_blk (i' := 19) (L' := [some (.ref 28), some (.int a0), some (.int a1), some (.int a2), none]) (S' := [.int (-4 : Int32)]) (w' := px_w K s9 t10) (q := []) 1 hM rfl trivial ?_
            cases h
            exact px_E_ret hM rfl rfl rfl trivial
          · rw [if_neg hc15] at h
            refine px_blkif (c := a1 < (320 : Int32)) (t := 20) (e := 18) (L' := [some (.ref 28), some (.int a0), some (.int a1), some (.int a2), none]) (S' := []) (w' := px_w K s9 t10) (q := []) 3 hM rfl trivial (fun hc16 => ?_) (fun hc16 => ?_)
            · rw [if_pos hc16] at h
              refine px_blk (i' := 25) (L' := [some (.ref 28), some (.int a0), some (.int a1), some (.int a2), none]) (S' := [.int (a1 / (16 : Int32)), .int a0, .ref 28]) (w' := px_w K s9 t10) (q := [¬ (16 : Int32) = 0]) 5 hM rfl (show ¬ (16 : Int32) = 0 from (by decide)) ?_
              rcases px_bi_some h with ⟨v20, s17, t18, hk19, h⟩ | ⟨x21, s17, t18, hk19, h⟩
              · refine px_E_call hM rfl rfl rfl rfl (px_E_mono (by decide) (e_M_blockOf_28 K N a0 (a1 / (16 : Int32)) s9 t10 _ hk19)) ?_
                refine px_blkif (c := ¬ v20 = 0) (t := 48) (e := 29) (L' := [some (.ref 28), some (.int a0), some (.int a1), some (.int a2), some (.int v20)]) (S' := []) (w' := px_w K s17 t18) (q := []) 3 hM rfl trivial (fun hc22 => ?_) (fun hc22 => ?_)
                · rw [if_pos hc22] at h
                  refine px_blk (i' := 50) (L' := [some (.ref 28), some (.int a0), some (.int a1), some (.int a2), some (.int v20)]) (S' := [.int v20, .ref 28]) (w' := px_w K s17 t18) (q := []) 2 hM rfl trivial ?_
                  rcases px_bv_some h with ⟨s23, t24, hk25, h⟩ | ⟨x27, s23, t24, hk25, h⟩
                  · refine px_E_call hM rfl rfl rfl rfl (px_E_mono (by decide) (e_M_fetch_28 K N v20 s17 t18 _ hk25)) ?_
                    refine px_blkif (c := ¬ (s23.1 29) = 0) (t := 56) (e := 54) (L' := [some (.ref 28), some (.int a0), some (.int a1), some (.int a2), some (.int v20)]) (S' := []) (w' := px_w K s23 t24) (q := []) 3 hM rfl trivial (fun hc28 => ?_) (fun hc28 => ?_)
                    · rw [if_pos hc28] at h
                      refine px_blk (i' := 62) (L' := [some (.ref 28), some (.int a0), some (.int a1), some (.int a2), some (.int v20)]) (S' := [.int a2, .int (a1 - a1 / (16 : Int32) * (16 : Int32)), .int v20, .ref 28]) (w' := px_w K s23 t24) (q := [¬ (16 : Int32) = 0]) 6 hM rfl (show ¬ (16 : Int32) = 0 from (by decide)) ?_
                      rcases px_bv_some h with ⟨s29, t30, hk31, h⟩ | ⟨x33, s29, t30, hk31, h⟩
                      · refine px_E_call hM rfl rfl rfl rfl (px_E_mono (by decide) (e_M_tell_28 K N v20 (a1 - a1 / (16 : Int32) * (16 : Int32)) a2 s23 t24 _ hk31)) ?_
                        refine px_blk (i' := 67) (L' := [some (.ref 28), some (.int a0), some (.int a1), some (.int a2), some (.int v20)]) (S' := [.int (1 : Int32), .int a0, .ref 28, .int a1]) (w' := px_w K s29 t30) (q := []) 4 hM rfl trivial ?_
                        rcases px_bi_some h with ⟨v37, s34, t35, hk36, h⟩ | ⟨x38, s34, t35, hk36, h⟩
                        · refine px_E_call hM rfl rfl rfl rfl (px_E_mono (by decide) (e_M_ofInode_28 K N a0 (1 : Int32) s29 t30 _ hk36)) ?_
                          refine px_blkif (c := a1 < v37) (t := 76) (e := 69) (L' := [some (.ref 28), some (.int a0), some (.int a1), some (.int a2), some (.int v20)]) (S' := []) (w' := px_w K s34 t35) (q := []) 1 hM rfl trivial (fun hc39 => ?_) (fun hc39 => ?_)
                          · rw [if_pos hc39] at h
                            refine px_blk (i' := 79) (L' := [some (.ref 28), some (.int a0), some (.int a1), some (.int a2), some (.int v20)]) (S' := [.int (1 : Int32), .int a0, .ref 28]) (w' := px_w K s34 t35) (q := []) 3 hM rfl trivial ?_
                            rcases px_bi_some h with ⟨v43, s40, t41, hk42, h⟩ | ⟨x44, s40, t41, hk42, h⟩
                            · refine px_E_call hM rfl rfl rfl rfl (px_E_mono (by decide) (e_M_ofInode_28 K N a0 (1 : Int32) s34 t35 _ hk42)) ?_
                              cases h
                              exact px_E_ret hM rfl rfl rfl trivial
                            · cases h
                          · rw [if_neg hc39] at h
                            refine px_blk (i' := 75) (L' := [some (.ref 28), some (.int a0), some (.int a1), some (.int a2), some (.int v20)]) (S' := [.int (a1 + (1 : Int32)), .int (1 : Int32), .int a0, .ref 28]) (w' := px_w K s34 t35) (q := []) 6 hM rfl trivial ?_
                            rcases px_bv_some h with ⟨s45, t46, hk47, h⟩ | ⟨x49, s45, t46, hk47, h⟩
                            · refine px_E_call hM rfl rfl rfl rfl (px_E_mono (by decide) (e_M_tellInode_28 K N a0 (1 : Int32) (a1 + (1 : Int32)) s34 t35 _ hk47)) ?_
                              refine px_blk (i' := 79) (L' := [some (.ref 28), some (.int a0), some (.int a1), some (.int a2), some (.int v20)]) (S' := [.int (1 : Int32), .int a0, .ref 28]) (w' := px_w K s45 t46) (q := []) 3 hM rfl trivial ?_
                              rcases px_bi_some h with ⟨v53, s50, t51, hk52, h⟩ | ⟨x54, s50, t51, hk52, h⟩
                              · refine px_E_call hM rfl rfl rfl rfl (px_E_mono (by decide) (e_M_ofInode_28 K N a0 (1 : Int32) s45 t46 _ hk52)) ?_
                                cases h
                                exact px_E_ret hM rfl rfl rfl trivial
                              · cases h
                            · cases h
                        · cases h
                      · cases h
                    · rw [if_neg hc28] at h
                      refine px_blk (i' := 55) (L' := [some (.ref 28), some (.int a0), some (.int a1), some (.int a2), some (.int v20)]) (S' := [.int (-9 : Int32)]) (w' := px_w K s23 t24) (q := []) 1 hM rfl trivial ?_
                      cases h
                      exact px_E_ret hM rfl rfl rfl trivial
                  · cases h
                · rw [if_neg hc22] at h
                  refine px_blk (i' := 34) (L' := [some (.ref 28), some (.int a0), some (.int a1), some (.int a2), some (.int v20)]) (S' := [.int (a1 / (16 : Int32)), .int a0, .ref 28]) (w' := px_w K s17 t18) (q := [¬ (16 : Int32) = 0]) 5 hM rfl (show ¬ (16 : Int32) = 0 from (by decide)) ?_
                  rcases px_bi_some h with ⟨v58, s55, t56, hk57, h⟩ | ⟨x59, s55, t56, hk57, h⟩
                  · refine px_E_call hM rfl rfl rfl rfl (px_E_mono (by decide) (e_M_wants_28 K N a0 (a1 / (16 : Int32)) s17 t18 _ hk57)) ?_
                    refine px_blk (i' := 36) (L' := [some (.ref 28), some (.int a0), some (.int a1), some (.int a2), some (.int v20)]) (S' := [.ref 28, .int v58]) (w' := px_w K s55 t56) (q := []) 1 hM rfl trivial ?_
                    rcases px_bi_some h with ⟨v63, s60, t61, hk62, h⟩ | ⟨x64, s60, t61, hk62, h⟩
                    · refine px_E_call hM rfl rfl rfl rfl (px_E_mono (by decide) (e_M_left_28 K N s55 t56 _ hk62)) ?_
                      refine px_blkif (c := v58 ≤ v63) (t := 40) (e := 38) (L' := [some (.ref 28), some (.int a0), some (.int a1), some (.int a2), some (.int v20)]) (S' := []) (w' := px_w K s60 t61) (q := []) 1 hM rfl trivial (fun hc65 => ?_) (fun hc65 => ?_)
                      · rw [if_pos hc65] at h
                        refine px_blk (i' := 45) (L' := [some (.ref 28), some (.int a0), some (.int a1), some (.int a2), some (.int v20)]) (S' := [.int (a1 / (16 : Int32)), .int a0, .ref 28]) (w' := px_w K s60 t61) (q := [¬ (16 : Int32) = 0]) 5 hM rfl (show ¬ (16 : Int32) = 0 from (by decide)) ?_
                        rcases px_bi_some h with ⟨v69, s66, t67, hk68, h⟩ | ⟨x70, s66, t67, hk68, h⟩
                        · refine px_E_call hM rfl rfl rfl rfl (px_E_mono (by decide) (e_M_takeFor_28 K N a0 (a1 / (16 : Int32)) s60 t61 _ hk68)) ?_
                          refine px_blkif (c := ¬ (s66.1 29) = 0) (t := 56) (e := 54) (L' := [some (.ref 28), some (.int a0), some (.int a1), some (.int a2), some (.int v69)]) (S' := []) (w' := px_w K s66 t67) (q := []) 5 hM rfl trivial (fun hc71 => ?_) (fun hc71 => ?_)
                          · rw [if_pos hc71] at h
                            refine px_blk (i' := 62) (L' := [some (.ref 28), some (.int a0), some (.int a1), some (.int a2), some (.int v69)]) (S' := [.int a2, .int (a1 - a1 / (16 : Int32) * (16 : Int32)), .int v69, .ref 28]) (w' := px_w K s66 t67) (q := [¬ (16 : Int32) = 0]) 6 hM rfl (show ¬ (16 : Int32) = 0 from (by decide)) ?_
                            rcases px_bv_some h with ⟨s72, t73, hk74, h⟩ | ⟨x76, s72, t73, hk74, h⟩
                            · refine px_E_call hM rfl rfl rfl rfl (px_E_mono (by decide) (e_M_tell_28 K N v69 (a1 - a1 / (16 : Int32) * (16 : Int32)) a2 s66 t67 _ hk74)) ?_
                              refine px_blk (i' := 67) (L' := [some (.ref 28), some (.int a0), some (.int a1), some (.int a2), some (.int v69)]) (S' := [.int (1 : Int32), .int a0, .ref 28, .int a1]) (w' := px_w K s72 t73) (q := []) 4 hM rfl trivial ?_
                              rcases px_bi_some h with ⟨v80, s77, t78, hk79, h⟩ | ⟨x81, s77, t78, hk79, h⟩
                              · refine px_E_call hM rfl rfl rfl rfl (px_E_mono (by decide) (e_M_ofInode_28 K N a0 (1 : Int32) s72 t73 _ hk79)) ?_
                                refine px_blkif (c := a1 < v80) (t := 76) (e := 69) (L' := [some (.ref 28), some (.int a0), some (.int a1), some (.int a2), some (.int v69)]) (S' := []) (w' := px_w K s77 t78) (q := []) 1 hM rfl trivial (fun hc82 => ?_) (fun hc82 => ?_)
                                · rw [if_pos hc82] at h
                                  refine px_blk (i' := 79) (L' := [some (.ref 28), some (.int a0), some (.int a1), some (.int a2), some (.int v69)]) (S' := [.int (1 : Int32), .int a0, .ref 28]) (w' := px_w K s77 t78) (q := []) 3 hM rfl trivial ?_
                                  rcases px_bi_some h with ⟨v86, s83, t84, hk85, h⟩ | ⟨x87, s83, t84, hk85, h⟩
                                  · refine px_E_call hM rfl rfl rfl rfl (px_E_mono (by decide) (e_M_ofInode_28 K N a0 (1 : Int32) s77 t78 _ hk85)) ?_
                                    cases h
                                    exact px_E_ret hM rfl rfl rfl trivial
                                  · cases h
                                · rw [if_neg hc82] at h
                                  refine px_blk (i' := 75) (L' := [some (.ref 28), some (.int a0), some (.int a1), some (.int a2), some (.int v69)]) (S' := [.int (a1 + (1 : Int32)), .int (1 : Int32), .int a0, .ref 28]) (w' := px_w K s77 t78) (q := []) 6 hM rfl trivial ?_
                                  rcases px_bv_some h with ⟨s88, t89, hk90, h⟩ | ⟨x92, s88, t89, hk90, h⟩
                                  · refine px_E_call hM rfl rfl rfl rfl (px_E_mono (by decide) (e_M_tellInode_28 K N a0 (1 : Int32) (a1 + (1 : Int32)) s77 t78 _ hk90)) ?_
                                    refine px_blk (i' := 79) (L' := [some (.ref 28), some (.int a0), some (.int a1), some (.int a2), some (.int v69)]) (S' := [.int (1 : Int32), .int a0, .ref 28]) (w' := px_w K s88 t89) (q := []) 3 hM rfl trivial ?_
                                    rcases px_bi_some h with ⟨v96, s93, t94, hk95, h⟩ | ⟨x97, s93, t94, hk95, h⟩
                                    · refine px_E_call hM rfl rfl rfl rfl (px_E_mono (by decide) (e_M_ofInode_28 K N a0 (1 : Int32) s88 t89 _ hk95)) ?_
                                      cases h
                                      exact px_E_ret hM rfl rfl rfl trivial
                                    · cases h
                                  · cases h
                              · cases h
                            · cases h
                          · rw [if_neg hc71] at h
                            refine px_blk (i' := 55) (L' := [some (.ref 28), some (.int a0), some (.int a1), some (.int a2), some (.int v69)]) (S' := [.int (-9 : Int32)]) (w' := px_w K s66 t67) (q := []) 1 hM rfl trivial ?_
                            cases h
                            exact px_E_ret hM rfl rfl rfl trivial
                        · cases h
                      · rw [if_neg hc65] at h
                        refine px_blk (i' := 39) (L' := [some (.ref 28), some (.int a0), some (.int a1), some (.int a2), some (.int v20)]) (S' := [.int (-3 : Int32)]) (w' := px_w K s60 t61) (q := []) 1 hM rfl trivial ?_
                        cases h
                        exact px_E_ret hM rfl rfl rfl trivial
                    · cases h
                  · cases h
              · cases h
            · rw [if_neg hc16] at h
              refine px_blk (i' := 19) (L' := [some (.ref 28), some (.int a0), some (.int a1), some (.int a2), none]) (S' := [.int (-4 : Int32)]) (w' := px_w K s9 t10) (q := []) 1 hM rfl trivial ?_
              cases h
              exact px_E_ret hM rfl rfl rfl trivial
      · cases h
    · rw [if_neg hc8] at h
      refine px_blk (i' := 7) (L' := [some (.ref 28), some (.int a0), some (.int a1), some (.int a2), none]) (S' := [.int (-9 : Int32)]) (w' := px_w K s3 t4) (q := []) 1 hM rfl trivial ?_
      cases h
      exact px_E_ret hM rfl rfl rfl trivial
  · cases h
noncomputable def f_M_read2_28 (K : px_K) (N : Nat) (a0 : Int32) (a1 : Int32) (s : px_S) (t : px_W) : Option px_Res :=
  (if ¬ (s.1 29) = 0 then (px_bi (f_M_isKind_28 K N a0 (2 : Int32) s t) (fun v5 s2 t3 => (if v5 = 0 then (px_let (sR s2 25 (2 : Int32)) (fun s8 => (if (s8.1 25) ≤ 0 then (px_bi (f_M_blockOf_28 K N a0 (a1 / (16 : Int32)) s8 t3) (fun v14 s11 t12 => (if ¬ v14 = 0 then (px_bv (f_M_fetch_28 K N v14 s11 t12) (fun s17 t18 => (if (s17.1 29) = 0 then (px_let (sR s17 25 (1 : Int32)) (fun s23 => (if (s23.1 25) ≤ 0 then (px_bi (f_M_word_28 K N v14 (a1 - a1 / (16 : Int32) * (16 : Int32)) s23 t18) (fun v29 s26 t27 => (some (.inl (some (.int v29)), s26, t27))) (fun x30 s26 t27 => none)) else (some (.inl (some (.int (0 : Int32))), s23, t18))))) else (px_let (sR s17 25 (0 : Int32)) (fun s31 => (if (s31.1 25) ≤ 0 then (px_bi (f_M_word_28 K N v14 (a1 - a1 / (16 : Int32) * (16 : Int32)) s31 t18) (fun v37 s34 t35 => (some (.inl (some (.int v37)), s34, t35))) (fun x38 s34 t35 => none)) else (some (.inl (some (.int (0 : Int32))), s31, t18))))))) (fun x21 s17 t18 => none)) else (some (.inl (some (.int (0 : Int32))), s11, t12)))) (fun x15 s11 t12 => none)) else (some (.inl (some (.int (0 : Int32))), s8, t3))))) else (if a1 < 0 then (px_let (sR s2 25 (2 : Int32)) (fun s40 => (if (s40.1 25) ≤ 0 then (px_bi (f_M_blockOf_28 K N a0 (a1 / (16 : Int32)) s40 t3) (fun v46 s43 t44 => (if ¬ v46 = 0 then (px_bv (f_M_fetch_28 K N v46 s43 t44) (fun s49 t50 => (if (s49.1 29) = 0 then (px_let (sR s49 25 (1 : Int32)) (fun s55 => (if (s55.1 25) ≤ 0 then (px_bi (f_M_word_28 K N v46 (a1 - a1 / (16 : Int32) * (16 : Int32)) s55 t50) (fun v61 s58 t59 => (some (.inl (some (.int v61)), s58, t59))) (fun x62 s58 t59 => none)) else (some (.inl (some (.int (0 : Int32))), s55, t50))))) else (px_let (sR s49 25 (0 : Int32)) (fun s63 => (if (s63.1 25) ≤ 0 then (px_bi (f_M_word_28 K N v46 (a1 - a1 / (16 : Int32) * (16 : Int32)) s63 t50) (fun v69 s66 t67 => (some (.inl (some (.int v69)), s66, t67))) (fun x70 s66 t67 => none)) else (some (.inl (some (.int (0 : Int32))), s63, t50))))))) (fun x53 s49 t50 => none)) else (some (.inl (some (.int (0 : Int32))), s43, t44)))) (fun x47 s43 t44 => none)) else (some (.inl (some (.int (0 : Int32))), s40, t3))))) else (if a1 < (320 : Int32) then (px_let (sR s2 25 (0 : Int32)) (fun s72 => (if (s72.1 25) ≤ 0 then (px_bi (f_M_blockOf_28 K N a0 (a1 / (16 : Int32)) s72 t3) (fun v78 s75 t76 => (if ¬ v78 = 0 then (px_bv (f_M_fetch_28 K N v78 s75 t76) (fun s81 t82 => (if (s81.1 29) = 0 then (px_let (sR s81 25 (1 : Int32)) (fun s87 => (if (s87.1 25) ≤ 0 then (px_bi (f_M_word_28 K N v78 (a1 - a1 / (16 : Int32) * (16 : Int32)) s87 t82) (fun v93 s90 t91 => (some (.inl (some (.int v93)), s90, t91))) (fun x94 s90 t91 => none)) else (some (.inl (some (.int (0 : Int32))), s87, t82))))) else (px_let (sR s81 25 (0 : Int32)) (fun s95 => (if (s95.1 25) ≤ 0 then (px_bi (f_M_word_28 K N v78 (a1 - a1 / (16 : Int32) * (16 : Int32)) s95 t82) (fun v101 s98 t99 => (some (.inl (some (.int v101)), s98, t99))) (fun x102 s98 t99 => none)) else (some (.inl (some (.int (0 : Int32))), s95, t82))))))) (fun x85 s81 t82 => none)) else (some (.inl (some (.int (0 : Int32))), s75, t76)))) (fun x79 s75 t76 => none)) else (some (.inl (some (.int (0 : Int32))), s72, t3))))) else (px_let (sR s2 25 (2 : Int32)) (fun s103 => (if (s103.1 25) ≤ 0 then (px_bi (f_M_blockOf_28 K N a0 (a1 / (16 : Int32)) s103 t3) (fun v109 s106 t107 => (if ¬ v109 = 0 then (px_bv (f_M_fetch_28 K N v109 s106 t107) (fun s112 t113 => (if (s112.1 29) = 0 then (px_let (sR s112 25 (1 : Int32)) (fun s118 => (if (s118.1 25) ≤ 0 then (px_bi (f_M_word_28 K N v109 (a1 - a1 / (16 : Int32) * (16 : Int32)) s118 t113) (fun v124 s121 t122 => (some (.inl (some (.int v124)), s121, t122))) (fun x125 s121 t122 => none)) else (some (.inl (some (.int (0 : Int32))), s118, t113))))) else (px_let (sR s112 25 (0 : Int32)) (fun s126 => (if (s126.1 25) ≤ 0 then (px_bi (f_M_word_28 K N v109 (a1 - a1 / (16 : Int32) * (16 : Int32)) s126 t113) (fun v132 s129 t130 => (some (.inl (some (.int v132)), s129, t130))) (fun x133 s129 t130 => none)) else (some (.inl (some (.int (0 : Int32))), s126, t113))))))) (fun x116 s112 t113 => none)) else (some (.inl (some (.int (0 : Int32))), s106, t107)))) (fun x110 s106 t107 => none)) else (some (.inl (some (.int (0 : Int32))), s103, t3))))))))) (fun x6 s2 t3 => none)) else (px_let (sR s 25 (1 : Int32)) (fun s134 => (if (s134.1 25) ≤ 0 then (px_bi (f_M_blockOf_28 K N a0 (a1 / (16 : Int32)) s134 t) (fun v140 s137 t138 => (if ¬ v140 = 0 then (px_bv (f_M_fetch_28 K N v140 s137 t138) (fun s143 t144 => (if (s143.1 29) = 0 then (px_let (sR s143 25 (1 : Int32)) (fun s149 => (if (s149.1 25) ≤ 0 then (px_bi (f_M_word_28 K N v140 (a1 - a1 / (16 : Int32) * (16 : Int32)) s149 t144) (fun v155 s152 t153 => (some (.inl (some (.int v155)), s152, t153))) (fun x156 s152 t153 => none)) else (some (.inl (some (.int (0 : Int32))), s149, t144))))) else (px_let (sR s143 25 (0 : Int32)) (fun s157 => (if (s157.1 25) ≤ 0 then (px_bi (f_M_word_28 K N v140 (a1 - a1 / (16 : Int32) * (16 : Int32)) s157 t144) (fun v163 s160 t161 => (some (.inl (some (.int v163)), s160, t161))) (fun x164 s160 t161 => none)) else (some (.inl (some (.int (0 : Int32))), s157, t144))))))) (fun x147 s143 t144 => none)) else (some (.inl (some (.int (0 : Int32))), s137, t138)))) (fun x141 s137 t138 => none)) else (some (.inl (some (.int (0 : Int32))), s134, t))))))
set_option maxRecDepth 100000 in
theorem e_M_read2_28 (K : px_K) (N : Nat) (a0 : Int32) (a1 : Int32) (s : px_S) (t : px_W) (r : px_Res) (h : f_M_read2_28 K N a0 a1 s t = some r) : px_E px_ET px_P 8 80 0 (px_ent 4 [.ref 28, .int a0, .int a1]) [] (px_w K s t) r.1 (px_w K r.2.1 r.2.2) := by
  have hM : px_P[80]? = some pm_M_read2 := rfl
  unfold f_M_read2_28 at h
  refine px_blkif (c := ¬ (s.1 29) = 0) (t := 6) (e := 4) (L' := [some (.ref 28), some (.int a0), some (.int a1), none]) (S' := [.ref 28]) (w' := px_w K s t) (q := []) 4 hM rfl trivial (fun hc1 => ?_) (fun hc1 => ?_)
  · rw [if_pos hc1] at h
    refine px_blk (i' := 9) (L' := [some (.ref 28), some (.int a0), some (.int a1), none]) (S' := [.int (2 : Int32), .int a0, .ref 28, .ref 28]) (w' := px_w K s t) (q := []) 3 hM rfl trivial ?_
    rcases px_bi_some h with ⟨v5, s2, t3, hk4, h⟩ | ⟨x6, s2, t3, hk4, h⟩
    · refine px_E_call hM rfl rfl rfl rfl (px_E_mono (by decide) (e_M_isKind_28 K N a0 (2 : Int32) s t _ hk4)) ?_
      refine px_blkif (c := v5 = 0) (t := 16) (e := 11) (L' := [some (.ref 28), some (.int a0), some (.int a1), none]) (S' := [.ref 28]) (w' := px_w K s2 t3) (q := []) 1 hM rfl trivial (fun hc7 => ?_) (fun hc7 => ?_)
      · rw [if_pos hc7] at h
        refine px_blk (i' := 20) (L' := [some (.ref 28), some (.int a0), some (.int a1), none]) (S' := []) (w' := px_w K (sR s2 25 (2 : Int32)) t3) (q := []) 3 hM rfl trivial ?_
        obtain ⟨s8, hs9, h⟩ := px_let_some h
        rw [← hs9]
        refine px_blkif (c := (s8.1 25) ≤ 0) (t := 25) (e := 23) (L' := [some (.ref 28), some (.int a0), some (.int a1), none]) (S' := []) (w' := px_w K s8 t3) (q := []) 3 hM rfl trivial (fun hc10 => ?_) (fun hc10 => ?_)
        · rw [if_pos hc10] at h
          refine px_blk (i' := 30) (L' := [some (.ref 28), some (.int a0), some (.int a1), none]) (S' := [.int (a1 / (16 : Int32)), .int a0, .ref 28]) (w' := px_w K s8 t3) (q := [¬ (16 : Int32) = 0]) 5 hM rfl (show ¬ (16 : Int32) = 0 from (by decide)) ?_
          rcases px_bi_some h with ⟨v14, s11, t12, hk13, h⟩ | ⟨x15, s11, t12, hk13, h⟩
          · refine px_E_call hM rfl rfl rfl rfl (px_E_mono (by decide) (e_M_blockOf_28 K N a0 (a1 / (16 : Int32)) s8 t3 _ hk13)) ?_
            refine px_blkif (c := ¬ v14 = 0) (t := 36) (e := 34) (L' := [some (.ref 28), some (.int a0), some (.int a1), some (.int v14)]) (S' := []) (w' := px_w K s11 t12) (q := []) 3 hM rfl trivial (fun hc16 => ?_) (fun hc16 => ?_)
            · rw [if_pos hc16] at h
              refine px_blk (i' := 38) (L' := [some (.ref 28), some (.int a0), some (.int a1), some (.int v14)]) (S' := [.int v14, .ref 28]) (w' := px_w K s11 t12) (q := []) 2 hM rfl trivial ?_
              rcases px_bv_some h with ⟨s17, t18, hk19, h⟩ | ⟨x21, s17, t18, hk19, h⟩
              · refine px_E_call hM rfl rfl rfl rfl (px_E_mono (by decide) (e_M_fetch_28 K N v14 s11 t12 _ hk19)) ?_
                refine px_blkif (c := (s17.1 29) = 0) (t := 45) (e := 43) (L' := [some (.ref 28), some (.int a0), some (.int a1), some (.int v14)]) (S' := [.ref 28]) (w' := px_w K s17 t18) (q := []) 4 hM rfl trivial (fun hc22 => ?_) (fun hc22 => ?_)
                · rw [if_pos hc22] at h
                  refine px_blk (i' := 47) (L' := [some (.ref 28), some (.int a0), some (.int a1), some (.int v14)]) (S' := []) (w' := px_w K (sR s17 25 (1 : Int32)) t18) (q := []) 2 hM rfl trivial ?_
                  obtain ⟨s23, hs24, h⟩ := px_let_some h
                  rw [← hs24]
                  refine px_blkif (c := (s23.1 25) ≤ 0) (t := 52) (e := 50) (L' := [some (.ref 28), some (.int a0), some (.int a1), some (.int v14)]) (S' := []) (w' := px_w K s23 t18) (q := []) 3 hM rfl trivial (fun hc25 => ?_) (fun hc25 => ?_)
                  · rw [if_pos hc25] at h
                    refine px_blk (i' := 57) (L' := [some (.ref 28), some (.int a0), some (.int a1), some (.int v14)]) (S' := [.int (a1 - a1 / (16 : Int32) * (16 : Int32)), .int v14, .ref 28]) (w' := px_w K s23 t18) (q := [¬ (16 : Int32) = 0]) 5 hM rfl (show ¬ (16 : Int32) = 0 from (by decide)) ?_
                    rcases px_bi_some h with ⟨v29, s26, t27, hk28, h⟩ | ⟨x30, s26, t27, hk28, h⟩
                    · refine px_E_call hM rfl rfl rfl rfl (px_E_mono (by decide) (e_M_word_28 K N v14 (a1 - a1 / (16 : Int32) * (16 : Int32)) s23 t18 _ hk28)) ?_
                      cases h
                      exact px_E_ret hM rfl rfl rfl trivial
                    · cases h
                  · rw [if_neg hc25] at h
                    refine px_blk (i' := 58) (L' := [some (.ref 28), some (.int a0), some (.int a1), some (.int v14)]) (S' := [.int (0 : Int32)]) (w' := px_w K s23 t18) (q := []) 2 hM rfl trivial ?_
                    cases h
                    exact px_E_ret hM rfl rfl rfl trivial
                · rw [if_neg hc22] at h
                  refine px_blk (i' := 47) (L' := [some (.ref 28), some (.int a0), some (.int a1), some (.int v14)]) (S' := []) (w' := px_w K (sR s17 25 (0 : Int32)) t18) (q := []) 3 hM rfl trivial ?_
                  obtain ⟨s31, hs32, h⟩ := px_let_some h
                  rw [← hs32]
                  refine px_blkif (c := (s31.1 25) ≤ 0) (t := 52) (e := 50) (L' := [some (.ref 28), some (.int a0), some (.int a1), some (.int v14)]) (S' := []) (w' := px_w K s31 t18) (q := []) 3 hM rfl trivial (fun hc33 => ?_) (fun hc33 => ?_)
                  · rw [if_pos hc33] at h
                    refine px_blk (i' := 57) (L' := [some (.ref 28), some (.int a0), some (.int a1), some (.int v14)]) (S' := [.int (a1 - a1 / (16 : Int32) * (16 : Int32)), .int v14, .ref 28]) (w' := px_w K s31 t18) (q := [¬ (16 : Int32) = 0]) 5 hM rfl (show ¬ (16 : Int32) = 0 from (by decide)) ?_
                    rcases px_bi_some h with ⟨v37, s34, t35, hk36, h⟩ | ⟨x38, s34, t35, hk36, h⟩
                    · refine px_E_call hM rfl rfl rfl rfl (px_E_mono (by decide) (e_M_word_28 K N v14 (a1 - a1 / (16 : Int32) * (16 : Int32)) s31 t18 _ hk36)) ?_
                      cases h
                      exact px_E_ret hM rfl rfl rfl trivial
                    · cases h
                  · rw [if_neg hc33] at h
                    refine px_blk (i' := 58) (L' := [some (.ref 28), some (.int a0), some (.int a1), some (.int v14)]) (S' := [.int (0 : Int32)]) (w' := px_w K s31 t18) (q := []) 2 hM rfl trivial ?_
                    cases h
                    exact px_E_ret hM rfl rfl rfl trivial
              · cases h
            · rw [if_neg hc16] at h
              refine px_blk (i' := 35) (L' := [some (.ref 28), some (.int a0), some (.int a1), some (.int v14)]) (S' := [.int (0 : Int32)]) (w' := px_w K s11 t12) (q := []) 1 hM rfl trivial ?_
              cases h
              exact px_E_ret hM rfl rfl rfl trivial
          · cases h
        · rw [if_neg hc10] at h
          refine px_blk (i' := 24) (L' := [some (.ref 28), some (.int a0), some (.int a1), none]) (S' := [.int (0 : Int32)]) (w' := px_w K s8 t3) (q := []) 1 hM rfl trivial ?_
          cases h
          exact px_E_ret hM rfl rfl rfl trivial
      · rw [if_neg hc7] at h
        refine px_blkif (c := a1 < 0) (t := 16) (e := 13) (L' := [some (.ref 28), some (.int a0), some (.int a1), none]) (S' := [.ref 28]) (w' := px_w K s2 t3) (q := []) 2 hM rfl trivial (fun hc39 => ?_) (fun hc39 => ?_)
        · rw [if_pos hc39] at h
          refine px_blk (i' := 20) (L' := [some (.ref 28), some (.int a0), some (.int a1), none]) (S' := []) (w' := px_w K (sR s2 25 (2 : Int32)) t3) (q := []) 3 hM rfl trivial ?_
          obtain ⟨s40, hs41, h⟩ := px_let_some h
          rw [← hs41]
          refine px_blkif (c := (s40.1 25) ≤ 0) (t := 25) (e := 23) (L' := [some (.ref 28), some (.int a0), some (.int a1), none]) (S' := []) (w' := px_w K s40 t3) (q := []) 3 hM rfl trivial (fun hc42 => ?_) (fun hc42 => ?_)
          · rw [if_pos hc42] at h
            refine px_blk (i' := 30) (L' := [some (.ref 28), some (.int a0), some (.int a1), none]) (S' := [.int (a1 / (16 : Int32)), .int a0, .ref 28]) (w' := px_w K s40 t3) (q := [¬ (16 : Int32) = 0]) 5 hM rfl (show ¬ (16 : Int32) = 0 from (by decide)) ?_
            rcases px_bi_some h with ⟨v46, s43, t44, hk45, h⟩ | ⟨x47, s43, t44, hk45, h⟩
            · refine px_E_call hM rfl rfl rfl rfl (px_E_mono (by decide) (e_M_blockOf_28 K N a0 (a1 / (16 : Int32)) s40 t3 _ hk45)) ?_
              refine px_blkif (c := ¬ v46 = 0) (t := 36) (e := 34) (L' := [some (.ref 28), some (.int a0), some (.int a1), some (.int v46)]) (S' := []) (w' := px_w K s43 t44) (q := []) 3 hM rfl trivial (fun hc48 => ?_) (fun hc48 => ?_)
              · rw [if_pos hc48] at h
                refine px_blk (i' := 38) (L' := [some (.ref 28), some (.int a0), some (.int a1), some (.int v46)]) (S' := [.int v46, .ref 28]) (w' := px_w K s43 t44) (q := []) 2 hM rfl trivial ?_
                rcases px_bv_some h with ⟨s49, t50, hk51, h⟩ | ⟨x53, s49, t50, hk51, h⟩
                · refine px_E_call hM rfl rfl rfl rfl (px_E_mono (by decide) (e_M_fetch_28 K N v46 s43 t44 _ hk51)) ?_
                  refine px_blkif (c := (s49.1 29) = 0) (t := 45) (e := 43) (L' := [some (.ref 28), some (.int a0), some (.int a1), some (.int v46)]) (S' := [.ref 28]) (w' := px_w K s49 t50) (q := []) 4 hM rfl trivial (fun hc54 => ?_) (fun hc54 => ?_)
                  · rw [if_pos hc54] at h
                    refine px_blk (i' := 47) (L' := [some (.ref 28), some (.int a0), some (.int a1), some (.int v46)]) (S' := []) (w' := px_w K (sR s49 25 (1 : Int32)) t50) (q := []) 2 hM rfl trivial ?_
                    obtain ⟨s55, hs56, h⟩ := px_let_some h
                    rw [← hs56]
                    refine px_blkif (c := (s55.1 25) ≤ 0) (t := 52) (e := 50) (L' := [some (.ref 28), some (.int a0), some (.int a1), some (.int v46)]) (S' := []) (w' := px_w K s55 t50) (q := []) 3 hM rfl trivial (fun hc57 => ?_) (fun hc57 => ?_)
                    · rw [if_pos hc57] at h
                      refine px_blk (i' := 57) (L' := [some (.ref 28), some (.int a0), some (.int a1), some (.int v46)]) (S' := [.int (a1 - a1 / (16 : Int32) * (16 : Int32)), .int v46, .ref 28]) (w' := px_w K s55 t50) (q := [¬ (16 : Int32) = 0]) 5 hM rfl (show ¬ (16 : Int32) = 0 from (by decide)) ?_
                      rcases px_bi_some h with ⟨v61, s58, t59, hk60, h⟩ | ⟨x62, s58, t59, hk60, h⟩
                      · refine px_E_call hM rfl rfl rfl rfl (px_E_mono (by decide) (e_M_word_28 K N v46 (a1 - a1 / (16 : Int32) * (16 : Int32)) s55 t50 _ hk60)) ?_
                        cases h
                        exact px_E_ret hM rfl rfl rfl trivial
                      · cases h
                    · rw [if_neg hc57] at h
                      refine px_blk (i' := 58) (L' := [some (.ref 28), some (.int a0), some (.int a1), some (.int v46)]) (S' := [.int (0 : Int32)]) (w' := px_w K s55 t50) (q := []) 2 hM rfl trivial ?_
                      cases h
                      exact px_E_ret hM rfl rfl rfl trivial
                  · rw [if_neg hc54] at h
                    refine px_blk (i' := 47) (L' := [some (.ref 28), some (.int a0), some (.int a1), some (.int v46)]) (S' := []) (w' := px_w K (sR s49 25 (0 : Int32)) t50) (q := []) 3 hM rfl trivial ?_
                    obtain ⟨s63, hs64, h⟩ := px_let_some h
                    rw [← hs64]
                    refine px_blkif (c := (s63.1 25) ≤ 0) (t := 52) (e := 50) (L' := [some (.ref 28), some (.int a0), some (.int a1), some (.int v46)]) (S' := []) (w' := px_w K s63 t50) (q := []) 3 hM rfl trivial (fun hc65 => ?_) (fun hc65 => ?_)
                    · rw [if_pos hc65] at h
                      refine px_blk (i' := 57) (L' := [some (.ref 28), some (.int a0), some (.int a1), some (.int v46)]) (S' := [.int (a1 - a1 / (16 : Int32) * (16 : Int32)), .int v46, .ref 28]) (w' := px_w K s63 t50) (q := [¬ (16 : Int32) = 0]) 5 hM rfl (show ¬ (16 : Int32) = 0 from (by decide)) ?_
                      rcases px_bi_some h with ⟨v69, s66, t67, hk68, h⟩ | ⟨x70, s66, t67, hk68, h⟩
                      · refine px_E_call hM rfl rfl rfl rfl (px_E_mono (by decide) (e_M_word_28 K N v46 (a1 - a1 / (16 : Int32) * (16 : Int32)) s63 t50 _ hk68)) ?_
                        cases h
                        exact px_E_ret hM rfl rfl rfl trivial
                      · cases h
                    · rw [if_neg hc65] at h
                      refine px_blk (i' := 58) (L' := [some (.ref 28), some (.int a0), some (.int a1), some (.int v46)]) (S' := [.int (0 : Int32)]) (w' := px_w K s63 t50) (q := []) 2 hM rfl trivial ?_
                      cases h
                      exact px_E_ret hM rfl rfl rfl trivial
                · cases h
              · rw [if_neg hc48] at h
                refine px_blk (i' := 35) (L' := [some (.ref 28), some (.int a0), some (.int a1), some (.int v46)]) (S' := [.int (0 : Int32)]) (w' := px_w K s43 t44) (q := []) 1 hM rfl trivial ?_
                cases h
                exact px_E_ret hM rfl rfl rfl trivial
            · cases h
          · rw [if_neg hc42] at h
            refine px_blk (i' := 24) (L' := [some (.ref 28), some (.int a0), some (.int a1), none]) (S' := [.int (0 : Int32)]) (w' := px_w K s40 t3) (q := []) 1 hM rfl trivial ?_
            cases h
            exact px_E_ret hM rfl rfl rfl trivial
        · rw [if_neg hc39] at h
          refine px_blkif (c := a1 < (320 : Int32)) (t := 18) (e := 16) (L' := [some (.ref 28), some (.int a0), some (.int a1), none]) (S' := [.ref 28]) (w' := px_w K s2 t3) (q := []) 3 hM rfl trivial (fun hc71 => ?_) (fun hc71 => ?_)
          · rw [if_pos hc71] at h
            refine px_blk (i' := 20) (L' := [some (.ref 28), some (.int a0), some (.int a1), none]) (S' := []) (w' := px_w K (sR s2 25 (0 : Int32)) t3) (q := []) 2 hM rfl trivial ?_
            obtain ⟨s72, hs73, h⟩ := px_let_some h
            rw [← hs73]
            refine px_blkif (c := (s72.1 25) ≤ 0) (t := 25) (e := 23) (L' := [some (.ref 28), some (.int a0), some (.int a1), none]) (S' := []) (w' := px_w K s72 t3) (q := []) 3 hM rfl trivial (fun hc74 => ?_) (fun hc74 => ?_)
            · rw [if_pos hc74] at h
              refine px_blk (i' := 30) (L' := [some (.ref 28), some (.int a0), some (.int a1), none]) (S' := [.int (a1 / (16 : Int32)), .int a0, .ref 28]) (w' := px_w K s72 t3) (q := [¬ (16 : Int32) = 0]) 5 hM rfl (show ¬ (16 : Int32) = 0 from (by decide)) ?_
              rcases px_bi_some h with ⟨v78, s75, t76, hk77, h⟩ | ⟨x79, s75, t76, hk77, h⟩
              · refine px_E_call hM rfl rfl rfl rfl (px_E_mono (by decide) (e_M_blockOf_28 K N a0 (a1 / (16 : Int32)) s72 t3 _ hk77)) ?_
                refine px_blkif (c := ¬ v78 = 0) (t := 36) (e := 34) (L' := [some (.ref 28), some (.int a0), some (.int a1), some (.int v78)]) (S' := []) (w' := px_w K s75 t76) (q := []) 3 hM rfl trivial (fun hc80 => ?_) (fun hc80 => ?_)
                · rw [if_pos hc80] at h
                  refine px_blk (i' := 38) (L' := [some (.ref 28), some (.int a0), some (.int a1), some (.int v78)]) (S' := [.int v78, .ref 28]) (w' := px_w K s75 t76) (q := []) 2 hM rfl trivial ?_
                  rcases px_bv_some h with ⟨s81, t82, hk83, h⟩ | ⟨x85, s81, t82, hk83, h⟩
                  · refine px_E_call hM rfl rfl rfl rfl (px_E_mono (by decide) (e_M_fetch_28 K N v78 s75 t76 _ hk83)) ?_
                    refine px_blkif (c := (s81.1 29) = 0) (t := 45) (e := 43) (L' := [some (.ref 28), some (.int a0), some (.int a1), some (.int v78)]) (S' := [.ref 28]) (w' := px_w K s81 t82) (q := []) 4 hM rfl trivial (fun hc86 => ?_) (fun hc86 => ?_)
                    · rw [if_pos hc86] at h
                      refine px_blk (i' := 47) (L' := [some (.ref 28), some (.int a0), some (.int a1), some (.int v78)]) (S' := []) (w' := px_w K (sR s81 25 (1 : Int32)) t82) (q := []) 2 hM rfl trivial ?_
                      obtain ⟨s87, hs88, h⟩ := px_let_some h
                      rw [← hs88]
                      refine px_blkif (c := (s87.1 25) ≤ 0) (t := 52) (e := 50) (L' := [some (.ref 28), some (.int a0), some (.int a1), some (.int v78)]) (S' := []) (w' := px_w K s87 t82) (q := []) 3 hM rfl trivial (fun hc89 => ?_) (fun hc89 => ?_)
                      · rw [if_pos hc89] at h
                        refine px_blk (i' := 57) (L' := [some (.ref 28), some (.int a0), some (.int a1), some (.int v78)]) (S' := [.int (a1 - a1 / (16 : Int32) * (16 : Int32)), .int v78, .ref 28]) (w' := px_w K s87 t82) (q := [¬ (16 : Int32) = 0]) 5 hM rfl (show ¬ (16 : Int32) = 0 from (by decide)) ?_
                        rcases px_bi_some h with ⟨v93, s90, t91, hk92, h⟩ | ⟨x94, s90, t91, hk92, h⟩
                        · refine px_E_call hM rfl rfl rfl rfl (px_E_mono (by decide) (e_M_word_28 K N v78 (a1 - a1 / (16 : Int32) * (16 : Int32)) s87 t82 _ hk92)) ?_
                          cases h
                          exact px_E_ret hM rfl rfl rfl trivial
                        · cases h
                      · rw [if_neg hc89] at h
                        refine px_blk (i' := 58) (L' := [some (.ref 28), some (.int a0), some (.int a1), some (.int v78)]) (S' := [.int (0 : Int32)]) (w' := px_w K s87 t82) (q := []) 2 hM rfl trivial ?_
                        cases h
                        exact px_E_ret hM rfl rfl rfl trivial
                    · rw [if_neg hc86] at h
                      refine px_blk (i' := 47) (L' := [some (.ref 28), some (.int a0), some (.int a1), some (.int v78)]) (S' := []) (w' := px_w K (sR s81 25 (0 : Int32)) t82) (q := []) 3 hM rfl trivial ?_
                      obtain ⟨s95, hs96, h⟩ := px_let_some h
                      rw [← hs96]
                      refine px_blkif (c := (s95.1 25) ≤ 0) (t := 52) (e := 50) (L' := [some (.ref 28), some (.int a0), some (.int a1), some (.int v78)]) (S' := []) (w' := px_w K s95 t82) (q := []) 3 hM rfl trivial (fun hc97 => ?_) (fun hc97 => ?_)
                      · rw [if_pos hc97] at h
                        refine px_blk (i' := 57) (L' := [some (.ref 28), some (.int a0), some (.int a1), some (.int v78)]) (S' := [.int (a1 - a1 / (16 : Int32) * (16 : Int32)), .int v78, .ref 28]) (w' := px_w K s95 t82) (q := [¬ (16 : Int32) = 0]) 5 hM rfl (show ¬ (16 : Int32) = 0 from (by decide)) ?_
                        rcases px_bi_some h with ⟨v101, s98, t99, hk100, h⟩ | ⟨x102, s98, t99, hk100, h⟩
                        · refine px_E_call hM rfl rfl rfl rfl (px_E_mono (by decide) (e_M_word_28 K N v78 (a1 - a1 / (16 : Int32) * (16 : Int32)) s95 t82 _ hk100)) ?_
                          cases h
                          exact px_E_ret hM rfl rfl rfl trivial
                        · cases h
                      · rw [if_neg hc97] at h
                        refine px_blk (i' := 58) (L' := [some (.ref 28), some (.int a0), some (.int a1), some (.int v78)]) (S' := [.int (0 : Int32)]) (w' := px_w K s95 t82) (q := []) 2 hM rfl trivial ?_
                        cases h
                        exact px_E_ret hM rfl rfl rfl trivial
                  · cases h
                · rw [if_neg hc80] at h
                  refine px_blk (i' := 35) (L' := [some (.ref 28), some (.int a0), some (.int a1), some (.int v78)]) (S' := [.int (0 : Int32)]) (w' := px_w K s75 t76) (q := []) 1 hM rfl trivial ?_
                  cases h
                  exact px_E_ret hM rfl rfl rfl trivial
              · cases h
            · rw [if_neg hc74] at h
              refine px_blk (i' := 24) (L' := [some (.ref 28), some (.int a0), some (.int a1), none]) (S' := [.int (0 : Int32)]) (w' := px_w K s72 t3) (q := []) 1 hM rfl trivial ?_
              cases h
              exact px_E_ret hM rfl rfl rfl trivial
          · rw [if_neg hc71] at h
            refine px_blk (i' := 20) (L' := [some (.ref 28), some (.int a0), some (.int a1), none]) (S' := []) (w' := px_w K (sR s2 25 (2 : Int32)) t3) (q := []) 3 hM rfl trivial ?_
            obtain ⟨s103, hs104, h⟩ := px_let_some h
            rw [← hs104]
            refine px_blkif (c := (s103.1 25) ≤ 0) (t := 25) (e := 23) (L' := [some (.ref 28), some (.int a0), some (.int a1), none]) (S' := []) (w' := px_w K s103 t3) (q := []) 3 hM rfl trivial (fun hc105 => ?_) (fun hc105 => ?_)
            · rw [if_pos hc105] at h
              refine px_blk (i' := 30) (L' := [some (.ref 28), some (.int a0), some (.int a1), none]) (S' := [.int (a1 / (16 : Int32)), .int a0, .ref 28]) (w' := px_w K s103 t3) (q := [¬ (16 : Int32) = 0]) 5 hM rfl (show ¬ (16 : Int32) = 0 from (by decide)) ?_
              rcases px_bi_some h with ⟨v109, s106, t107, hk108, h⟩ | ⟨x110, s106, t107, hk108, h⟩
              · refine px_E_call hM rfl rfl rfl rfl (px_E_mono (by decide) (e_M_blockOf_28 K N a0 (a1 / (16 : Int32)) s103 t3 _ hk108)) ?_
                refine px_blkif (c := ¬ v109 = 0) (t := 36) (e := 34) (L' := [some (.ref 28), some (.int a0), some (.int a1), some (.int v109)]) (S' := []) (w' := px_w K s106 t107) (q := []) 3 hM rfl trivial (fun hc111 => ?_) (fun hc111 => ?_)
                · rw [if_pos hc111] at h
                  refine px_blk (i' := 38) (L' := [some (.ref 28), some (.int a0), some (.int a1), some (.int v109)]) (S' := [.int v109, .ref 28]) (w' := px_w K s106 t107) (q := []) 2 hM rfl trivial ?_
                  rcases px_bv_some h with ⟨s112, t113, hk114, h⟩ | ⟨x116, s112, t113, hk114, h⟩
                  · refine px_E_call hM rfl rfl rfl rfl (px_E_mono (by decide) (e_M_fetch_28 K N v109 s106 t107 _ hk114)) ?_
                    refine px_blkif (c := (s112.1 29) = 0) (t := 45) (e := 43) (L' := [some (.ref 28), some (.int a0), some (.int a1), some (.int v109)]) (S' := [.ref 28]) (w' := px_w K s112 t113) (q := []) 4 hM rfl trivial (fun hc117 => ?_) (fun hc117 => ?_)
                    · rw [if_pos hc117] at h
                      refine px_blk (i' := 47) (L' := [some (.ref 28), some (.int a0), some (.int a1), some (.int v109)]) (S' := []) (w' := px_w K (sR s112 25 (1 : Int32)) t113) (q := []) 2 hM rfl trivial ?_
                      obtain ⟨s118, hs119, h⟩ := px_let_some h
                      rw [← hs119]
                      refine px_blkif (c := (s118.1 25) ≤ 0) (t := 52) (e := 50) (L' := [some (.ref 28), some (.int a0), some (.int a1), some (.int v109)]) (S' := []) (w' := px_w K s118 t113) (q := []) 3 hM rfl trivial (fun hc120 => ?_) (fun hc120 => ?_)
                      · rw [if_pos hc120] at h
                        refine px_blk (i' := 57) (L' := [some (.ref 28), some (.int a0), some (.int a1), some (.int v109)]) (S' := [.int (a1 - a1 / (16 : Int32) * (16 : Int32)), .int v109, .ref 28]) (w' := px_w K s118 t113) (q := [¬ (16 : Int32) = 0]) 5 hM rfl (show ¬ (16 : Int32) = 0 from (by decide)) ?_
                        rcases px_bi_some h with ⟨v124, s121, t122, hk123, h⟩ | ⟨x125, s121, t122, hk123, h⟩
                        · refine px_E_call hM rfl rfl rfl rfl (px_E_mono (by decide) (e_M_word_28 K N v109 (a1 - a1 / (16 : Int32) * (16 : Int32)) s118 t113 _ hk123)) ?_
                          cases h
                          exact px_E_ret hM rfl rfl rfl trivial
                        · cases h
                      · rw [if_neg hc120] at h
                        refine px_blk (i' := 58) (L' := [some (.ref 28), some (.int a0), some (.int a1), some (.int v109)]) (S' := [.int (0 : Int32)]) (w' := px_w K s118 t113) (q := []) 2 hM rfl trivial ?_
                        cases h
                        exact px_E_ret hM rfl rfl rfl trivial
                    · rw [if_neg hc117] at h
                      refine px_blk (i' := 47) (L' := [some (.ref 28), some (.int a0), some (.int a1), some (.int v109)]) (S' := []) (w' := px_w K (sR s112 25 (0 : Int32)) t113) (q := []) 3 hM rfl trivial ?_
                      obtain ⟨s126, hs127, h⟩ := px_let_some h
                      rw [← hs127]
                      refine px_blkif (c := (s126.1 25) ≤ 0) (t := 52) (e := 50) (L' := [some (.ref 28), some (.int a0), some (.int a1), some (.int v109)]) (S' := []) (w' := px_w K s126 t113) (q := []) 3 hM rfl trivial (fun hc128 => ?_) (fun hc128 => ?_)
                      · rw [if_pos hc128] at h
                        refine px_blk (i' := 57) (L' := [some (.ref 28), some (.int a0), some (.int a1), some (.int v109)]) (S' := [.int (a1 - a1 / (16 : Int32) * (16 : Int32)), .int v109, .ref 28]) (w' := px_w K s126 t113) (q := [¬ (16 : Int32) = 0]) 5 hM rfl (show ¬ (16 : Int32) = 0 from (by decide)) ?_
                        rcases px_bi_some h with ⟨v132, s129, t130, hk131, h⟩ | ⟨x133, s129, t130, hk131, h⟩
                        · refine px_E_call hM rfl rfl rfl rfl (px_E_mono (by decide) (e_M_word_28 K N v109 (a1 - a1 / (16 : Int32) * (16 : Int32)) s126 t113 _ hk131)) ?_
                          cases h
                          exact px_E_ret hM rfl rfl rfl trivial
                        · cases h
                      · rw [if_neg hc128] at h
                        refine px_blk (i' := 58) (L' := [some (.ref 28), some (.int a0), some (.int a1), some (.int v109)]) (S' := [.int (0 : Int32)]) (w' := px_w K s126 t113) (q := []) 2 hM rfl trivial ?_
                        cases h
                        exact px_E_ret hM rfl rfl rfl trivial
                  · cases h
                · rw [if_neg hc111] at h
                  refine px_blk (i' := 35) (L' := [some (.ref 28), some (.int a0), some (.int a1), some (.int v109)]) (S' := [.int (0 : Int32)]) (w' := px_w K s106 t107) (q := []) 1 hM rfl trivial ?_
                  cases h
                  exact px_E_ret hM rfl rfl rfl trivial
              · cases h
            · rw [if_neg hc105] at h
              refine px_blk (i' := 24) (L' := [some (.ref 28), some (.int a0), some (.int a1), none]) (S' := [.int (0 : Int32)]) (w' := px_w K s103 t3) (q := []) 1 hM rfl trivial ?_
              cases h
              exact px_E_ret hM rfl rfl rfl trivial
    · cases h
  · rw [if_neg hc1] at h
    refine px_blk (i' := 20) (L' := [some (.ref 28), some (.int a0), some (.int a1), none]) (S' := []) (w' := px_w K (sR s 25 (1 : Int32)) t) (q := []) 3 hM rfl trivial ?_
    obtain ⟨s134, hs135, h⟩ := px_let_some h
    rw [← hs135]
    refine px_blkif (c := (s134.1 25) ≤ 0) (t := 25) (e := 23) (L' := [some (.ref 28), some (.int a0), some (.int a1), none]) (S' := []) (w' := px_w K s134 t) (q := []) 3 hM rfl trivial (fun hc136 => ?_) (fun hc136 => ?_)
    · rw [if_pos hc136] at h
      refine px_blk (i' := 30) (L' := [some (.ref 28), some (.int a0), some (.int a1), none]) (S' := [.int (a1 / (16 : Int32)), .int a0, .ref 28]) (w' := px_w K s134 t) (q := [¬ (16 : Int32) = 0]) 5 hM rfl (show ¬ (16 : Int32) = 0 from (by decide)) ?_
      rcases px_bi_some h with ⟨v140, s137, t138, hk139, h⟩ | ⟨x141, s137, t138, hk139, h⟩
      · refine px_E_call hM rfl rfl rfl rfl (px_E_mono (by decide) (e_M_blockOf_28 K N a0 (a1 / (16 : Int32)) s134 t _ hk139)) ?_
        refine px_blkif (c := ¬ v140 = 0) (t := 36) (e := 34) (L' := [some (.ref 28), some (.int a0), some (.int a1), some (.int v140)]) (S' := []) (w' := px_w K s137 t138) (q := []) 3 hM rfl trivial (fun hc142 => ?_) (fun hc142 => ?_)
        · rw [if_pos hc142] at h
          refine px_blk (i' := 38) (L' := [some (.ref 28), some (.int a0), some (.int a1), some (.int v140)]) (S' := [.int v140, .ref 28]) (w' := px_w K s137 t138) (q := []) 2 hM rfl trivial ?_
          rcases px_bv_some h with ⟨s143, t144, hk145, h⟩ | ⟨x147, s143, t144, hk145, h⟩
          · refine px_E_call hM rfl rfl rfl rfl (px_E_mono (by decide) (e_M_fetch_28 K N v140 s137 t138 _ hk145)) ?_
            refine px_blkif (c := (s143.1 29) = 0) (t := 45) (e := 43) (L' := [some (.ref 28), some (.int a0), some (.int a1), some (.int v140)]) (S' := [.ref 28]) (w' := px_w K s143 t144) (q := []) 4 hM rfl trivial (fun hc148 => ?_) (fun hc148 => ?_)
            · rw [if_pos hc148] at h
              refine px_blk (i' := 47) (L' := [some (.ref 28), some (.int a0), some (.int a1), some (.int v140)]) (S' := []) (w' := px_w K (sR s143 25 (1 : Int32)) t144) (q := []) 2 hM rfl trivial ?_
              obtain ⟨s149, hs150, h⟩ := px_let_some h
              rw [← hs150]
              refine px_blkif (c := (s149.1 25) ≤ 0) (t := 52) (e := 50) (L' := [some (.ref 28), some (.int a0), some (.int a1), some (.int v140)]) (S' := []) (w' := px_w K s149 t144) (q := []) 3 hM rfl trivial (fun hc151 => ?_) (fun hc151 => ?_)
              · rw [if_pos hc151] at h
                refine px_blk (i' := 57) (L' := [some (.ref 28), some (.int a0), some (.int a1), some (.int v140)]) (S' := [.int (a1 - a1 / (16 : Int32) * (16 : Int32)), .int v140, .ref 28]) (w' := px_w K s149 t144) (q := [¬ (16 : Int32) = 0]) 5 hM rfl (show ¬ (16 : Int32) = 0 from (by decide)) ?_
                rcases px_bi_some h with ⟨v155, s152, t153, hk154, h⟩ | ⟨x156, s152, t153, hk154, h⟩
                · refine px_E_call hM rfl rfl rfl rfl (px_E_mono (by decide) (e_M_word_28 K N v140 (a1 - a1 / (16 : Int32) * (16 : Int32)) s149 t144 _ hk154)) ?_
                  cases h
                  exact px_E_ret hM rfl rfl rfl trivial
                · cases h
              · rw [if_neg hc151] at h
                refine px_blk (i' := 58) (L' := [some (.ref 28), some (.int a0), some (.int a1), some (.int v140)]) (S' := [.int (0 : Int32)]) (w' := px_w K s149 t144) (q := []) 2 hM rfl trivial ?_
                cases h
                exact px_E_ret hM rfl rfl rfl trivial
            · rw [if_neg hc148] at h
              refine px_blk (i' := 47) (L' := [some (.ref 28), some (.int a0), some (.int a1), some (.int v140)]) (S' := []) (w' := px_w K (sR s143 25 (0 : Int32)) t144) (q := []) 3 hM rfl trivial ?_
              obtain ⟨s157, hs158, h⟩ := px_let_some h
              rw [← hs158]
              refine px_blkif (c := (s157.1 25) ≤ 0) (t := 52) (e := 50) (L' := [some (.ref 28), some (.int a0), some (.int a1), some (.int v140)]) (S' := []) (w' := px_w K s157 t144) (q := []) 3 hM rfl trivial (fun hc159 => ?_) (fun hc159 => ?_)
              · rw [if_pos hc159] at h
                refine px_blk (i' := 57) (L' := [some (.ref 28), some (.int a0), some (.int a1), some (.int v140)]) (S' := [.int (a1 - a1 / (16 : Int32) * (16 : Int32)), .int v140, .ref 28]) (w' := px_w K s157 t144) (q := [¬ (16 : Int32) = 0]) 5 hM rfl (show ¬ (16 : Int32) = 0 from (by decide)) ?_
                rcases px_bi_some h with ⟨v163, s160, t161, hk162, h⟩ | ⟨x164, s160, t161, hk162, h⟩
                · refine px_E_call hM rfl rfl rfl rfl (px_E_mono (by decide) (e_M_word_28 K N v140 (a1 - a1 / (16 : Int32) * (16 : Int32)) s157 t144 _ hk162)) ?_
                  cases h
                  exact px_E_ret hM rfl rfl rfl trivial
                · cases h
              · rw [if_neg hc159] at h
                refine px_blk (i' := 58) (L' := [some (.ref 28), some (.int a0), some (.int a1), some (.int v140)]) (S' := [.int (0 : Int32)]) (w' := px_w K s157 t144) (q := []) 2 hM rfl trivial ?_
                cases h
                exact px_E_ret hM rfl rfl rfl trivial
          · cases h
        · rw [if_neg hc142] at h
          refine px_blk (i' := 35) (L' := [some (.ref 28), some (.int a0), some (.int a1), some (.int v140)]) (S' := [.int (0 : Int32)]) (w' := px_w K s137 t138) (q := []) 1 hM rfl trivial ?_
          cases h
          exact px_E_ret hM rfl rfl rfl trivial
      · cases h
    · rw [if_neg hc136] at h
      refine px_blk (i' := 24) (L' := [some (.ref 28), some (.int a0), some (.int a1), none]) (S' := [.int (0 : Int32)]) (w' := px_w K s134 t) (q := []) 1 hM rfl trivial ?_
      cases h
      exact px_E_ret hM rfl rfl rfl trivial
noncomputable def l_M_cut_28_77 (K : px_K) (N : Nat) (n : Nat) (u1 : Int32) (u2 : Int32) (u4 : Int32) (m5 : Int32) (m6 : Int32) (s : px_S) (t : px_W) : Option px_LO := match n with
  | 0 => none
  | n + 1 => (if (20 : Int32) ≤ m6 then (some (.inl (126, [m5], s, t))) else (px_bi (f_M_blockOf_28 K N u1 m6 s t) (fun v5 s2 t3 => (if ¬ v5 = 0 then (if u2 ≤ ((16 : Int32) * m6) then (px_bv (f_M_giveBack_28 K N v5 s2 t3) (fun s9 t10 => (if (4 : Int32) ≤ m6 then (px_bv (f_M_tell_28 K N u4 (m6 - (4 : Int32)) (0 : Int32) s9 t10) (fun s15 t16 => (l_M_cut_28_77 K N n u1 u2 u4 m5 (m6 + (1 : Int32)) s15 t16)) (fun x19 s15 t16 => none)) else (px_bv (f_M_tellInode_28 K N u1 ((2 : Int32) + m6) (0 : Int32) s9 t10) (fun s20 t21 => (l_M_cut_28_77 K N n u1 u2 u4 m5 (m6 + (1 : Int32)) s20 t21)) (fun x24 s20 t21 => none)))) (fun x13 s9 t10 => none)) else (if ¬ m5 = 0 then (l_M_cut_28_77 K N n u1 u2 u4 (1 : Int32) (m6 + (1 : Int32)) s2 t3) else (if m6 < (4 : Int32) then (l_M_cut_28_77 K N n u1 u2 u4 (0 : Int32) (m6 + (1 : Int32)) s2 t3) else (l_M_cut_28_77 K N n u1 u2 u4 (1 : Int32) (m6 + (1 : Int32)) s2 t3)))) else (l_M_cut_28_77 K N n u1 u2 u4 m5 (m6 + (1 : Int32)) s2 t3))) (fun x6 s2 t3 => none)))
def a_l_M_cut_28_77 (K : px_K) (u1 : Int32) (u2 : Int32) (u4 : Int32) (z : px_LO) (o : Option Value ⊕ Nat) (w2 : px_W) : Prop := match z with
  | .inr (o', s', t') => o = o' ∧ w2 = px_w K s' t'
  | .inl (126, [y5], s', t') => px_E px_ET px_P 13 81 126 [some (.ref 28), some (.int u1), some (.int u2), none, some (.int u4), some (.int y5), none, none] [] (px_w K s' t') o w2
  | _ => False
noncomputable def l_M_cut_28_58 (K : px_K) (N : Nat) (n : Nat) (u1 : Int32) (u2 : Int32) (u3 : Int32) (m4 : Int32) (s : px_S) (t : px_W) : Option px_LO := match n with
  | 0 => none
  | n + 1 => (if (16 : Int32) ≤ m4 then (some (.inl (68, [], s, t))) else (px_bv (f_M_tell_28 K N u3 m4 (0 : Int32) s t) (fun s2 t3 => (l_M_cut_28_58 K N n u1 u2 u3 (m4 + (1 : Int32)) s2 t3)) (fun x6 s2 t3 => none)))
def a_l_M_cut_28_58 (K : px_K) (u1 : Int32) (u2 : Int32) (u3 : Int32) (z : px_LO) (o : Option Value ⊕ Nat) (w2 : px_W) : Prop := match z with
  | .inr (o', s', t') => o = o' ∧ w2 = px_w K s' t'
  | .inl (68, [], s', t') => px_E px_ET px_P 13 81 68 [some (.ref 28), some (.int u1), some (.int u2), none, none, none, none, none] [] (px_w K s' t') o w2
  | _ => False
set_option maxRecDepth 100000 in
theorem e_l_M_cut_28_77 (K : px_K) (N : Nat) (u1 : Int32) (u2 : Int32) (u4 : Int32) : ∀ (n : Nat) (m5 : Int32) (m6 : Int32) (s : px_S) (t : px_W) (z : px_LO), l_M_cut_28_77 K N n u1 u2 u4 m5 m6 s t = some z → ∀ (o : Option Value ⊕ Nat) (w2 : px_W), a_l_M_cut_28_77 K u1 u2 u4 z o w2 → px_E px_ET px_P 13 81 77 [some (.ref 28), some (.int u1), some (.int u2), none, some (.int u4), some (.int m5), some (.int m6), none] [] (px_w K s t) o w2 := by
  have hM : px_P[81]? = some pm_M_cut := rfl
  intro n
  induction n with
  | zero => intro m5 m6 s t z h; cases h
  | succ n ih =>
    intro m5 m6 s t z h o w2 ha
    unfold l_M_cut_28_77 at h
    refine px_blkif (c := (20 : Int32) ≤ m6) (t := 126) (e := 80) (L' := [some (.ref 28), some (.int u1), some (.int u2), none, some (.int u4), some (.int m5), some (.int m6), none]) (S' := []) (w' := px_w K s t) (q := []) 3 hM rfl trivial (fun hc1 => ?_) (fun hc1 => ?_)
    · rw [if_pos hc1] at h
      cases h
      exact px_E_le (px_leC_L _ _ (by simp [px_leC, px_le1, Value.category])) ha
    · rw [if_neg hc1] at h
      refine px_blk (i' := 83) (L' := [some (.ref 28), some (.int u1), some (.int u2), none, some (.int u4), some (.int m5), some (.int m6), none]) (S' := [.int m6, .int u1, .ref 28]) (w' := px_w K s t) (q := []) 3 hM rfl trivial ?_
      rcases px_bi_some h with ⟨v5, s2, t3, hk4, h⟩ | ⟨x6, s2, t3, hk4, h⟩
      · refine px_E_call hM rfl rfl rfl rfl (px_E_mono (by decide) (e_M_blockOf_28 K N u1 m6 s t _ hk4)) ?_
        refine px_blkif (c := ¬ v5 = 0) (t := 88) (e := 87) (L' := [some (.ref 28), some (.int u1), some (.int u2), none, some (.int u4), some (.int m5), some (.int m6), some (.int v5)]) (S' := []) (w' := px_w K s2 t3) (q := []) 3 hM rfl trivial (fun hc7 => ?_) (fun hc7 => ?_)
        · rw [if_pos hc7] at h
          refine px_blkif (c := u2 ≤ ((16 : Int32) * m6)) (t := 103) (e := 93) (L' := [some (.ref 28), some (.int u1), some (.int u2), none, some (.int u4), some (.int m5), some (.int m6), some (.int v5)]) (S' := []) (w' := px_w K s2 t3) (q := []) 5 hM rfl trivial (fun hc8 => ?_) (fun hc8 => ?_)
          · rw [if_pos hc8] at h
            refine px_blk (i' := 105) (L' := [some (.ref 28), some (.int u1), some (.int u2), none, some (.int u4), some (.int m5), some (.int m6), some (.int v5)]) (S' := [.int v5, .ref 28]) (w' := px_w K s2 t3) (q := []) 2 hM rfl trivial ?_
            rcases px_bv_some h with ⟨s9, t10, hk11, h⟩ | ⟨x13, s9, t10, hk11, h⟩
            · refine px_E_call hM rfl rfl rfl rfl (px_E_mono (by decide) (e_M_giveBack_28 K N v5 s2 t3 _ hk11)) ?_
              refine px_blkif (c := (4 : Int32) ≤ m6) (t := 117) (e := 109) (L' := [some (.ref 28), some (.int u1), some (.int u2), none, some (.int u4), some (.int m5), some (.int m6), some (.int v5)]) (S' := []) (w' := px_w K s9 t10) (q := []) 3 hM rfl trivial (fun hc14 => ?_) (fun hc14 => ?_)
              · rw [if_pos hc14] at h
                refine px_blk (i' := 123) (L' := [some (.ref 28), some (.int u1), some (.int u2), none, some (.int u4), some (.int m5), some (.int m6), some (.int v5)]) (S' := [.int (0 : Int32), .int (m6 - (4 : Int32)), .int u4, .ref 28]) (w' := px_w K s9 t10) (q := []) 6 hM rfl trivial ?_
                rcases px_bv_some h with ⟨s15, t16, hk17, h⟩ | ⟨x19, s15, t16, hk17, h⟩
                · refine px_E_call hM rfl rfl rfl rfl (px_E_mono (by decide) (e_M_tell_28 K N u4 (m6 - (4 : Int32)) (0 : Int32) s9 t10 _ hk17)) ?_
                  refine px_blk (i' := 77) (L' := [some (.ref 28), some (.int u1), some (.int u2), none, some (.int u4), some (.int m5), some (.int (m6 + (1 : Int32))), some (.int v5)]) (S' := []) (w' := px_w K s15 t16) (q := []) 2 hM rfl trivial ?_
                  exact px_E_le (px_leC_L _ _ (by simp [px_leC, px_le1, Value.category])) (ih m5 (m6 + (1 : Int32)) s15 t16 z h o w2 ha)
                · cases h
              · rw [if_neg hc14] at h
                refine px_blk (i' := 115) (L' := [some (.ref 28), some (.int u1), some (.int u2), none, some (.int u4), some (.int m5), some (.int m6), some (.int v5)]) (S' := [.int (0 : Int32), .int ((2 : Int32) + m6), .int u1, .ref 28]) (w' := px_w K s9 t10) (q := []) 6 hM rfl trivial ?_
                rcases px_bv_some h with ⟨s20, t21, hk22, h⟩ | ⟨x24, s20, t21, hk22, h⟩
                · refine px_E_call hM rfl rfl rfl rfl (px_E_mono (by decide) (e_M_tellInode_28 K N u1 ((2 : Int32) + m6) (0 : Int32) s9 t10 _ hk22)) ?_
                  refine px_blk (i' := 77) (L' := [some (.ref 28), some (.int u1), some (.int u2), none, some (.int u4), some (.int m5), some (.int (m6 + (1 : Int32))), some (.int v5)]) (S' := []) (w' := px_w K s20 t21) (q := []) 3 hM rfl trivial ?_
                  exact px_E_le (px_leC_L _ _ (by simp [px_leC, px_le1, Value.category])) (ih m5 (m6 + (1 : Int32)) s20 t21 z h o w2 ha)
                · cases h
            · cases h
          · rw [if_neg hc8] at h
            refine px_blkif (c := ¬ m5 = 0) (t := 98) (e := 95) (L' := [some (.ref 28), some (.int u1), some (.int u2), none, some (.int u4), some (.int m5), some (.int m6), some (.int v5)]) (S' := []) (w' := px_w K s2 t3) (q := []) 2 hM rfl trivial (fun hc25 => ?_) (fun hc25 => ?_)
            · rw [if_pos hc25] at h
              refine px_blk (i' := 77) (L' := [some (.ref 28), some (.int u1), some (.int u2), none, some (.int u4), some (.int (1 : Int32)), some (.int (m6 + (1 : Int32))), some (.int v5)]) (S' := []) (w' := px_w K s2 t3) (q := []) 6 hM rfl trivial ?_
              exact px_E_le (px_leC_L _ _ (by simp [px_leC, px_le1, Value.category])) (ih (1 : Int32) (m6 + (1 : Int32)) s2 t3 z h o w2 ha)
            · rw [if_neg hc25] at h
              refine px_blkif (c := m6 < (4 : Int32)) (t := 100) (e := 98) (L' := [some (.ref 28), some (.int u1), some (.int u2), none, some (.int u4), some (.int m5), some (.int m6), some (.int v5)]) (S' := []) (w' := px_w K s2 t3) (q := []) 3 hM rfl trivial (fun hc26 => ?_) (fun hc26 => ?_)
              · rw [if_pos hc26] at h
                refine px_blk (i' := 77) (L' := [some (.ref 28), some (.int u1), some (.int u2), none, some (.int u4), some (.int (0 : Int32)), some (.int (m6 + (1 : Int32))), some (.int v5)]) (S' := []) (w' := px_w K s2 t3) (q := []) 5 hM rfl trivial ?_
                exact px_E_le (px_leC_L _ _ (by simp [px_leC, px_le1, Value.category])) (ih (0 : Int32) (m6 + (1 : Int32)) s2 t3 z h o w2 ha)
              · rw [if_neg hc26] at h
                refine px_blk (i' := 77) (L' := [some (.ref 28), some (.int u1), some (.int u2), none, some (.int u4), some (.int (1 : Int32)), some (.int (m6 + (1 : Int32))), some (.int v5)]) (S' := []) (w' := px_w K s2 t3) (q := []) 6 hM rfl trivial ?_
                exact px_E_le (px_leC_L _ _ (by simp [px_leC, px_le1, Value.category])) (ih (1 : Int32) (m6 + (1 : Int32)) s2 t3 z h o w2 ha)
        · rw [if_neg hc7] at h
          refine px_blk (i' := 77) (L' := [some (.ref 28), some (.int u1), some (.int u2), none, some (.int u4), some (.int m5), some (.int (m6 + (1 : Int32))), some (.int v5)]) (S' := []) (w' := px_w K s2 t3) (q := []) 3 hM rfl trivial ?_
          exact px_E_le (px_leC_L _ _ (by simp [px_leC, px_le1, Value.category])) (ih m5 (m6 + (1 : Int32)) s2 t3 z h o w2 ha)
      · cases h
set_option maxRecDepth 100000 in
theorem e_l_M_cut_28_58 (K : px_K) (N : Nat) (u1 : Int32) (u2 : Int32) (u3 : Int32) : ∀ (n : Nat) (m4 : Int32) (s : px_S) (t : px_W) (z : px_LO), l_M_cut_28_58 K N n u1 u2 u3 m4 s t = some z → ∀ (o : Option Value ⊕ Nat) (w2 : px_W), a_l_M_cut_28_58 K u1 u2 u3 z o w2 → px_E px_ET px_P 13 81 58 [some (.ref 28), some (.int u1), some (.int u2), some (.int u3), some (.int m4), none, none, none] [] (px_w K s t) o w2 := by
  have hM : px_P[81]? = some pm_M_cut := rfl
  intro n
  induction n with
  | zero => intro m4 s t z h; cases h
  | succ n ih =>
    intro m4 s t z h o w2 ha
    unfold l_M_cut_28_58 at h
    refine px_blkif (c := (16 : Int32) ≤ m4) (t := 68) (e := 61) (L' := [some (.ref 28), some (.int u1), some (.int u2), some (.int u3), some (.int m4), none, none, none]) (S' := []) (w' := px_w K s t) (q := []) 3 hM rfl trivial (fun hc1 => ?_) (fun hc1 => ?_)
    · rw [if_pos hc1] at h
      cases h
      exact px_E_le (px_leC_L _ _ (by simp [px_leC, px_le1, Value.category])) ha
    · rw [if_neg hc1] at h
      refine px_blk (i' := 65) (L' := [some (.ref 28), some (.int u1), some (.int u2), some (.int u3), some (.int m4), none, none, none]) (S' := [.int (0 : Int32), .int m4, .int u3, .ref 28]) (w' := px_w K s t) (q := []) 4 hM rfl trivial ?_
      rcases px_bv_some h with ⟨s2, t3, hk4, h⟩ | ⟨x6, s2, t3, hk4, h⟩
      · refine px_E_call hM rfl rfl rfl rfl (px_E_mono (by decide) (e_M_tell_28 K N u3 m4 (0 : Int32) s t _ hk4)) ?_
        refine px_blk (i' := 58) (L' := [some (.ref 28), some (.int u1), some (.int u2), some (.int u3), some (.int (m4 + (1 : Int32))), none, none, none]) (S' := []) (w' := px_w K s2 t3) (q := []) 2 hM rfl trivial ?_
        exact ih (m4 + (1 : Int32)) s2 t3 z h o w2 ha
      · cases h
noncomputable def f_M_cut_28 (K : px_K) (N : Nat) (a0 : Int32) (a1 : Int32) (s : px_S) (t : px_W) : Option px_Res :=
  (px_let (sR s 25 (0 : Int32)) (fun s1 => (px_bi (f_M_begins_28 K N s1 t) (fun v6 s3 t4 => (if ¬ v6 = 0 then (px_bi (f_M_isKind_28 K N a0 (2 : Int32) s3 t4) (fun v12 s9 t10 => (if v12 = 0 then (some (.inl (some (.int (-4 : Int32))), s9, t10)) else (if a1 < 0 then (some (.inl (some (.int (-4 : Int32))), s9, t10)) else (px_bi (f_M_ofInode_28 K N a0 (1 : Int32) s9 t10) (fun v19 s16 t17 => (if a1 ≤ v19 then (px_bi (f_M_ofInode_28 K N a0 (1 : Int32) s16 t17) (fun v25 s22 t23 => (if ¬ a1 = v25 then (if ¬ (a1 - a1 / (16 : Int32) * (16 : Int32)) = 0 then (px_bi (f_M_blockOf_28 K N a0 (a1 / (16 : Int32)) s22 t23) (fun v32 s29 t30 => (if v32 ≤ 0 then (px_bi (f_M_ofInode_28 K N a0 (6 : Int32) s29 t30) (fun v38 s35 t36 => (px_lp (l_M_cut_28_77 K N N a0 a1 v38 (0 : Int32) (0 : Int32) s35 t36) (fun i40 vs41 s42 t43 => (if i40 = 126 then (px_v1 vs41 (fun y46 => (if v38 ≤ 0 then (px_bv (f_M_tellInode_28 K N a0 (1 : Int32) a1 s42 t43) (fun s49 t50 => (some (.inl (some (.int (0 : Int32))), s49, t50))) (fun x53 s49 t50 => none)) else (if ¬ y46 = 0 then (px_bv (f_M_tellInode_28 K N a0 (1 : Int32) a1 s42 t43) (fun s55 t56 => (some (.inl (some (.int (0 : Int32))), s55, t56))) (fun x59 s55 t56 => none)) else (px_bv (f_M_giveBack_28 K N v38 s42 t43) (fun s60 t61 => (px_bv (f_M_tellInode_28 K N a0 (6 : Int32) (0 : Int32) s60 t61) (fun s65 t66 => (px_bv (f_M_tellInode_28 K N a0 (1 : Int32) a1 s65 t66) (fun s70 t71 => (some (.inl (some (.int (0 : Int32))), s70, t71))) (fun x74 s70 t71 => none))) (fun x69 s65 t66 => none))) (fun x64 s60 t61 => none)))))) else none)) (fun z45 => some z45))) (fun x39 s35 t36 => none)) else (px_bv (f_M_fetch_28 K N v32 s29 t30) (fun s75 t76 => (if ¬ (s75.1 29) = 0 then (px_let (a1 - a1 / (16 : Int32) * (16 : Int32)) (fun v81 => (px_lp (l_M_cut_28_58 K N N a0 a1 v32 v81 s75 t76) (fun i83 vs84 s85 t86 => (if i83 = 68 then (px_v0 vs84 (px_bi (f_M_ofInode_28 K N a0 (6 : Int32) s85 t86) (fun v93 s90 t91 => (px_lp (l_M_cut_28_77 K N N a0 a1 v93 (0 : Int32) (0 : Int32) s90 t91) (fun i95 vs96 s97 t98 => (if i95 = 126 then (px_v1 vs96 (fun y101 => (if v93 ≤ 0 then (px_bv (f_M_tellInode_28 K N a0 (1 : Int32) a1 s97 t98) (fun s104 t105 => (some (.inl (some (.int (0 : Int32))), s104, t105))) (fun x108 s104 t105 => none)) else (if ¬ y101 = 0 then (px_bv (f_M_tellInode_28 K N a0 (1 : Int32) a1 s97 t98) (fun s110 t111 => (some (.inl (some (.int (0 : Int32))), s110, t111))) (fun x114 s110 t111 => none)) else (px_bv (f_M_giveBack_28 K N v93 s97 t98) (fun s115 t116 => (px_bv (f_M_tellInode_28 K N a0 (6 : Int32) (0 : Int32) s115 t116) (fun s120 t121 => (px_bv (f_M_tellInode_28 K N a0 (1 : Int32) a1 s120 t121) (fun s125 t126 => (some (.inl (some (.int (0 : Int32))), s125, t126))) (fun x129 s125 t126 => none))) (fun x124 s120 t121 => none))) (fun x119 s115 t116 => none)))))) else none)) (fun z100 => some z100))) (fun x94 s90 t91 => none))) else none)) (fun z88 => some z88)))) else (some (.inl (some (.int (-9 : Int32))), s75, t76)))) (fun x79 s75 t76 => none)))) (fun x33 s29 t30 => none)) else (if (0 : Int32) ≤ 0 then (px_bi (f_M_ofInode_28 K N a0 (6 : Int32) s22 t23) (fun v134 s131 t132 => (px_lp (l_M_cut_28_77 K N N a0 a1 v134 (0 : Int32) (0 : Int32) s131 t132) (fun i136 vs137 s138 t139 => (if i136 = 126 then (px_v1 vs137 (fun y142 => (if v134 ≤ 0 then (px_bv (f_M_tellInode_28 K N a0 (1 : Int32) a1 s138 t139) (fun s145 t146 => (some (.inl (some (.int (0 : Int32))), s145, t146))) (fun x149 s145 t146 => none)) else (if ¬ y142 = 0 then (px_bv (f_M_tellInode_28 K N a0 (1 : Int32) a1 s138 t139) (fun s151 t152 => (some (.inl (some (.int (0 : Int32))), s151, t152))) (fun x155 s151 t152 => none)) else (px_bv (f_M_giveBack_28 K N v134 s138 t139) (fun s156 t157 => (px_bv (f_M_tellInode_28 K N a0 (6 : Int32) (0 : Int32) s156 t157) (fun s161 t162 => (px_bv (f_M_tellInode_28 K N a0 (1 : Int32) a1 s161 t162) (fun s166 t167 => (some (.inl (some (.int (0 : Int32))), s166, t167))) (fun x170 s166 t167 => none))) (fun x165 s161 t162 => none))) (fun x160 s156 t157 => none)))))) else none)) (fun z141 => some z141))) (fun x135 s131 t132 => none)) else (px_bv (f_M_fetch_28 K N (0 : Int32) s22 t23) (fun s171 t172 => (if ¬ (s171.1 29) = 0 then (px_let (a1 - a1 / (16 : Int32) * (16 : Int32)) (fun v177 => (px_lp (l_M_cut_28_58 K N N a0 a1 (0 : Int32) v177 s171 t172) (fun i179 vs180 s181 t182 => (if i179 = 68 then (px_v0 vs180 (px_bi (f_M_ofInode_28 K N a0 (6 : Int32) s181 t182) (fun v189 s186 t187 => (px_lp (l_M_cut_28_77 K N N a0 a1 v189 (0 : Int32) (0 : Int32) s186 t187) (fun i191 vs192 s193 t194 => (if i191 = 126 then (px_v1 vs192 (fun y197 => (if v189 ≤ 0 then (px_bv (f_M_tellInode_28 K N a0 (1 : Int32) a1 s193 t194) (fun s200 t201 => (some (.inl (some (.int (0 : Int32))), s200, t201))) (fun x204 s200 t201 => none)) else (if ¬ y197 = 0 then (px_bv (f_M_tellInode_28 K N a0 (1 : Int32) a1 s193 t194) (fun s206 t207 => (some (.inl (some (.int (0 : Int32))), s206, t207))) (fun x210 s206 t207 => none)) else (px_bv (f_M_giveBack_28 K N v189 s193 t194) (fun s211 t212 => (px_bv (f_M_tellInode_28 K N a0 (6 : Int32) (0 : Int32) s211 t212) (fun s216 t217 => (px_bv (f_M_tellInode_28 K N a0 (1 : Int32) a1 s216 t217) (fun s221 t222 => (some (.inl (some (.int (0 : Int32))), s221, t222))) (fun x225 s221 t222 => none))) (fun x220 s216 t217 => none))) (fun x215 s211 t212 => none)))))) else none)) (fun z196 => some z196))) (fun x190 s186 t187 => none))) else none)) (fun z184 => some z184)))) else (some (.inl (some (.int (-9 : Int32))), s171, t172)))) (fun x175 s171 t172 => none)))) else (some (.inl (some (.int (0 : Int32))), s22, t23)))) (fun x26 s22 t23 => none)) else (some (.inl (some (.int (-4 : Int32))), s16, t17)))) (fun x20 s16 t17 => none))))) (fun x13 s9 t10 => none)) else (some (.inl (some (.int (-9 : Int32))), s3, t4)))) (fun x7 s3 t4 => none))))
set_option maxRecDepth 100000 in
theorem e_M_cut_28 (K : px_K) (N : Nat) (a0 : Int32) (a1 : Int32) (s : px_S) (t : px_W) (r : px_Res) (h : f_M_cut_28 K N a0 a1 s t = some r) : px_E px_ET px_P 13 81 0 (px_ent 8 [.ref 28, .int a0, .int a1]) [] (px_w K s t) r.1 (px_w K r.2.1 r.2.2) := by
  have hM : px_P[81]? = some pm_M_cut := rfl
  unfold f_M_cut_28 at h
  refine px_blk (i' := 3) (L' := [some (.ref 28), some (.int a0), some (.int a1), none, none, none, none, none]) (S' := []) (w' := px_w K (sR s 25 (0 : Int32)) t) (q := []) 3 hM rfl trivial ?_
  obtain ⟨s1, hs2, h⟩ := px_let_some h
  rw [← hs2]
  refine px_blk (i' := 4) (L' := [some (.ref 28), some (.int a0), some (.int a1), none, none, none, none, none]) (S' := [.ref 28]) (w' := px_w K s1 t) (q := []) 1 hM rfl trivial ?_
  rcases px_bi_some h with ⟨v6, s3, t4, hk5, h⟩ | ⟨x7, s3, t4, hk5, h⟩
  · refine px_E_call hM rfl rfl rfl rfl (px_E_mono (by decide) (e_M_begins_28 K N s1 t _ hk5)) ?_
    refine px_blkif (c := ¬ v6 = 0) (t := 8) (e := 6) (L' := [some (.ref 28), some (.int a0), some (.int a1), none, none, none, none, none]) (S' := []) (w' := px_w K s3 t4) (q := []) 1 hM rfl trivial (fun hc8 => ?_) (fun hc8 => ?_)
    · rw [if_pos hc8] at h
      refine px_blk (i' := 11) (L' := [some (.ref 28), some (.int a0), some (.int a1), none, none, none, none, none]) (S' := [.int (2 : Int32), .int a0, .ref 28]) (w' := px_w K s3 t4) (q := []) 3 hM rfl trivial ?_
      rcases px_bi_some h with ⟨v12, s9, t10, hk11, h⟩ | ⟨x13, s9, t10, hk11, h⟩
      · refine px_E_call hM rfl rfl rfl rfl (px_E_mono (by decide) (e_M_isKind_28 K N a0 (2 : Int32) s3 t4 _ hk11)) ?_
        refine px_blkif (c := v12 = 0) (t := 21) (e := 13) (L' := [some (.ref 28), some (.int a0), some (.int a1), none, none, none, none, none]) (S' := []) (w' := px_w K s9 t10) (q := []) 1 hM rfl trivial (fun hc14 => ?_) (fun hc14 => ?_)
        · rw [if_pos hc14] at h
          refine px_blk (i' := 22) (L' := [some (.ref 28), some (.int a0), some (.int a1), none, none, none, none, none]) (S' := [.int (-4 : Int32)]) (w' := px_w K s9 t10) (q := []) 1 hM rfl trivial ?_
          cases h
          exact px_E_ret hM rfl rfl rfl trivial
        · rw [if_neg hc14] at h
          refine px_blkif (c := a1 < 0) (t := 21) (e := 15) (L' := [some (.ref 28), some (.int a0), some (.int a1), none, none, none, none, none]) (S' := []) (w' := px_w K s9 t10) (q := []) 2 hM rfl trivial (fun hc15 => ?_) (fun hc15 => ?_)
          · rw [if_pos hc15] at h
            refine px_blk (i' := 22) (L' := [some (.ref 28), some (.int a0), some (.int a1), none, none, none, none, none]) (S' := [.int (-4 : Int32)]) (w' := px_w K s9 t10) (q := []) 1 hM rfl trivial ?_
            cases h
            exact px_E_ret hM rfl rfl rfl trivial
          · rw [if_neg hc15] at h
            refine px_blk (i' := 19) (L' := [some (.ref 28), some (.int a0), some (.int a1), none, none, none, none, none]) (S' := [.int (1 : Int32), .int a0, .ref 28, .int a1]) (w' := px_w K s9 t10) (q := []) 4 hM rfl trivial ?_
            rcases px_bi_some h with ⟨v19, s16, t17, hk18, h⟩ | ⟨x20, s16, t17, hk18, h⟩
            · refine px_E_call hM rfl rfl rfl rfl (px_E_mono (by decide) (e_M_ofInode_28 K N a0 (1 : Int32) s9 t10 _ hk18)) ?_
              refine px_blkif (c := a1 ≤ v19) (t := 23) (e := 21) (L' := [some (.ref 28), some (.int a0), some (.int a1), none, none, none, none, none]) (S' := []) (w' := px_w K s16 t17) (q := []) 1 hM rfl trivial (fun hc21 => ?_) (fun hc21 => ?_)
              · rw [if_pos hc21] at h
                refine px_blk (i' := 27) (L' := [some (.ref 28), some (.int a0), some (.int a1), none, none, none, none, none]) (S' := [.int (1 : Int32), .int a0, .ref 28, .int a1]) (w' := px_w K s16 t17) (q := []) 4 hM rfl trivial ?_
                rcases px_bi_some h with ⟨v25, s22, t23, hk24, h⟩ | ⟨x26, s22, t23, hk24, h⟩
                · refine px_E_call hM rfl rfl rfl rfl (px_E_mono (by decide) (e_M_ofInode_28 K N a0 (1 : Int32) s16 t17 _ hk24)) ?_
                  refine px_blkif (c := ¬ a1 = v25) (t := 31) (e := 29) (L' := [some (.ref 28), some (.int a0), some (.int a1), none, none, none, none, none]) (S' := []) (w' := px_w K s22 t23) (q := []) 1 hM rfl trivial (fun hc27 => ?_) (fun hc27 => ?_)
                  · rw [if_pos hc27] at h
                    refine px_blkif (c := ¬ (a1 - a1 / (16 : Int32) * (16 : Int32)) = 0) (t := 37) (e := 35) (L' := [some (.ref 28), some (.int a0), some (.int a1), none, none, none, none, none]) (S' := []) (w' := px_w K s22 t23) (q := [¬ (16 : Int32) = 0]) 4 hM rfl (show ¬ (16 : Int32) = 0 from (by decide)) (fun hc28 => ?_) (fun hc28 => ?_)
                    · rw [if_pos hc28] at h
                      refine px_blk (i' := 42) (L' := [some (.ref 28), some (.int a0), some (.int a1), none, none, none, none, none]) (S' := [.int (a1 / (16 : Int32)), .int a0, .ref 28]) (w' := px_w K s22 t23) (q := [¬ (16 : Int32) = 0]) 5 hM rfl (show ¬ (16 : Int32) = 0 from (by decide)) ?_
                      rcases px_bi_some h with ⟨v32, s29, t30, hk31, h⟩ | ⟨x33, s29, t30, hk31, h⟩
                      · refine px_E_call hM rfl rfl rfl rfl (px_E_mono (by decide) (e_M_blockOf_28 K N a0 (a1 / (16 : Int32)) s22 t23 _ hk31)) ?_
                        refine px_blkif (c := v32 ≤ 0) (t := 68) (e := 46) (L' := [some (.ref 28), some (.int a0), some (.int a1), some (.int v32), none, none, none, none]) (S' := []) (w' := px_w K s29 t30) (q := []) 3 hM rfl trivial (fun hc34 => ?_) (fun hc34 => ?_)
                        · rw [if_pos hc34] at h
                          refine px_blk (i' := 71) (L' := [some (.ref 28), some (.int a0), some (.int a1), some (.int v32), none, none, none, none]) (S' := [.int (6 : Int32), .int a0, .ref 28]) (w' := px_w K s29 t30) (q := []) 3 hM rfl trivial ?_
                          rcases px_bi_some h with ⟨v38, s35, t36, hk37, h⟩ | ⟨x39, s35, t36, hk37, h⟩
                          · refine px_E_call hM rfl rfl rfl rfl (px_E_mono (by decide) (e_M_ofInode_28 K N a0 (6 : Int32) s29 t30 _ hk37)) ?_
                            refine px_blk (i' := 77) (L' := [some (.ref 28), some (.int a0), some (.int a1), some (.int v32), some (.int v38), some (.int (0 : Int32)), some (.int (0 : Int32)), none]) (S' := []) (w' := px_w K s35 t36) (q := []) 5 hM rfl trivial ?_
                            rcases px_lp_some h with ⟨i40, vs41, s42, t43, hl44, h⟩ | ⟨z45, hl44, h⟩
                            · by_cases hi47 : i40 = 126
                              · subst hi47
                                rw [if_pos rfl] at h
                                have h9 := px_v1_some h
                                clear h
                                obtain ⟨y46, rfl, h⟩ := h9
                                refine px_E_le (px_leC_L _ _ (by simp [px_leC, px_le1, Value.category])) (e_l_M_cut_28_77 K N a0 a1 v38 N (0 : Int32) (0 : Int32) s35 t36 _ hl44 _ _ ?_)
                                show px_E px_ET px_P 13 81 126 [some (.ref 28), some (.int a0), some (.int a1), none, some (.int v38), some (.int y46), none, none] [] (px_w K s42 t43) _ _
                                refine px_blkif (c := v38 ≤ 0) (t := 138) (e := 128) (L' := [some (.ref 28), some (.int a0), some (.int a1), none, some (.int v38), some (.int y46), none, none]) (S' := []) (w' := px_w K s42 t43) (q := []) 2 hM rfl trivial (fun hc48 => ?_) (fun hc48 => ?_)
                                · rw [if_pos hc48] at h
                                  refine px_blk (i' := 142) (L' := [some (.ref 28), some (.int a0), some (.int a1), none, some (.int v38), some (.int y46), none, none]) (S' := [.int a1, .int (1 : Int32), .int a0, .ref 28]) (w' := px_w K s42 t43) (q := []) 4 hM rfl trivial ?_
                                  rcases px_bv_some h with ⟨s49, t50, hk51, h⟩ | ⟨x53, s49, t50, hk51, h⟩
                                  · refine px_E_call hM rfl rfl rfl rfl (px_E_mono (by decide) (e_M_tellInode_28 K N a0 (1 : Int32) a1 s42 t43 _ hk51)) ?_
                                    refine px_blk (i' := 144) (L' := [some (.ref 28), some (.int a0), some (.int a1), none, some (.int v38), some (.int y46), none, none]) (S' := [.int (0 : Int32)]) (w' := px_w K s49 t50) (q := []) 1 hM rfl trivial ?_
                                    cases h
                                    exact px_E_ret hM rfl rfl rfl trivial
                                  · cases h
                                · rw [if_neg hc48] at h
                                  refine px_blkif (c := ¬ y46 = 0) (t := 138) (e := 130) (L' := [some (.ref 28), some (.int a0), some (.int a1), none, some (.int v38), some (.int y46), none, none]) (S' := []) (w' := px_w K s42 t43) (q := []) 2 hM rfl trivial (fun hc54 => ?_) (fun hc54 => ?_)
                                  · rw [if_pos hc54] at h
                                    refine px_blk (i' := 142) (L' := [some (.ref 28), some (.int a0), some (.int a1), none, some (.int v38), some (.int y46), none, none]) (S' := [.int a1, .int (1 : Int32), .int a0, .ref 28]) (w' := px_w K s42 t43) (q := []) 4 hM rfl trivial ?_
                                    rcases px_bv_some h with ⟨s55, t56, hk57, h⟩ | ⟨x59, s55, t56, hk57, h⟩
                                    · refine px_E_call hM rfl rfl rfl rfl (px_E_mono (by decide) (e_M_tellInode_28 K N a0 (1 : Int32) a1 s42 t43 _ hk57)) ?_
                                      refine px_blk (i' := 144) (L' := [some (.ref 28), some (.int a0), some (.int a1), none, some (.int v38), some (.int y46), none, none]) (S' := [.int (0 : Int32)]) (w' := px_w K s55 t56) (q := []) 1 hM rfl trivial ?_
                                      cases h
                                      exact px_E_ret hM rfl rfl rfl trivial
                                    · cases h
                                  · rw [if_neg hc54] at h
                                    refine px_blk (i' := 132) (L' := [some (.ref 28), some (.int a0), some (.int a1), none, some (.int v38), some (.int y46), none, none]) (S' := [.int v38, .ref 28]) (w' := px_w K s42 t43) (q := []) 2 hM rfl trivial ?_
                                    rcases px_bv_some h with ⟨s60, t61, hk62, h⟩ | ⟨x64, s60, t61, hk62, h⟩
                                    · refine px_E_call hM rfl rfl rfl rfl (px_E_mono (by decide) (e_M_giveBack_28 K N v38 s42 t43 _ hk62)) ?_
                                      refine px_blk (i' := 137) (L' := [some (.ref 28), some (.int a0), some (.int a1), none, some (.int v38), some (.int y46), none, none]) (S' := [.int (0 : Int32), .int (6 : Int32), .int a0, .ref 28]) (w' := px_w K s60 t61) (q := []) 4 hM rfl trivial ?_
                                      rcases px_bv_some h with ⟨s65, t66, hk67, h⟩ | ⟨x69, s65, t66, hk67, h⟩
                                      · refine px_E_call hM rfl rfl rfl rfl (px_E_mono (by decide) (e_M_tellInode_28 K N a0 (6 : Int32) (0 : Int32) s60 t61 _ hk67)) ?_
                                        refine px_blk (i' := 142) (L' := [some (.ref 28), some (.int a0), some (.int a1), none, some (.int v38), some (.int y46), none, none]) (S' := [.int a1, .int (1 : Int32), .int a0, .ref 28]) (w' := px_w K s65 t66) (q := []) 4 hM rfl trivial ?_
                                        rcases px_bv_some h with ⟨s70, t71, hk72, h⟩ | ⟨x74, s70, t71, hk72, h⟩
                                        · refine px_E_call hM rfl rfl rfl rfl (px_E_mono (by decide) (e_M_tellInode_28 K N a0 (1 : Int32) a1 s65 t66 _ hk72)) ?_
                                          refine px_blk (i' := 144) (L' := [some (.ref 28), some (.int a0), some (.int a1), none, some (.int v38), some (.int y46), none, none]) (S' := [.int (0 : Int32)]) (w' := px_w K s70 t71) (q := []) 1 hM rfl trivial ?_
                                          cases h
                                          exact px_E_ret hM rfl rfl rfl trivial
                                        · cases h
                                      · cases h
                                    · cases h
                              · rw [if_neg hi47] at h
                                cases h
                            · cases h
                              exact px_E_le (px_leC_L _ _ (by simp [px_leC, px_le1, Value.category])) (e_l_M_cut_28_77 K N a0 a1 v38 N (0 : Int32) (0 : Int32) s35 t36 _ hl44 _ _ ⟨rfl, rfl⟩)
                          · cases h
                        · rw [if_neg hc34] at h
                          refine px_blk (i' := 48) (L' := [some (.ref 28), some (.int a0), some (.int a1), some (.int v32), none, none, none, none]) (S' := [.int v32, .ref 28]) (w' := px_w K s29 t30) (q := []) 2 hM rfl trivial ?_
                          rcases px_bv_some h with ⟨s75, t76, hk77, h⟩ | ⟨x79, s75, t76, hk77, h⟩
                          · refine px_E_call hM rfl rfl rfl rfl (px_E_mono (by decide) (e_M_fetch_28 K N v32 s29 t30 _ hk77)) ?_
                            refine px_blkif (c := ¬ (s75.1 29) = 0) (t := 54) (e := 52) (L' := [some (.ref 28), some (.int a0), some (.int a1), some (.int v32), none, none, none, none]) (S' := []) (w' := px_w K s75 t76) (q := []) 3 hM rfl trivial (fun hc80 => ?_) (fun hc80 => ?_)
                            · rw [if_pos hc80] at h
                              refine px_blk (i' := 58) (L' := [some (.ref 28), some (.int a0), some (.int a1), some (.int v32), some (.int (a1 - a1 / (16 : Int32) * (16 : Int32))), none, none, none]) (S' := []) (w' := px_w K s75 t76) (q := [¬ (16 : Int32) = 0]) 4 hM rfl (show ¬ (16 : Int32) = 0 from (by decide)) ?_
                              obtain ⟨v81, hv82, h⟩ := px_let_some h
                              rw [← hv82]
                              rcases px_lp_some h with ⟨i83, vs84, s85, t86, hl87, h⟩ | ⟨z88, hl87, h⟩
                              · by_cases hi89 : i83 = 68
                                · subst hi89
                                  rw [if_pos rfl] at h
                                  have h9 := px_v0_some h
                                  clear h
                                  obtain ⟨rfl, h⟩ := h9
                                  refine e_l_M_cut_28_58 K N a0 a1 v32 N v81 s75 t76 _ hl87 _ _ ?_
                                  show px_E px_ET px_P 13 81 68 [some (.ref 28), some (.int a0), some (.int a1), none, none, none, none, none] [] (px_w K s85 t86) _ _
                                  refine px_blk (i' := 71) (L' := [some (.ref 28), some (.int a0), some (.int a1), none, none, none, none, none]) (S' := [.int (6 : Int32), .int a0, .ref 28]) (w' := px_w K s85 t86) (q := []) 3 hM rfl trivial ?_
                                  rcases px_bi_some h with ⟨v93, s90, t91, hk92, h⟩ | ⟨x94, s90, t91, hk92, h⟩
                                  · refine px_E_call hM rfl rfl rfl rfl (px_E_mono (by decide) (e_M_ofInode_28 K N a0 (6 : Int32) s85 t86 _ hk92)) ?_
                                    refine px_blk (i' := 77) (L' := [some (.ref 28), some (.int a0), some (.int a1), none, some (.int v93), some (.int (0 : Int32)), some (.int (0 : Int32)), none]) (S' := []) (w' := px_w K s90 t91) (q := []) 5 hM rfl trivial ?_
                                    rcases px_lp_some h with ⟨i95, vs96, s97, t98, hl99, h⟩ | ⟨z100, hl99, h⟩
                                    · by_cases hi102 : i95 = 126
                                      · subst hi102
                                        rw [if_pos rfl] at h
                                        have h9 := px_v1_some h
                                        clear h
                                        obtain ⟨y101, rfl, h⟩ := h9
                                        refine e_l_M_cut_28_77 K N a0 a1 v93 N (0 : Int32) (0 : Int32) s90 t91 _ hl99 _ _ ?_
                                        show px_E px_ET px_P 13 81 126 [some (.ref 28), some (.int a0), some (.int a1), none, some (.int v93), some (.int y101), none, none] [] (px_w K s97 t98) _ _
                                        refine px_blkif (c := v93 ≤ 0) (t := 138) (e := 128) (L' := [some (.ref 28), some (.int a0), some (.int a1), none, some (.int v93), some (.int y101), none, none]) (S' := []) (w' := px_w K s97 t98) (q := []) 2 hM rfl trivial (fun hc103 => ?_) (fun hc103 => ?_)
                                        · rw [if_pos hc103] at h
                                          refine px_blk (i' := 142) (L' := [some (.ref 28), some (.int a0), some (.int a1), none, some (.int v93), some (.int y101), none, none]) (S' := [.int a1, .int (1 : Int32), .int a0, .ref 28]) (w' := px_w K s97 t98) (q := []) 4 hM rfl trivial ?_
                                          rcases px_bv_some h with ⟨s104, t105, hk106, h⟩ | ⟨x108, s104, t105, hk106, h⟩
                                          · refine px_E_call hM rfl rfl rfl rfl (px_E_mono (by decide) (e_M_tellInode_28 K N a0 (1 : Int32) a1 s97 t98 _ hk106)) ?_
                                            refine px_blk (i' := 144) (L' := [some (.ref 28), some (.int a0), some (.int a1), none, some (.int v93), some (.int y101), none, none]) (S' := [.int (0 : Int32)]) (w' := px_w K s104 t105) (q := []) 1 hM rfl trivial ?_
                                            cases h
                                            exact px_E_ret hM rfl rfl rfl trivial
                                          · cases h
                                        · rw [if_neg hc103] at h
                                          refine px_blkif (c := ¬ y101 = 0) (t := 138) (e := 130) (L' := [some (.ref 28), some (.int a0), some (.int a1), none, some (.int v93), some (.int y101), none, none]) (S' := []) (w' := px_w K s97 t98) (q := []) 2 hM rfl trivial (fun hc109 => ?_) (fun hc109 => ?_)
                                          · rw [if_pos hc109] at h
                                            refine px_blk (i' := 142) (L' := [some (.ref 28), some (.int a0), some (.int a1), none, some (.int v93), some (.int y101), none, none]) (S' := [.int a1, .int (1 : Int32), .int a0, .ref 28]) (w' := px_w K s97 t98) (q := []) 4 hM rfl trivial ?_
                                            rcases px_bv_some h with ⟨s110, t111, hk112, h⟩ | ⟨x114, s110, t111, hk112, h⟩
                                            · refine px_E_call hM rfl rfl rfl rfl (px_E_mono (by decide) (e_M_tellInode_28 K N a0 (1 : Int32) a1 s97 t98 _ hk112)) ?_
                                              refine px_blk (i' := 144) (L' := [some (.ref 28), some (.int a0), some (.int a1), none, some (.int v93), some (.int y101), none, none]) (S' := [.int (0 : Int32)]) (w' := px_w K s110 t111) (q := []) 1 hM rfl trivial ?_
                                              cases h
                                              exact px_E_ret hM rfl rfl rfl trivial
                                            · cases h
                                          · rw [if_neg hc109] at h
                                            refine px_blk (i' := 132) (L' := [some (.ref 28), some (.int a0), some (.int a1), none, some (.int v93), some (.int y101), none, none]) (S' := [.int v93, .ref 28]) (w' := px_w K s97 t98) (q := []) 2 hM rfl trivial ?_
                                            rcases px_bv_some h with ⟨s115, t116, hk117, h⟩ | ⟨x119, s115, t116, hk117, h⟩
                                            · refine px_E_call hM rfl rfl rfl rfl (px_E_mono (by decide) (e_M_giveBack_28 K N v93 s97 t98 _ hk117)) ?_
                                              refine px_blk (i' := 137) (L' := [some (.ref 28), some (.int a0), some (.int a1), none, some (.int v93), some (.int y101), none, none]) (S' := [.int (0 : Int32), .int (6 : Int32), .int a0, .ref 28]) (w' := px_w K s115 t116) (q := []) 4 hM rfl trivial ?_
                                              rcases px_bv_some h with ⟨s120, t121, hk122, h⟩ | ⟨x124, s120, t121, hk122, h⟩
                                              · refine px_E_call hM rfl rfl rfl rfl (px_E_mono (by decide) (e_M_tellInode_28 K N a0 (6 : Int32) (0 : Int32) s115 t116 _ hk122)) ?_
                                                refine px_blk (i' := 142) (L' := [some (.ref 28), some (.int a0), some (.int a1), none, some (.int v93), some (.int y101), none, none]) (S' := [.int a1, .int (1 : Int32), .int a0, .ref 28]) (w' := px_w K s120 t121) (q := []) 4 hM rfl trivial ?_
                                                rcases px_bv_some h with ⟨s125, t126, hk127, h⟩ | ⟨x129, s125, t126, hk127, h⟩
                                                · refine px_E_call hM rfl rfl rfl rfl (px_E_mono (by decide) (e_M_tellInode_28 K N a0 (1 : Int32) a1 s120 t121 _ hk127)) ?_
                                                  refine px_blk (i' := 144) (L' := [some (.ref 28), some (.int a0), some (.int a1), none, some (.int v93), some (.int y101), none, none]) (S' := [.int (0 : Int32)]) (w' := px_w K s125 t126) (q := []) 1 hM rfl trivial ?_
                                                  cases h
                                                  exact px_E_ret hM rfl rfl rfl trivial
                                                · cases h
                                              · cases h
                                            · cases h
                                      · rw [if_neg hi102] at h
                                        cases h
                                    · cases h
                                      exact e_l_M_cut_28_77 K N a0 a1 v93 N (0 : Int32) (0 : Int32) s90 t91 _ hl99 _ _ ⟨rfl, rfl⟩
                                  · cases h
                                · rw [if_neg hi89] at h
                                  cases h
                              · cases h
                                exact e_l_M_cut_28_58 K N a0 a1 v32 N v81 s75 t76 _ hl87 _ _ ⟨rfl, rfl⟩
                            · rw [if_neg hc80] at h
                              refine px_blk (i' := 53) (L' := [some (.ref 28), some (.int a0), some (.int a1), some (.int v32), none, none, none, none]) (S' := [.int (-9 : Int32)]) (w' := px_w K s75 t76) (q := []) 1 hM rfl trivial ?_
                              cases h
                              exact px_E_ret hM rfl rfl rfl trivial
                          · cases h
                      · cases h
                    · rw [if_neg hc28] at h
                      refine px_blkif (c := (0 : Int32) ≤ 0) (t := 68) (e := 46) (L' := [some (.ref 28), some (.int a0), some (.int a1), some (.int (0 : Int32)), none, none, none, none]) (S' := []) (w' := px_w K s22 t23) (q := []) 5 hM rfl trivial (fun hc130 => ?_) (fun hc130 => ?_)
                      · rw [if_pos hc130] at h
                        refine px_blk (i' := 71) (L' := [some (.ref 28), some (.int a0), some (.int a1), some (.int (0 : Int32)), none, none, none, none]) (S' := [.int (6 : Int32), .int a0, .ref 28]) (w' := px_w K s22 t23) (q := []) 3 hM rfl trivial ?_
                        rcases px_bi_some h with ⟨v134, s131, t132, hk133, h⟩ | ⟨x135, s131, t132, hk133, h⟩
                        · refine px_E_call hM rfl rfl rfl rfl (px_E_mono (by decide) (e_M_ofInode_28 K N a0 (6 : Int32) s22 t23 _ hk133)) ?_
                          refine px_blk (i' := 77) (L' := [some (.ref 28), some (.int a0), some (.int a1), some (.int (0 : Int32)), some (.int v134), some (.int (0 : Int32)), some (.int (0 : Int32)), none]) (S' := []) (w' := px_w K s131 t132) (q := []) 5 hM rfl trivial ?_
                          rcases px_lp_some h with ⟨i136, vs137, s138, t139, hl140, h⟩ | ⟨z141, hl140, h⟩
                          · by_cases hi143 : i136 = 126
                            · subst hi143
                              rw [if_pos rfl] at h
                              have h9 := px_v1_some h
                              clear h
                              obtain ⟨y142, rfl, h⟩ := h9
                              refine px_E_le (px_leC_L _ _ (by simp [px_leC, px_le1, Value.category])) (e_l_M_cut_28_77 K N a0 a1 v134 N (0 : Int32) (0 : Int32) s131 t132 _ hl140 _ _ ?_)
                              show px_E px_ET px_P 13 81 126 [some (.ref 28), some (.int a0), some (.int a1), none, some (.int v134), some (.int y142), none, none] [] (px_w K s138 t139) _ _
                              refine px_blkif (c := v134 ≤ 0) (t := 138) (e := 128) (L' := [some (.ref 28), some (.int a0), some (.int a1), none, some (.int v134), some (.int y142), none, none]) (S' := []) (w' := px_w K s138 t139) (q := []) 2 hM rfl trivial (fun hc144 => ?_) (fun hc144 => ?_)
                              · rw [if_pos hc144] at h
                                refine px_blk (i' := 142) (L' := [some (.ref 28), some (.int a0), some (.int a1), none, some (.int v134), some (.int y142), none, none]) (S' := [.int a1, .int (1 : Int32), .int a0, .ref 28]) (w' := px_w K s138 t139) (q := []) 4 hM rfl trivial ?_
                                rcases px_bv_some h with ⟨s145, t146, hk147, h⟩ | ⟨x149, s145, t146, hk147, h⟩
                                · refine px_E_call hM rfl rfl rfl rfl (px_E_mono (by decide) (e_M_tellInode_28 K N a0 (1 : Int32) a1 s138 t139 _ hk147)) ?_
                                  refine px_blk (i' := 144) (L' := [some (.ref 28), some (.int a0), some (.int a1), none, some (.int v134), some (.int y142), none, none]) (S' := [.int (0 : Int32)]) (w' := px_w K s145 t146) (q := []) 1 hM rfl trivial ?_
                                  cases h
                                  exact px_E_ret hM rfl rfl rfl trivial
                                · cases h
                              · rw [if_neg hc144] at h
                                refine px_blkif (c := ¬ y142 = 0) (t := 138) (e := 130) (L' := [some (.ref 28), some (.int a0), some (.int a1), none, some (.int v134), some (.int y142), none, none]) (S' := []) (w' := px_w K s138 t139) (q := []) 2 hM rfl trivial (fun hc150 => ?_) (fun hc150 => ?_)
                                · rw [if_pos hc150] at h
                                  refine px_blk (i' := 142) (L' := [some (.ref 28), some (.int a0), some (.int a1), none, some (.int v134), some (.int y142), none, none]) (S' := [.int a1, .int (1 : Int32), .int a0, .ref 28]) (w' := px_w K s138 t139) (q := []) 4 hM rfl trivial ?_
                                  rcases px_bv_some h with ⟨s151, t152, hk153, h⟩ | ⟨x155, s151, t152, hk153, h⟩
                                  · refine px_E_call hM rfl rfl rfl rfl (px_E_mono (by decide) (e_M_tellInode_28 K N a0 (1 : Int32) a1 s138 t139 _ hk153)) ?_
                                    refine px_blk (i' := 144) (L' := [some (.ref 28), some (.int a0), some (.int a1), none, some (.int v134), some (.int y142), none, none]) (S' := [.int (0 : Int32)]) (w' := px_w K s151 t152) (q := []) 1 hM rfl trivial ?_
                                    cases h
                                    exact px_E_ret hM rfl rfl rfl trivial
                                  · cases h
                                · rw [if_neg hc150] at h
                                  refine px_blk (i' := 132) (L' := [some (.ref 28), some (.int a0), some (.int a1), none, some (.int v134), some (.int y142), none, none]) (S' := [.int v134, .ref 28]) (w' := px_w K s138 t139) (q := []) 2 hM rfl trivial ?_
                                  rcases px_bv_some h with ⟨s156, t157, hk158, h⟩ | ⟨x160, s156, t157, hk158, h⟩
                                  · refine px_E_call hM rfl rfl rfl rfl (px_E_mono (by decide) (e_M_giveBack_28 K N v134 s138 t139 _ hk158)) ?_
                                    refine px_blk (i' := 137) (L' := [some (.ref 28), some (.int a0), some (.int a1), none, some (.int v134), some (.int y142), none, none]) (S' := [.int (0 : Int32), .int (6 : Int32), .int a0, .ref 28]) (w' := px_w K s156 t157) (q := []) 4 hM rfl trivial ?_
                                    rcases px_bv_some h with ⟨s161, t162, hk163, h⟩ | ⟨x165, s161, t162, hk163, h⟩
                                    · refine px_E_call hM rfl rfl rfl rfl (px_E_mono (by decide) (e_M_tellInode_28 K N a0 (6 : Int32) (0 : Int32) s156 t157 _ hk163)) ?_
                                      refine px_blk (i' := 142) (L' := [some (.ref 28), some (.int a0), some (.int a1), none, some (.int v134), some (.int y142), none, none]) (S' := [.int a1, .int (1 : Int32), .int a0, .ref 28]) (w' := px_w K s161 t162) (q := []) 4 hM rfl trivial ?_
                                      rcases px_bv_some h with ⟨s166, t167, hk168, h⟩ | ⟨x170, s166, t167, hk168, h⟩
                                      · refine px_E_call hM rfl rfl rfl rfl (px_E_mono (by decide) (e_M_tellInode_28 K N a0 (1 : Int32) a1 s161 t162 _ hk168)) ?_
                                        refine px_blk (i' := 144) (L' := [some (.ref 28), some (.int a0), some (.int a1), none, some (.int v134), some (.int y142), none, none]) (S' := [.int (0 : Int32)]) (w' := px_w K s166 t167) (q := []) 1 hM rfl trivial ?_
                                        cases h
                                        exact px_E_ret hM rfl rfl rfl trivial
                                      · cases h
                                    · cases h
                                  · cases h
                            · rw [if_neg hi143] at h
                              cases h
                          · cases h
                            exact px_E_le (px_leC_L _ _ (by simp [px_leC, px_le1, Value.category])) (e_l_M_cut_28_77 K N a0 a1 v134 N (0 : Int32) (0 : Int32) s131 t132 _ hl140 _ _ ⟨rfl, rfl⟩)
                        · cases h
                      · rw [if_neg hc130] at h
                        refine px_blk (i' := 48) (L' := [some (.ref 28), some (.int a0), some (.int a1), some (.int (0 : Int32)), none, none, none, none]) (S' := [.int (0 : Int32), .ref 28]) (w' := px_w K s22 t23) (q := []) 2 hM rfl trivial ?_
                        rcases px_bv_some h with ⟨s171, t172, hk173, h⟩ | ⟨x175, s171, t172, hk173, h⟩
                        · refine px_E_call hM rfl rfl rfl rfl (px_E_mono (by decide) (e_M_fetch_28 K N (0 : Int32) s22 t23 _ hk173)) ?_
                          refine px_blkif (c := ¬ (s171.1 29) = 0) (t := 54) (e := 52) (L' := [some (.ref 28), some (.int a0), some (.int a1), some (.int (0 : Int32)), none, none, none, none]) (S' := []) (w' := px_w K s171 t172) (q := []) 3 hM rfl trivial (fun hc176 => ?_) (fun hc176 => ?_)
                          · rw [if_pos hc176] at h
                            refine px_blk (i' := 58) (L' := [some (.ref 28), some (.int a0), some (.int a1), some (.int (0 : Int32)), some (.int (a1 - a1 / (16 : Int32) * (16 : Int32))), none, none, none]) (S' := []) (w' := px_w K s171 t172) (q := [¬ (16 : Int32) = 0]) 4 hM rfl (show ¬ (16 : Int32) = 0 from (by decide)) ?_
                            obtain ⟨v177, hv178, h⟩ := px_let_some h
                            rw [← hv178]
                            rcases px_lp_some h with ⟨i179, vs180, s181, t182, hl183, h⟩ | ⟨z184, hl183, h⟩
                            · by_cases hi185 : i179 = 68
                              · subst hi185
                                rw [if_pos rfl] at h
                                have h9 := px_v0_some h
                                clear h
                                obtain ⟨rfl, h⟩ := h9
                                refine e_l_M_cut_28_58 K N a0 a1 (0 : Int32) N v177 s171 t172 _ hl183 _ _ ?_
                                show px_E px_ET px_P 13 81 68 [some (.ref 28), some (.int a0), some (.int a1), none, none, none, none, none] [] (px_w K s181 t182) _ _
                                refine px_blk (i' := 71) (L' := [some (.ref 28), some (.int a0), some (.int a1), none, none, none, none, none]) (S' := [.int (6 : Int32), .int a0, .ref 28]) (w' := px_w K s181 t182) (q := []) 3 hM rfl trivial ?_
                                rcases px_bi_some h with ⟨v189, s186, t187, hk188, h⟩ | ⟨x190, s186, t187, hk188, h⟩
                                · refine px_E_call hM rfl rfl rfl rfl (px_E_mono (by decide) (e_M_ofInode_28 K N a0 (6 : Int32) s181 t182 _ hk188)) ?_
                                  refine px_blk (i' := 77) (L' := [some (.ref 28), some (.int a0), some (.int a1), none, some (.int v189), some (.int (0 : Int32)), some (.int (0 : Int32)), none]) (S' := []) (w' := px_w K s186 t187) (q := []) 5 hM rfl trivial ?_
                                  rcases px_lp_some h with ⟨i191, vs192, s193, t194, hl195, h⟩ | ⟨z196, hl195, h⟩
                                  · by_cases hi198 : i191 = 126
                                    · subst hi198
                                      rw [if_pos rfl] at h
                                      have h9 := px_v1_some h
                                      clear h
                                      obtain ⟨y197, rfl, h⟩ := h9
                                      refine e_l_M_cut_28_77 K N a0 a1 v189 N (0 : Int32) (0 : Int32) s186 t187 _ hl195 _ _ ?_
                                      show px_E px_ET px_P 13 81 126 [some (.ref 28), some (.int a0), some (.int a1), none, some (.int v189), some (.int y197), none, none] [] (px_w K s193 t194) _ _
                                      refine px_blkif (c := v189 ≤ 0) (t := 138) (e := 128) (L' := [some (.ref 28), some (.int a0), some (.int a1), none, some (.int v189), some (.int y197), none, none]) (S' := []) (w' := px_w K s193 t194) (q := []) 2 hM rfl trivial (fun hc199 => ?_) (fun hc199 => ?_)
                                      · rw [if_pos hc199] at h
                                        refine px_blk (i' := 142) (L' := [some (.ref 28), some (.int a0), some (.int a1), none, some (.int v189), some (.int y197), none, none]) (S' := [.int a1, .int (1 : Int32), .int a0, .ref 28]) (w' := px_w K s193 t194) (q := []) 4 hM rfl trivial ?_
                                        rcases px_bv_some h with ⟨s200, t201, hk202, h⟩ | ⟨x204, s200, t201, hk202, h⟩
                                        · refine px_E_call hM rfl rfl rfl rfl (px_E_mono (by decide) (e_M_tellInode_28 K N a0 (1 : Int32) a1 s193 t194 _ hk202)) ?_
                                          refine px_blk (i' := 144) (L' := [some (.ref 28), some (.int a0), some (.int a1), none, some (.int v189), some (.int y197), none, none]) (S' := [.int (0 : Int32)]) (w' := px_w K s200 t201) (q := []) 1 hM rfl trivial ?_
                                          cases h
                                          exact px_E_ret hM rfl rfl rfl trivial
                                        · cases h
                                      · rw [if_neg hc199] at h
                                        refine px_blkif (c := ¬ y197 = 0) (t := 138) (e := 130) (L' := [some (.ref 28), some (.int a0), some (.int a1), none, some (.int v189), some (.int y197), none, none]) (S' := []) (w' := px_w K s193 t194) (q := []) 2 hM rfl trivial (fun hc205 => ?_) (fun hc205 => ?_)
                                        · rw [if_pos hc205] at h
                                          refine px_blk (i' := 142) (L' := [some (.ref 28), some (.int a0), some (.int a1), none, some (.int v189), some (.int y197), none, none]) (S' := [.int a1, .int (1 : Int32), .int a0, .ref 28]) (w' := px_w K s193 t194) (q := []) 4 hM rfl trivial ?_
                                          rcases px_bv_some h with ⟨s206, t207, hk208, h⟩ | ⟨x210, s206, t207, hk208, h⟩
                                          · refine px_E_call hM rfl rfl rfl rfl (px_E_mono (by decide) (e_M_tellInode_28 K N a0 (1 : Int32) a1 s193 t194 _ hk208)) ?_
                                            refine px_blk (i' := 144) (L' := [some (.ref 28), some (.int a0), some (.int a1), none, some (.int v189), some (.int y197), none, none]) (S' := [.int (0 : Int32)]) (w' := px_w K s206 t207) (q := []) 1 hM rfl trivial ?_
                                            cases h
                                            exact px_E_ret hM rfl rfl rfl trivial
                                          · cases h
                                        · rw [if_neg hc205] at h
                                          refine px_blk (i' := 132) (L' := [some (.ref 28), some (.int a0), some (.int a1), none, some (.int v189), some (.int y197), none, none]) (S' := [.int v189, .ref 28]) (w' := px_w K s193 t194) (q := []) 2 hM rfl trivial ?_
                                          rcases px_bv_some h with ⟨s211, t212, hk213, h⟩ | ⟨x215, s211, t212, hk213, h⟩
                                          · refine px_E_call hM rfl rfl rfl rfl (px_E_mono (by decide) (e_M_giveBack_28 K N v189 s193 t194 _ hk213)) ?_
                                            refine px_blk (i' := 137) (L' := [some (.ref 28), some (.int a0), some (.int a1), none, some (.int v189), some (.int y197), none, none]) (S' := [.int (0 : Int32), .int (6 : Int32), .int a0, .ref 28]) (w' := px_w K s211 t212) (q := []) 4 hM rfl trivial ?_
                                            rcases px_bv_some h with ⟨s216, t217, hk218, h⟩ | ⟨x220, s216, t217, hk218, h⟩
                                            · refine px_E_call hM rfl rfl rfl rfl (px_E_mono (by decide) (e_M_tellInode_28 K N a0 (6 : Int32) (0 : Int32) s211 t212 _ hk218)) ?_
                                              refine px_blk (i' := 142) (L' := [some (.ref 28), some (.int a0), some (.int a1), none, some (.int v189), some (.int y197), none, none]) (S' := [.int a1, .int (1 : Int32), .int a0, .ref 28]) (w' := px_w K s216 t217) (q := []) 4 hM rfl trivial ?_
                                              rcases px_bv_some h with ⟨s221, t222, hk223, h⟩ | ⟨x225, s221, t222, hk223, h⟩
                                              · refine px_E_call hM rfl rfl rfl rfl (px_E_mono (by decide) (e_M_tellInode_28 K N a0 (1 : Int32) a1 s216 t217 _ hk223)) ?_
                                                refine px_blk (i' := 144) (L' := [some (.ref 28), some (.int a0), some (.int a1), none, some (.int v189), some (.int y197), none, none]) (S' := [.int (0 : Int32)]) (w' := px_w K s221 t222) (q := []) 1 hM rfl trivial ?_
                                                cases h
                                                exact px_E_ret hM rfl rfl rfl trivial
                                              · cases h
                                            · cases h
                                          · cases h
                                    · rw [if_neg hi198] at h
                                      cases h
                                  · cases h
                                    exact e_l_M_cut_28_77 K N a0 a1 v189 N (0 : Int32) (0 : Int32) s186 t187 _ hl195 _ _ ⟨rfl, rfl⟩
                                · cases h
                              · rw [if_neg hi185] at h
                                cases h
                            · cases h
                              exact e_l_M_cut_28_58 K N a0 a1 (0 : Int32) N v177 s171 t172 _ hl183 _ _ ⟨rfl, rfl⟩
                          · rw [if_neg hc176] at h
                            refine px_blk (i' := 53) (L' := [some (.ref 28), some (.int a0), some (.int a1), some (.int (0 : Int32)), none, none, none, none]) (S' := [.int (-9 : Int32)]) (w' := px_w K s171 t172) (q := []) 1 hM rfl trivial ?_
                            cases h
                            exact px_E_ret hM rfl rfl rfl trivial
                        · cases h
                  · rw [if_neg hc27] at h
                    refine px_blk (i' := 30) (L' := [some (.ref 28), some (.int a0), some (.int a1), none, none, none, none, none]) (S' := [.int (0 : Int32)]) (w' := px_w K s22 t23) (q := []) 1 hM rfl trivial ?_
                    cases h
                    exact px_E_ret hM rfl rfl rfl trivial
                · cases h
              · rw [if_neg hc21] at h
                refine px_blk (i' := 22) (L' := [some (.ref 28), some (.int a0), some (.int a1), none, none, none, none, none]) (S' := [.int (-4 : Int32)]) (w' := px_w K s16 t17) (q := []) 1 hM rfl trivial ?_
                cases h
                exact px_E_ret hM rfl rfl rfl trivial
            · cases h
      · cases h
    · rw [if_neg hc8] at h
      refine px_blk (i' := 7) (L' := [some (.ref 28), some (.int a0), some (.int a1), none, none, none, none, none]) (S' := [.int (-9 : Int32)]) (w' := px_w K s3 t4) (q := []) 1 hM rfl trivial ?_
      cases h
      exact px_E_ret hM rfl rfl rfl trivial
  · cases h
