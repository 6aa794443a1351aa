/-! THE METHODS AS FUNCTIONS (by program). -/
noncomputable def l_Arrays_fill_27_5 (K : px_K) (N : Nat) (n : Nat) (u1 : Int32) (u3 : Int32) (m2 : Int32) (s : px_S) (t : px_W) : Option px_LO := match n with
  | 0 => none
  | n + 1 => (if u3 ≤ m2 then (some (.inl (14, [], s, t))) else (px_gd (vp_in m2 (K.2.2 27)) (px_let (sA s 27 m2.toNatClampNeg u1) (fun s3 => (l_Arrays_fill_27_5 K N n u1 u3 (m2 + (1 : Int32)) s3 t)))))
def a_l_Arrays_fill_27_5 (K : px_K) (u1 : Int32) (u3 : Int32) (z : px_LO) (o : Option Value ⊕ Nat) (w2 : px_W) : Prop := match z with
  | .inr (o', s', t') => o = o' ∧ w2 = px_w K s' t'
  | .inl (14, [], s', t') => px_E px_ET px_P 1 206 14 [none, none, none, none] [] (px_w K s' t') o w2
  | _ => False
set_option maxRecDepth 100000 in
theorem e_l_Arrays_fill_27_5 (K : px_K) (N : Nat) (u1 : Int32) (u3 : Int32) : ∀ (n : Nat) (m2 : Int32) (s : px_S) (t : px_W) (z : px_LO), l_Arrays_fill_27_5 K N n u1 u3 m2 s t = some z → ∀ (o : Option Value ⊕ Nat) (w2 : px_W), a_l_Arrays_fill_27_5 K u1 u3 z o w2 → px_E px_ET px_P 1 206 5 [some (.ref 27), some (.int u1), some (.int m2), some (.int u3)] [] (px_w K s t) o w2 := by
  have hM : px_P[206]? = some pm_Arrays_fill := rfl
  intro n
  induction n with
  | zero => intro m2 s t z h; cases h
  | succ n ih =>
    intro m2 s t z h o w2 ha
    unfold l_Arrays_fill_27_5 at h
    refine px_blkif (c := u3 ≤ m2) (t := 14) (e := 8) (L' := [some (.ref 27), some (.int u1), some (.int m2), some (.int u3)]) (S' := []) (w' := px_w K s t) (q := []) 3 hM rfl trivial (fun hc1 => ?_) (fun hc1 => ?_)
    · rw [if_pos hc1] at h
      cases h
      exact px_E_le (px_leC_L _ _ (by simp [px_leC, px_le1, Value.category])) ha
    · rw [if_neg hc1] at h
      obtain ⟨hq2, h⟩ := px_gd_some h
      refine px_blk (i' := 12) (L' := [some (.ref 27), some (.int u1), some (.int m2), some (.int u3)]) (S' := []) (w' := px_w K (sA s 27 m2.toNatClampNeg u1) t) (q := [vp_in m2 (K.2.2 27)]) 4 hM rfl (show vp_in m2 (K.2.2 27) from hq2) ?_
      obtain ⟨s3, hs4, h⟩ := px_let_some h
      rw [← hs4]
      refine px_blk (i' := 5) (L' := [some (.ref 27), some (.int u1), some (.int (m2 + (1 : Int32))), some (.int u3)]) (S' := []) (w' := px_w K s3 t) (q := []) 2 hM rfl trivial ?_
      exact ih (m2 + (1 : Int32)) s3 t z h o w2 ha
noncomputable def f_Arrays_fill_27 (K : px_K) (N : Nat) (a0 : Int32) (s : px_S) (t : px_W) : Option px_Res :=
  (px_let (Int32.ofNat (K.2.2 27)) (fun v1 => (px_lp (l_Arrays_fill_27_5 K N N a0 v1 (0 : Int32) s t) (fun i3 vs4 s5 t6 => (if i3 = 14 then (px_v0 vs4 (some (.inl none, s5, t6))) else none)) (fun z8 => some z8))))
set_option maxRecDepth 100000 in
theorem e_Arrays_fill_27 (K : px_K) (N : Nat) (a0 : Int32) (s : px_S) (t : px_W) (r : px_Res) (h : f_Arrays_fill_27 K N a0 s t = some r) : px_E px_ET px_P 1 206 0 (px_ent 4 [.ref 27, .int a0]) [] (px_w K s t) r.1 (px_w K r.2.1 r.2.2) := by
  have hM : px_P[206]? = some pm_Arrays_fill := rfl
  unfold f_Arrays_fill_27 at h
  refine px_blk (i' := 5) (L' := [some (.ref 27), some (.int a0), some (.int (0 : Int32)), some (.int (Int32.ofNat (K.2.2 27)))]) (S' := []) (w' := px_w K s t) (q := []) 5 hM rfl trivial ?_
  obtain ⟨v1, hv2, h⟩ := px_let_some h
  rw [← hv2]
  rcases px_lp_some h with ⟨i3, vs4, s5, t6, hl7, h⟩ | ⟨z8, hl7, h⟩
  · by_cases hi9 : i3 = 14
    · subst hi9
      rw [if_pos rfl] at h
      have h9 := px_v0_some h
      clear h
      obtain ⟨rfl, h⟩ := h9
      refine e_l_Arrays_fill_27_5 K N a0 v1 N (0 : Int32) s t _ hl7 _ _ ?_
      show px_E px_ET px_P 1 206 14 [none, none, none, none] [] (px_w K s5 t6) _ _
      cases h
      exact px_E_ret hM rfl rfl rfl trivial
    · rw [if_neg hi9] at h
      cases h
  · cases h
    exact e_l_Arrays_fill_27_5 K N a0 v1 N (0 : Int32) s t _ hl7 _ _ ⟨rfl, rfl⟩
noncomputable def f_T_at_22 (K : px_K) (N : Nat) (a0 : Int32) (a1 : Int32) (s : px_S) (t : px_W) : Option px_Res :=
  (if a0 < 0 then (some (.inl (some (.int (0 : Int32))), s, t)) else (if (106 : Int32) ≤ a0 then (some (.inl (some (.int (0 : Int32))), s, t)) else (if a1 < 0 then (some (.inl (some (.int (0 : Int32))), s, t)) else (if (16 : Int32) ≤ a1 then (some (.inl (some (.int (0 : Int32))), s, t)) else (px_gd (vp_in ((a0 * (16 : Int32)) + a1) (K.2.2 23)) (some (.inl (some (.int ((s.2.2.1 23) ((a0 * (16 : Int32)) + a1).toNatClampNeg))), s, t)))))))
set_option maxRecDepth 100000 in
theorem e_T_at_22 (K : px_K) (N : Nat) (a0 : Int32) (a1 : Int32) (s : px_S) (t : px_W) (r : px_Res) (h : f_T_at_22 K N a0 a1 s t = some r) : px_E px_ET px_P 1 136 0 (px_ent 3 [.ref 22, .int a0, .int a1]) [] (px_w K s t) r.1 (px_w K r.2.1 r.2.2) := by
  have hM : px_P[136]? = some pm_T_at := rfl
  unfold f_T_at_22 at h
  refine px_blkif (c := a0 < 0) (t := 19) (e := 2) (L' := [some (.ref 22), some (.int a0), some (.int a1)]) (S' := []) (w' := px_w K s t) (q := []) 2 hM rfl trivial (fun hc1 => ?_) (fun hc1 => ?_)
  · rw [if_pos hc1] at h
    refine px_blk (i' := 20) (L' := [some (.ref 22), some (.int a0), some (.int a1)]) (S' := [.int (0 : Int32)]) (w' := px_w K s t) (q := []) 1 hM rfl trivial ?_
    cases h
    exact px_E_ret hM rfl rfl rfl trivial
  · rw [if_neg hc1] at h
    refine px_blkif (c := (106 : Int32) ≤ a0) (t := 19) (e := 5) (L' := [some (.ref 22), some (.int a0), some (.int a1)]) (S' := []) (w' := px_w K s t) (q := []) 3 hM rfl trivial (fun hc2 => ?_) (fun hc2 => ?_)
    · rw [if_pos hc2] at h
      refine px_blk (i' := 20) (L' := [some (.ref 22), some (.int a0), some (.int a1)]) (S' := [.int (0 : Int32)]) (w' := px_w K s t) (q := []) 1 hM rfl trivial ?_
      cases h
      exact px_E_ret hM rfl rfl rfl trivial
    · rw [if_neg hc2] at h
      refine px_blkif (c := a1 < 0) (t := 19) (e := 7) (L' := [some (.ref 22), some (.int a0), some (.int a1)]) (S' := []) (w' := px_w K s t) (q := []) 2 hM rfl trivial (fun hc3 => ?_) (fun hc3 => ?_)
      · rw [if_pos hc3] at h
        refine px_blk (i' := 20) (L' := [some (.ref 22), some (.int a0), some (.int a1)]) (S' := [.int (0 : Int32)]) (w' := px_w K s t) (q := []) 1 hM rfl trivial ?_
        cases h
        exact px_E_ret hM rfl rfl rfl trivial
      · rw [if_neg hc3] at h
        refine px_blkif (c := (16 : Int32) ≤ a1) (t := 19) (e := 10) (L' := [some (.ref 22), some (.int a0), some (.int a1)]) (S' := []) (w' := px_w K s t) (q := []) 3 hM rfl trivial (fun hc4 => ?_) (fun hc4 => ?_)
        · rw [if_pos hc4] at h
          refine px_blk (i' := 20) (L' := [some (.ref 22), some (.int a0), some (.int a1)]) (S' := [.int (0 : Int32)]) (w' := px_w K s t) (q := []) 1 hM rfl trivial ?_
          cases h
          exact px_E_ret hM rfl rfl rfl trivial
        · rw [if_neg hc4] at h
          obtain ⟨hq5, h⟩ := px_gd_some h
          refine px_blk (i' := 20) (L' := [some (.ref 22), some (.int a0), some (.int a1)]) (S' := [.int ((s.2.2.1 23) ((a0 * (16 : Int32)) + a1).toNatClampNeg)]) (w' := px_w K s t) (q := [vp_in ((a0 * (16 : Int32)) + a1) (K.2.2 23)]) 9 hM rfl (show vp_in ((a0 * (16 : Int32)) + a1) (K.2.2 23) from hq5) ?_
          cases h
          exact px_E_ret hM rfl rfl rfl trivial
noncomputable def f_T_looksLikeJournal_22 (K : px_K) (N : Nat) (a0 : Int32) (s : px_S) (t : px_W) : Option px_Res :=
  (px_gd ((if a0 = (1 : Int32) then (1 : Int32) else (if ¬ a0 = (2 : Int32) then (0 : Int32) else (1 : Int32))) = 0 ∨ (if a0 = (1 : Int32) then (1 : Int32) else (if ¬ a0 = (2 : Int32) then (0 : Int32) else (1 : Int32))) = 1) (some (.inl (some (.int (if a0 = (1 : Int32) then (1 : Int32) else (if ¬ a0 = (2 : Int32) then (0 : Int32) else (1 : Int32))))), s, t)))
set_option maxRecDepth 100000 in
theorem e_T_looksLikeJournal_22 (K : px_K) (N : Nat) (a0 : Int32) (s : px_S) (t : px_W) (r : px_Res) (h : f_T_looksLikeJournal_22 K N a0 s t = some r) : px_E px_ET px_P 1 169 0 (px_ent 2 [.ref 22, .int a0]) [] (px_w K s t) r.1 (px_w K r.2.1 r.2.2) := by
  have hM : px_P[169]? = some pm_T_looksLikeJournal := rfl
  unfold f_T_looksLikeJournal_22 at h
  refine px_blk (i' := 2) (L' := [some (.ref 22), some (.int a0)]) (S' := [.int (1 : Int32), .int a0]) (w' := px_w K s t) (q := []) 2 hM rfl trivial ?_
  have hK : px_E px_ET px_P 1 169 9 [some (.ref 22), some (.int a0)] [.int (if a0 = (1 : Int32) then (1 : Int32) else (if ¬ a0 = (2 : Int32) then (0 : Int32) else (1 : Int32)))] (px_w K s t) r.1 (px_w K r.2.1 r.2.2) := by
    obtain ⟨hq1, h⟩ := px_gd_some h
    cases h
    exact px_E_ret hM rfl rfl rfl (show (if a0 = (1 : Int32) then (1 : Int32) else (if ¬ a0 = (2 : Int32) then (0 : Int32) else (1 : Int32))) = 0 ∨ (if a0 = (1 : Int32) then (1 : Int32) else (if ¬ a0 = (2 : Int32) then (0 : Int32) else (1 : Int32))) = 1 from hq1)
  clear h
  refine px_blkif (c := a0 = (1 : Int32)) (t := 6) (e := 3) (L' := [some (.ref 22), some (.int a0)]) (S' := []) (w' := px_w K s t) (q := []) 1 hM rfl trivial (fun hc2 => ?_) (fun hc2 => ?_)
  · rw [if_pos hc2] at hK
    exact px_blk (i' := 9) (L' := [some (.ref 22), some (.int a0)]) (S' := [.int (1 : Int32)]) (w' := px_w K s t) (q := []) 2 hM rfl trivial hK
  · rw [if_neg hc2] at hK
    refine px_blkif (c := ¬ a0 = (2 : Int32)) (t := 8) (e := 6) (L' := [some (.ref 22), some (.int a0)]) (S' := []) (w' := px_w K s t) (q := []) 3 hM rfl trivial (fun hc3 => ?_) (fun hc3 => ?_)
    · rw [if_pos hc3] at hK
      exact px_blk (i' := 9) (L' := [some (.ref 22), some (.int a0)]) (S' := [.int (0 : Int32)]) (w' := px_w K s t) (q := []) 1 hM rfl trivial hK
    · rw [if_neg hc3] at hK
      exact px_blk (i' := 9) (L' := [some (.ref 22), some (.int a0)]) (S' := [.int (1 : Int32)]) (w' := px_w K s t) (q := []) 2 hM rfl trivial hK
noncomputable def l_T_setCommitRow_22_24 (K : px_K) (N : Nat) (n : Nat) (m2 : Int32) (m3 : Int32) (s : px_S) (t : px_W) : Option px_LO := match n with
  | 0 => none
  | n + 1 => (if (106 : Int32) ≤ m3 then (some (.inl (68, [], s, t))) else (px_gd (vp_in m3 (K.2.2 25)) (if ((s.2.2.1 25) m3.toNatClampNeg) = 0 then (l_T_setCommitRow_22_24 K N n m2 (m3 + (1 : Int32)) s t) else (if (12 : Int32) ≤ m2 then (l_T_setCommitRow_22_24 K N n m2 (m3 + (1 : Int32)) s t) else (px_gd (vp_in ((3 : Int32) + m2) (K.2.2 27)) (px_let (sA s 27 ((3 : Int32) + m2).toNatClampNeg m3) (fun s6 => (px_bi (f_T_at_22 K N m3 (0 : Int32) s6 t) (fun v11 s8 t9 => (px_gd (vp_in (15 : Int32) (K.2.2 27)) (px_bi (f_T_looksLikeJournal_22 K N v11 s8 t9) (fun v17 s14 t15 => (px_gd (vp_in (15 : Int32) (K.2.2 27)) (px_let (sA s14 27 (15 : Int32).toNatClampNeg (((s8.2.2.1 27) (15 : Int32).toNatClampNeg) ||| ((if v17 = 0 then (0 : Int32) else v11) <<< (((2 : Int32) * m2) &&& 31)))) (fun s20 => (l_T_setCommitRow_22_24 K N n (m2 + (1 : Int32)) (m3 + (1 : Int32)) s20 t15))))) (fun x18 s14 t15 => none)))) (fun x12 s8 t9 => none)))))))))
def a_l_T_setCommitRow_22_24 (K : px_K) (z : px_LO) (o : Option Value ⊕ Nat) (w2 : px_W) : Prop := match z with
  | .inr (o', s', t') => o = o' ∧ w2 = px_w K s' t'
  | .inl (68, [], s', t') => px_E px_ET px_P 2 170 68 [none, none, none, none, none] [] (px_w K s' t') o w2
  | _ => False
set_option maxRecDepth 100000 in
theorem e_l_T_setCommitRow_22_24 (K : px_K) (N : Nat) : ∀ (n : Nat) (m2 : Int32) (m3 : Int32) (s : px_S) (t : px_W) (z : px_LO), l_T_setCommitRow_22_24 K N n m2 m3 s t = some z → ∀ (o : Option Value ⊕ Nat) (w2 : px_W), a_l_T_setCommitRow_22_24 K z o w2 → px_E px_ET px_P 2 170 24 [some (.ref 22), none, some (.int m2), some (.int m3), none] [] (px_w K s t) o w2 := by
  have hM : px_P[170]? = some pm_T_setCommitRow := rfl
  intro n
  induction n with
  | zero => intro m2 m3 s t z h; cases h
  | succ n ih =>
    intro m2 m3 s t z h o w2 ha
    unfold l_T_setCommitRow_22_24 at h
    refine px_blkif (c := (106 : Int32) ≤ m3) (t := 68) (e := 27) (L' := [some (.ref 22), none, some (.int m2), some (.int m3), none]) (S' := []) (w' := px_w K s t) (q := []) 3 hM rfl trivial (fun hc1 => ?_) (fun hc1 => ?_)
    · rw [if_pos hc1] at h
      cases h
      exact px_E_le (px_leC_L _ _ (by simp [px_leC, px_le1, Value.category])) ha
    · rw [if_neg hc1] at h
      obtain ⟨hq2, h⟩ := px_gd_some h
      refine px_blkif (c := ((s.2.2.1 25) m3.toNatClampNeg) = 0) (t := 66) (e := 32) (L' := [some (.ref 22), none, some (.int m2), some (.int m3), none]) (S' := []) (w' := px_w K s t) (q := [vp_in m3 (K.2.2 25)]) 5 hM rfl (show vp_in m3 (K.2.2 25) from hq2) (fun hc3 => ?_) (fun hc3 => ?_)
      · rw [if_pos hc3] at h
        refine px_blk (i' := 24) (L' := [some (.ref 22), none, some (.int m2), some (.int (m3 + (1 : Int32))), none]) (S' := []) (w' := px_w K s t) (q := []) 2 hM rfl trivial ?_
        exact ih m2 (m3 + (1 : Int32)) s t z h o w2 ha
      · rw [if_neg hc3] at h
        refine px_blkif (c := (12 : Int32) ≤ m2) (t := 66) (e := 35) (L' := [some (.ref 22), none, some (.int m2), some (.int m3), none]) (S' := []) (w' := px_w K s t) (q := []) 3 hM rfl trivial (fun hc4 => ?_) (fun hc4 => ?_)
        · rw [if_pos hc4] at h
          refine px_blk (i' := 24) (L' := [some (.ref 22), none, some (.int m2), some (.int (m3 + (1 : Int32))), none]) (S' := []) (w' := px_w K s t) (q := []) 2 hM rfl trivial ?_
          exact ih m2 (m3 + (1 : Int32)) s t z h o w2 ha
        · rw [if_neg hc4] at h
          obtain ⟨hq5, h⟩ := px_gd_some h
          refine px_blk (i' := 42) (L' := [some (.ref 22), none, some (.int m2), some (.int m3), none]) (S' := []) (w' := px_w K (sA s 27 ((3 : Int32) + m2).toNatClampNeg m3) t) (q := [vp_in ((3 : Int32) + m2) (K.2.2 27)]) 7 hM rfl (show vp_in ((3 : Int32) + m2) (K.2.2 27) from hq5) ?_
          obtain ⟨s6, hs7, h⟩ := px_let_some h
          rw [← hs7]
          refine px_blk (i' := 45) (L' := [some (.ref 22), none, some (.int m2), some (.int m3), none]) (S' := [.int (0 : Int32), .int m3, .ref 22]) (w' := px_w K s6 t) (q := []) 3 hM rfl trivial ?_
          rcases px_bi_some h with ⟨v11, s8, t9, hk10, h⟩ | ⟨x12, s8, t9, hk10, h⟩
          · refine px_E_call hM rfl rfl rfl rfl (px_E_mono (by decide) (e_T_at_22 K N m3 (0 : Int32) s6 t _ hk10)) ?_
            obtain ⟨hq13, h⟩ := px_gd_some h
            refine px_blk (i' := 54) (L' := [some (.ref 22), none, some (.int m2), some (.int m3), some (.int v11)]) (S' := [.int v11, .ref 22, .int ((s8.2.2.1 27) (15 : Int32).toNatClampNeg), .int (15 : Int32), .ref 27]) (w' := px_w K s8 t9) (q := [vp_in (15 : Int32) (K.2.2 27)]) 8 hM rfl (show vp_in (15 : Int32) (K.2.2 27) from hq13) ?_
            rcases px_bi_some h with ⟨v17, s14, t15, hk16, h⟩ | ⟨x18, s14, t15, hk16, h⟩
            · refine px_E_call hM rfl rfl rfl rfl (px_E_mono (by decide) (e_T_looksLikeJournal_22 K N v11 s8 t9 _ hk16)) ?_
              have hK : px_E px_ET px_P 2 170 59 [some (.ref 22), none, some (.int m2), some (.int m3), some (.int v11)] [.int (if v17 = 0 then (0 : Int32) else v11), .int ((s8.2.2.1 27) (15 : Int32).toNatClampNeg), .int (15 : Int32), .ref 27] (px_w K s14 t15) o w2 := by
                obtain ⟨hq19, h⟩ := px_gd_some h
                refine px_blk (i' := 65) (L' := [some (.ref 22), none, some (.int m2), some (.int m3), some (.int v11)]) (S' := []) (w' := px_w K (sA s14 27 (15 : Int32).toNatClampNeg (((s8.2.2.1 27) (15 : Int32).toNatClampNeg) ||| ((if v17 = 0 then (0 : Int32) else v11) <<< (((2 : Int32) * m2) &&& 31)))) t15) (q := [vp_in (15 : Int32) (K.2.2 27)]) 6 hM rfl (show vp_in (15 : Int32) (K.2.2 27) from hq19) ?_
                obtain ⟨s20, hs21, h⟩ := px_let_some h
                rw [← hs21]
                refine px_blk (i' := 24) (L' := [some (.ref 22), none, some (.int (m2 + (1 : Int32))), some (.int (m3 + (1 : Int32))), some (.int v11)]) (S' := []) (w' := px_w K s20 t15) (q := []) 3 hM rfl trivial ?_
                exact px_E_le (px_leC_L _ _ (by simp [px_leC, px_le1, Value.category])) (ih (m2 + (1 : Int32)) (m3 + (1 : Int32)) s20 t15 z h o w2 ha)
              clear h
              refine px_blkif (c := v17 = 0) (t := 58) (e := 56) (L' := [some (.ref 22), none, some (.int m2), some (.int m3), some (.int v11)]) (S' := [.int ((s8.2.2.1 27) (15 : Int32).toNatClampNeg), .int (15 : Int32), .ref 27]) (w' := px_w K s14 t15) (q := []) 1 hM rfl trivial (fun hc22 => ?_) (fun hc22 => ?_)
              · rw [if_pos hc22] at hK
                exact px_blk (i' := 59) (L' := [some (.ref 22), none, some (.int m2), some (.int m3), some (.int v11)]) (S' := [.int (0 : Int32), .int ((s8.2.2.1 27) (15 : Int32).toNatClampNeg), .int (15 : Int32), .ref 27]) (w' := px_w K s14 t15) (q := []) 1 hM rfl trivial hK
              · rw [if_neg hc22] at hK
                exact px_blk (i' := 59) (L' := [some (.ref 22), none, some (.int m2), some (.int m3), some (.int v11)]) (S' := [.int v11, .int ((s8.2.2.1 27) (15 : Int32).toNatClampNeg), .int (15 : Int32), .ref 27]) (w' := px_w K s14 t15) (q := []) 2 hM rfl trivial hK
            · cases h
          · cases h
noncomputable def f_T_setCommitRow_22 (K : px_K) (N : Nat) (a0 : Int32) (s : px_S) (t : px_W) : Option px_Res :=
  (px_bv (f_Arrays_fill_27 K N (0 : Int32) s t) (fun s1 t2 => (px_gd (vp_in (0 : Int32) (K.2.2 27)) (px_let (sA s1 27 (0 : Int32).toNatClampNeg (1 : Int32)) (fun s7 => (px_gd (vp_in (1 : Int32) (K.2.2 27)) (px_let (sA s7 27 (1 : Int32).toNatClampNeg (s7.1 23)) (fun s10 => (px_gd (vp_in (2 : Int32) (K.2.2 27)) (px_let (sA s10 27 (2 : Int32).toNatClampNeg a0) (fun s13 => (px_lp (l_T_setCommitRow_22_24 K N N (0 : Int32) (0 : Int32) s13 t2) (fun i15 vs16 s17 t18 => (if i15 = 68 then (px_v0 vs16 (some (.inl none, s17, t18))) else none)) (fun z20 => some z20)))))))))))) (fun x5 s1 t2 => none))
set_option maxRecDepth 100000 in
theorem e_T_setCommitRow_22 (K : px_K) (N : Nat) (a0 : Int32) (s : px_S) (t : px_W) (r : px_Res) (h : f_T_setCommitRow_22 K N a0 s t = some r) : px_E px_ET px_P 2 170 0 (px_ent 5 [.ref 22, .int a0]) [] (px_w K s t) r.1 (px_w K r.2.1 r.2.2) := by
  have hM : px_P[170]? = some pm_T_setCommitRow := rfl
  unfold f_T_setCommitRow_22 at h
  refine px_blk (i' := 3) (L' := [some (.ref 22), some (.int a0), none, none, none]) (S' := [.int (0 : Int32), .ref 27]) (w' := px_w K s t) (q := []) 3 hM rfl trivial ?_
  rcases px_bv_some h with ⟨s1, t2, hk3, h⟩ | ⟨x5, s1, t2, hk3, h⟩
  · refine px_E_call hM rfl rfl rfl rfl (px_E_mono (by decide) (e_Arrays_fill_27 K N (0 : Int32) s t _ hk3)) ?_
    obtain ⟨hq6, h⟩ := px_gd_some h
    refine px_blk (i' := 9) (L' := [some (.ref 22), some (.int a0), none, none, none]) (S' := []) (w' := px_w K (sA s1 27 (0 : Int32).toNatClampNeg (1 : Int32)) t2) (q := [vp_in (0 : Int32) (K.2.2 27)]) 5 hM rfl (show vp_in (0 : Int32) (K.2.2 27) from hq6) ?_
    obtain ⟨s7, hs8, h⟩ := px_let_some h
    rw [← hs8]
    obtain ⟨hq9, h⟩ := px_gd_some h
    refine px_blk (i' := 15) (L' := [some (.ref 22), some (.int a0), none, none, none]) (S' := []) (w' := px_w K (sA s7 27 (1 : Int32).toNatClampNeg (s7.1 23)) t2) (q := [vp_in (1 : Int32) (K.2.2 27)]) 6 hM rfl (show vp_in (1 : Int32) (K.2.2 27) from hq9) ?_
    obtain ⟨s10, hs11, h⟩ := px_let_some h
    rw [← hs11]
    obtain ⟨hq12, h⟩ := px_gd_some h
    refine px_blk (i' := 20) (L' := [some (.ref 22), some (.int a0), none, none, none]) (S' := []) (w' := px_w K (sA s10 27 (2 : Int32).toNatClampNeg a0) t2) (q := [vp_in (2 : Int32) (K.2.2 27)]) 5 hM rfl (show vp_in (2 : Int32) (K.2.2 27) from hq12) ?_
    obtain ⟨s13, hs14, h⟩ := px_let_some h
    rw [← hs14]
    refine px_blk (i' := 24) (L' := [some (.ref 22), some (.int a0), some (.int (0 : Int32)), some (.int (0 : Int32)), none]) (S' := []) (w' := px_w K s13 t2) (q := []) 4 hM rfl trivial ?_
    rcases px_lp_some h with ⟨i15, vs16, s17, t18, hl19, h⟩ | ⟨z20, hl19, h⟩
    · by_cases hi21 : i15 = 68
      · subst hi21
        rw [if_pos rfl] at h
        have h9 := px_v0_some h
        clear h
        obtain ⟨rfl, h⟩ := h9
        refine px_E_le (px_leC_L _ _ (by simp [px_leC, px_le1, Value.category])) (e_l_T_setCommitRow_22_24 K N N (0 : Int32) (0 : Int32) s13 t2 _ hl19 _ _ ?_)
        show px_E px_ET px_P 2 170 68 [none, none, none, none, none] [] (px_w K s17 t18) _ _
        cases h
        exact px_E_ret hM rfl rfl rfl trivial
      · rw [if_neg hi21] at h
        cases h
    · cases h
      exact px_E_le (px_leC_L _ _ (by simp [px_leC, px_le1, Value.category])) (e_l_T_setCommitRow_22_24 K N N (0 : Int32) (0 : Int32) s13 t2 _ hl19 _ _ ⟨rfl, rfl⟩)
  · cases h
noncomputable def l_S_newest_14_12 (K : px_K) (N : Nat) (n : Nat) (u1 : Int32) (u2 : Int32) (m3 : Int32) (m4 : Int32) (s : px_S) (t : px_W) : Option px_LO := match n with
  | 0 => none
  | n + 1 => (if (u2 + (s.1 19)) ≤ m4 then (some (.inl (44, [m3], s, t))) else (px_gd (vp_in m4 (K.2.2 15)) (if ((s.2.2.1 15) m4.toNatClampNeg) = 0 then (l_S_newest_14_12 K N n u1 u2 m3 (m4 + (1 : Int32)) s t) else (px_gd (vp_in m4 (K.2.2 16)) (if ¬ ((s.2.2.1 16) m4.toNatClampNeg) = u1 then (l_S_newest_14_12 K N n u1 u2 m3 (m4 + (1 : Int32)) s t) else (if m3 < 0 then (l_S_newest_14_12 K N n u1 u2 m4 (m4 + (1 : Int32)) s t) else (px_gd ((vp_in m4 (K.2.2 17)) ∧ (vp_in m3 (K.2.2 17))) (if ((s.2.2.1 17) m4.toNatClampNeg) ≤ ((s.2.2.1 17) m3.toNatClampNeg) then (l_S_newest_14_12 K N n u1 u2 m3 (m4 + (1 : Int32)) s t) else (l_S_newest_14_12 K N n u1 u2 m4 (m4 + (1 : Int32)) s t)))))))))
def a_l_S_newest_14_12 (K : px_K) (u1 : Int32) (u2 : Int32) (z : px_LO) (o : Option Value ⊕ Nat) (w2 : px_W) : Prop := match z with
  | .inr (o', s', t') => o = o' ∧ w2 = px_w K s' t'
  | .inl (44, [y3], s', t') => px_E px_ET px_P 1 124 44 [none, none, none, some (.int y3), none] [] (px_w K s' t') o w2
  | _ => False
set_option maxRecDepth 100000 in
theorem e_l_S_newest_14_12 (K : px_K) (N : Nat) (u1 : Int32) (u2 : Int32) : ∀ (n : Nat) (m3 : Int32) (m4 : Int32) (s : px_S) (t : px_W) (z : px_LO), l_S_newest_14_12 K N n u1 u2 m3 m4 s t = some z → ∀ (o : Option Value ⊕ Nat) (w2 : px_W), a_l_S_newest_14_12 K u1 u2 z o w2 → px_E px_ET px_P 1 124 12 [some (.ref 14), some (.int u1), some (.int u2), some (.int m3), some (.int m4)] [] (px_w K s t) o w2 := by
  have hM : px_P[124]? = some pm_S_newest := rfl
  intro n
  induction n with
  | zero => intro m3 m4 s t z h; cases h
  | succ n ih =>
    intro m3 m4 s t z h o w2 ha
    unfold l_S_newest_14_12 at h
    refine px_blkif (c := (u2 + (s.1 19)) ≤ m4) (t := 44) (e := 18) (L' := [some (.ref 14), some (.int u1), some (.int u2), some (.int m3), some (.int m4)]) (S' := []) (w' := px_w K s t) (q := []) 6 hM rfl trivial (fun hc1 => ?_) (fun hc1 => ?_)
    · rw [if_pos hc1] at h
      cases h
      exact px_E_le (px_leC_L _ _ (by simp [px_leC, px_le1, Value.category])) ha
    · rw [if_neg hc1] at h
      obtain ⟨hq2, h⟩ := px_gd_some h
      refine px_blkif (c := ((s.2.2.1 15) m4.toNatClampNeg) = 0) (t := 42) (e := 23) (L' := [some (.ref 14), some (.int u1), some (.int u2), some (.int m3), some (.int m4)]) (S' := []) (w' := px_w K s t) (q := [vp_in m4 (K.2.2 15)]) 5 hM rfl (show vp_in m4 (K.2.2 15) from hq2) (fun hc3 => ?_) (fun hc3 => ?_)
      · rw [if_pos hc3] at h
        refine px_blk (i' := 12) (L' := [some (.ref 14), some (.int u1), some (.int u2), some (.int m3), some (.int (m4 + (1 : Int32)))]) (S' := []) (w' := px_w K s t) (q := []) 2 hM rfl trivial ?_
        exact ih m3 (m4 + (1 : Int32)) s t z h o w2 ha
      · rw [if_neg hc3] at h
        obtain ⟨hq4, h⟩ := px_gd_some h
        refine px_blkif (c := ¬ ((s.2.2.1 16) m4.toNatClampNeg) = u1) (t := 42) (e := 29) (L' := [some (.ref 14), some (.int u1), some (.int u2), some (.int m3), some (.int m4)]) (S' := []) (w' := px_w K s t) (q := [vp_in m4 (K.2.2 16)]) 6 hM rfl (show vp_in m4 (K.2.2 16) from hq4) (fun hc5 => ?_) (fun hc5 => ?_)
        · rw [if_pos hc5] at h
          refine px_blk (i' := 12) (L' := [some (.ref 14), some (.int u1), some (.int u2), some (.int m3), some (.int (m4 + (1 : Int32)))]) (S' := []) (w' := px_w K s t) (q := []) 2 hM rfl trivial ?_
          exact ih m3 (m4 + (1 : Int32)) s t z h o w2 ha
        · rw [if_neg hc5] at h
          refine px_blkif (c := m3 < 0) (t := 40) (e := 31) (L' := [some (.ref 14), some (.int u1), some (.int u2), some (.int m3), some (.int m4)]) (S' := []) (w' := px_w K s t) (q := []) 2 hM rfl trivial (fun hc6 => ?_) (fun hc6 => ?_)
          · rw [if_pos hc6] at h
            refine px_blk (i' := 12) (L' := [some (.ref 14), some (.int u1), some (.int u2), some (.int m4), some (.int (m4 + (1 : Int32)))]) (S' := []) (w' := px_w K s t) (q := []) 4 hM rfl trivial ?_
            exact ih m4 (m4 + (1 : Int32)) s t z h o w2 ha
          · rw [if_neg hc6] at h
            obtain ⟨⟨hq7, hq8⟩, h⟩ := px_gd_some h
            refine px_blkif (c := ((s.2.2.1 17) m4.toNatClampNeg) ≤ ((s.2.2.1 17) m3.toNatClampNeg)) (t := 42) (e := 40) (L' := [some (.ref 14), some (.int u1), some (.int u2), some (.int m3), some (.int m4)]) (S' := []) (w' := px_w K s t) (q := [vp_in m4 (K.2.2 17), vp_in m3 (K.2.2 17)]) 9 hM rfl (show (vp_in m4 (K.2.2 17)) ∧ (vp_in m3 (K.2.2 17)) from ⟨hq7, hq8⟩) (fun hc9 => ?_) (fun hc9 => ?_)
            · rw [if_pos hc9] at h
              refine px_blk (i' := 12) (L' := [some (.ref 14), some (.int u1), some (.int u2), some (.int m3), some (.int (m4 + (1 : Int32)))]) (S' := []) (w' := px_w K s t) (q := []) 2 hM rfl trivial ?_
              exact ih m3 (m4 + (1 : Int32)) s t z h o w2 ha
            · rw [if_neg hc9] at h
              refine px_blk (i' := 12) (L' := [some (.ref 14), some (.int u1), some (.int u2), some (.int m4), some (.int (m4 + (1 : Int32)))]) (S' := []) (w' := px_w K s t) (q := []) 4 hM rfl trivial ?_
              exact ih m4 (m4 + (1 : Int32)) s t z h o w2 ha
noncomputable def f_S_newest_14 (K : px_K) (N : Nat) (a0 : Int32) (s : px_S) (t : px_W) : Option px_Res :=
  (px_gd (¬ (s.1 18) = 0) (px_let ((a0 - a0 / (s.1 18) * (s.1 18)) * (s.1 19)) (fun v2 => (px_lp (l_S_newest_14_12 K N N a0 v2 (-1 : Int32) v2 s t) (fun i4 vs5 s6 t7 => (if i4 = 44 then (px_v1 vs5 (fun y10 => (some (.inl (some (.int y10)), s6, t7)))) else none)) (fun z9 => some z9)))))
set_option maxRecDepth 100000 in
theorem e_S_newest_14 (K : px_K) (N : Nat) (a0 : Int32) (s : px_S) (t : px_W) (r : px_Res) (h : f_S_newest_14 K N a0 s t = some r) : px_E px_ET px_P 1 124 0 (px_ent 5 [.ref 14, .int a0]) [] (px_w K s t) r.1 (px_w K r.2.1 r.2.2) := by
  have hM : px_P[124]? = some pm_S_newest := rfl
  unfold f_S_newest_14 at h
  obtain ⟨hq1, h⟩ := px_gd_some h
  refine px_blk (i' := 8) (L' := [some (.ref 14), some (.int a0), some (.int ((a0 - a0 / (s.1 18) * (s.1 18)) * (s.1 19))), none, none]) (S' := []) (w' := px_w K s t) (q := [¬ (s.1 18) = 0]) 8 hM rfl (show ¬ (s.1 18) = 0 from hq1) ?_
  obtain ⟨v2, hv3, h⟩ := px_let_some h
  rw [← hv3]
  refine px_blk (i' := 12) (L' := [some (.ref 14), some (.int a0), some (.int v2), some (.int (-1 : Int32)), some (.int v2)]) (S' := []) (w' := px_w K s t) (q := []) 4 hM rfl trivial ?_
  rcases px_lp_some h with ⟨i4, vs5, s6, t7, hl8, h⟩ | ⟨z9, hl8, h⟩
  · by_cases hi11 : i4 = 44
    · subst hi11
      rw [if_pos rfl] at h
      have h9 := px_v1_some h
      clear h
      obtain ⟨y10, rfl, h⟩ := h9
      refine e_l_S_newest_14_12 K N a0 v2 N (-1 : Int32) v2 s t _ hl8 _ _ ?_
      show px_E px_ET px_P 1 124 44 [none, none, none, some (.int y10), none] [] (px_w K s6 t7) _ _
      refine px_blk (i' := 45) (L' := [none, none, none, some (.int y10), none]) (S' := [.int y10]) (w' := px_w K s6 t7) (q := []) 1 hM rfl trivial ?_
      cases h
      exact px_E_ret hM rfl rfl rfl trivial
    · rw [if_neg hi11] at h
      cases h
  · cases h
    exact e_l_S_newest_14_12 K N a0 v2 N (-1 : Int32) v2 s t _ hl8 _ _ ⟨rfl, rfl⟩
noncomputable def f_S_free_14 (K : px_K) (N : Nat) (a0 : Int32) (s : px_S) (t : px_W) : Option px_Res :=
  (px_gd (vp_in a0 (K.2.2 15)) (px_let (sA s 15 a0.toNatClampNeg (0 : Int32)) (fun s2 => (px_gd (vp_in a0 (K.2.2 16)) (px_let (sA s2 16 a0.toNatClampNeg (0 : Int32)) (fun s5 => (px_gd (vp_in a0 (K.2.2 17)) (px_let (sA s5 17 a0.toNatClampNeg (0 : Int32)) (fun s8 => (px_gd (vp_in a0 (K.2.2 18)) (px_let (sA s8 18 a0.toNatClampNeg (0 : Int32)) (fun s11 => (some (.inl none, s11, t))))))))))))))
set_option maxRecDepth 100000 in
theorem e_S_free_14 (K : px_K) (N : Nat) (a0 : Int32) (s : px_S) (t : px_W) (r : px_Res) (h : f_S_free_14 K N a0 s t = some r) : px_E px_ET px_P 1 121 0 (px_ent 2 [.ref 14, .int a0]) [] (px_w K s t) r.1 (px_w K r.2.1 r.2.2) := by
  have hM : px_P[121]? = some pm_S_free := rfl
  unfold f_S_free_14 at h
  obtain ⟨hq1, h⟩ := px_gd_some h
  refine px_blk (i' := 5) (L' := [some (.ref 14), some (.int a0)]) (S' := []) (w' := px_w K (sA s 15 a0.toNatClampNeg (0 : Int32)) t) (q := [vp_in a0 (K.2.2 15)]) 5 hM rfl (show vp_in a0 (K.2.2 15) from hq1) ?_
  obtain ⟨s2, hs3, h⟩ := px_let_some h
  rw [← hs3]
  obtain ⟨hq4, h⟩ := px_gd_some h
  refine px_blk (i' := 10) (L' := [some (.ref 14), some (.int a0)]) (S' := []) (w' := px_w K (sA s2 16 a0.toNatClampNeg (0 : Int32)) t) (q := [vp_in a0 (K.2.2 16)]) 5 hM rfl (show vp_in a0 (K.2.2 16) from hq4) ?_
  obtain ⟨s5, hs6, h⟩ := px_let_some h
  rw [← hs6]
  obtain ⟨hq7, h⟩ := px_gd_some h
  refine px_blk (i' := 15) (L' := [some (.ref 14), some (.int a0)]) (S' := []) (w' := px_w K (sA s5 17 a0.toNatClampNeg (0 : Int32)) t) (q := [vp_in a0 (K.2.2 17)]) 5 hM rfl (show vp_in a0 (K.2.2 17) from hq7) ?_
  obtain ⟨s8, hs9, h⟩ := px_let_some h
  rw [← hs9]
  obtain ⟨hq10, h⟩ := px_gd_some h
  refine px_blk (i' := 20) (L' := [some (.ref 14), some (.int a0)]) (S' := []) (w' := px_w K (sA s8 18 a0.toNatClampNeg (0 : Int32)) t) (q := [vp_in a0 (K.2.2 18)]) 5 hM rfl (show vp_in a0 (K.2.2 18) from hq10) ?_
  obtain ⟨s11, hs12, h⟩ := px_let_some h
  rw [← hs12]
  cases h
  exact px_E_ret hM rfl rfl rfl trivial
noncomputable def l_S_findIn_14_2 (K : px_K) (N : Nat) (n : Nat) (u1 : Int32) (m2 : Int32) (s : px_S) (t : px_W) : Option px_LO := match n with
  | 0 => none
  | n + 1 => (if ((2 : Int32) * (s.1 19)) ≤ m2 then (some (.inl (69, [], s, t))) else (px_gd ((vp_in u1 (K.2.2 19)) ∧ (¬ (s.1 19) = 0)) (px_let ((((s.2.2.1 19) u1.toNatClampNeg) + m2) - (((s.2.2.1 19) u1.toNatClampNeg) + m2) / (s.1 19) * (s.1 19)) (fun v4 => (px_let ((u1 * (s.1 19)) + v4) (fun v6 => (px_gd (vp_in v6 (K.2.2 15)) (if ((s.2.2.1 15) v6.toNatClampNeg) = 0 then (some (.inl (41, [v4, v6], s, t))) else (px_gd (vp_in v6 (K.2.2 15)) (if ¬ ((s.2.2.1 15) v6.toNatClampNeg) = (1 : Int32) then (px_gd (vp_in v6 (K.2.2 15)) (if ¬ ((s.2.2.1 15) v6.toNatClampNeg) = (1 : Int32) then (l_S_findIn_14_2 K N n u1 (m2 + (1 : Int32)) s t) else (px_gd (vp_in v6 (K.2.2 18)) (px_let (sA s 18 v6.toNatClampNeg (0 : Int32)) (fun s15 => (l_S_findIn_14_2 K N n u1 (m2 + (1 : Int32)) s15 t)))))) else (px_gd (vp_in v6 (K.2.2 18)) (if ¬ ((s.2.2.1 18) v6.toNatClampNeg) = 0 then (px_gd (vp_in v6 (K.2.2 15)) (if ¬ ((s.2.2.1 15) v6.toNatClampNeg) = (1 : Int32) then (l_S_findIn_14_2 K N n u1 (m2 + (1 : Int32)) s t) else (px_gd (vp_in v6 (K.2.2 18)) (px_let (sA s 18 v6.toNatClampNeg (0 : Int32)) (fun s22 => (l_S_findIn_14_2 K N n u1 (m2 + (1 : Int32)) s22 t)))))) else (some (.inl (41, [v4, v6], s, t)))))))))))))))
def a_l_S_findIn_14_2 (K : px_K) (u1 : Int32) (z : px_LO) (o : Option Value ⊕ Nat) (w2 : px_W) : Prop := match z with
  | .inr (o', s', t') => o = o' ∧ w2 = px_w K s' t'
  | .inl (41, [y3, y4], s', t') => px_E px_ET px_P 2 125 41 [some (.ref 14), some (.int u1), none, some (.int y3), some (.int y4)] [] (px_w K s' t') o w2
  | .inl (69, [], s', t') => px_E px_ET px_P 2 125 69 [none, none, none, none, none] [] (px_w K s' t') o w2
  | _ => False
set_option maxRecDepth 100000 in
theorem e_l_S_findIn_14_2 (K : px_K) (N : Nat) (u1 : Int32) : ∀ (n : Nat) (m2 : Int32) (s : px_S) (t : px_W) (z : px_LO), l_S_findIn_14_2 K N n u1 m2 s t = some z → ∀ (o : Option Value ⊕ Nat) (w2 : px_W), a_l_S_findIn_14_2 K u1 z o w2 → px_E px_ET px_P 2 125 2 [some (.ref 14), some (.int u1), some (.int m2), none, none] [] (px_w K s t) o w2 := by
  have hM : px_P[125]? = some pm_S_findIn := rfl
  intro n
  induction n with
  | zero => intro m2 s t z h; cases h
  | succ n ih =>
    intro m2 s t z h o w2 ha
    unfold l_S_findIn_14_2 at h
    refine px_blkif (c := ((2 : Int32) * (s.1 19)) ≤ m2) (t := 69) (e := 8) (L' := [some (.ref 14), some (.int u1), some (.int m2), none, none]) (S' := []) (w' := px_w K s t) (q := []) 6 hM rfl trivial (fun hc1 => ?_) (fun hc1 => ?_)
    · rw [if_pos hc1] at h
      cases h
      exact px_E_le (px_leC_L _ _ (by simp [px_leC, px_le1, Value.category])) ha
    · rw [if_neg hc1] at h
      obtain ⟨⟨hq2, hq3⟩, h⟩ := px_gd_some h
      refine px_blk (i' := 18) (L' := [some (.ref 14), some (.int u1), some (.int m2), some (.int ((((s.2.2.1 19) u1.toNatClampNeg) + m2) - (((s.2.2.1 19) u1.toNatClampNeg) + m2) / (s.1 19) * (s.1 19))), none]) (S' := []) (w' := px_w K s t) (q := [vp_in u1 (K.2.2 19), ¬ (s.1 19) = 0]) 10 hM rfl (show (vp_in u1 (K.2.2 19)) ∧ (¬ (s.1 19) = 0) from ⟨hq2, hq3⟩) ?_
      obtain ⟨v4, hv5, h⟩ := px_let_some h
      rw [← hv5]
      refine px_blk (i' := 25) (L' := [some (.ref 14), some (.int u1), some (.int m2), some (.int v4), some (.int ((u1 * (s.1 19)) + v4))]) (S' := []) (w' := px_w K s t) (q := []) 7 hM rfl trivial ?_
      obtain ⟨v6, hv7, h⟩ := px_let_some h
      rw [← hv7]
      obtain ⟨hq8, h⟩ := px_gd_some h
      refine px_blkif (c := ((s.2.2.1 15) v6.toNatClampNeg) = 0) (t := 41) (e := 30) (L' := [some (.ref 14), some (.int u1), some (.int m2), some (.int v4), some (.int v6)]) (S' := []) (w' := px_w K s t) (q := [vp_in v6 (K.2.2 15)]) 5 hM rfl (show vp_in v6 (K.2.2 15) from hq8) (fun hc9 => ?_) (fun hc9 => ?_)
      · rw [if_pos hc9] at h
        cases h
        exact px_E_le (px_leC_L _ _ (by simp [px_leC, px_le1, Value.category])) ha
      · rw [if_neg hc9] at h
        obtain ⟨hq10, h⟩ := px_gd_some h
        refine px_blkif (c := ¬ ((s.2.2.1 15) v6.toNatClampNeg) = (1 : Int32)) (t := 56) (e := 36) (L' := [some (.ref 14), some (.int u1), some (.int m2), some (.int v4), some (.int v6)]) (S' := []) (w' := px_w K s t) (q := [vp_in v6 (K.2.2 15)]) 6 hM rfl (show vp_in v6 (K.2.2 15) from hq10) (fun hc11 => ?_) (fun hc11 => ?_)
        · rw [if_pos hc11] at h
          obtain ⟨hq12, h⟩ := px_gd_some h
          refine px_blkif (c := ¬ ((s.2.2.1 15) v6.toNatClampNeg) = (1 : Int32)) (t := 67) (e := 62) (L' := [some (.ref 14), some (.int u1), some (.int m2), some (.int v4), some (.int v6)]) (S' := []) (w' := px_w K s t) (q := [vp_in v6 (K.2.2 15)]) 6 hM rfl (show vp_in v6 (K.2.2 15) from hq12) (fun hc13 => ?_) (fun hc13 => ?_)
          · rw [if_pos hc13] at h
            refine px_blk (i' := 2) (L' := [some (.ref 14), some (.int u1), some (.int (m2 + (1 : Int32))), some (.int v4), some (.int v6)]) (S' := []) (w' := px_w K s t) (q := []) 2 hM rfl trivial ?_
            exact px_E_le (px_leC_L _ _ (by simp [px_leC, px_le1, Value.category])) (ih (m2 + (1 : Int32)) s t z h o w2 ha)
          · rw [if_neg hc13] at h
            obtain ⟨hq14, h⟩ := px_gd_some h
            refine px_blk (i' := 67) (L' := [some (.ref 14), some (.int u1), some (.int m2), some (.int v4), some (.int v6)]) (S' := []) (w' := px_w K (sA s 18 v6.toNatClampNeg (0 : Int32)) t) (q := [vp_in v6 (K.2.2 18)]) 5 hM rfl (show vp_in v6 (K.2.2 18) from hq14) ?_
            obtain ⟨s15, hs16, h⟩ := px_let_some h
            rw [← hs16]
            refine px_blk (i' := 2) (L' := [some (.ref 14), some (.int u1), some (.int (m2 + (1 : Int32))), some (.int v4), some (.int v6)]) (S' := []) (w' := px_w K s15 t) (q := []) 2 hM rfl trivial ?_
            exact px_E_le (px_leC_L _ _ (by simp [px_leC, px_le1, Value.category])) (ih (m2 + (1 : Int32)) s15 t z h o w2 ha)
        · rw [if_neg hc11] at h
          obtain ⟨hq17, h⟩ := px_gd_some h
          refine px_blkif (c := ¬ ((s.2.2.1 18) v6.toNatClampNeg) = 0) (t := 56) (e := 41) (L' := [some (.ref 14), some (.int u1), some (.int m2), some (.int v4), some (.int v6)]) (S' := []) (w' := px_w K s t) (q := [vp_in v6 (K.2.2 18)]) 5 hM rfl (show vp_in v6 (K.2.2 18) from hq17) (fun hc18 => ?_) (fun hc18 => ?_)
          · rw [if_pos hc18] at h
            obtain ⟨hq19, h⟩ := px_gd_some h
            refine px_blkif (c := ¬ ((s.2.2.1 15) v6.toNatClampNeg) = (1 : Int32)) (t := 67) (e := 62) (L' := [some (.ref 14), some (.int u1), some (.int m2), some (.int v4), some (.int v6)]) (S' := []) (w' := px_w K s t) (q := [vp_in v6 (K.2.2 15)]) 6 hM rfl (show vp_in v6 (K.2.2 15) from hq19) (fun hc20 => ?_) (fun hc20 => ?_)
            · rw [if_pos hc20] at h
              refine px_blk (i' := 2) (L' := [some (.ref 14), some (.int u1), some (.int (m2 + (1 : Int32))), some (.int v4), some (.int v6)]) (S' := []) (w' := px_w K s t) (q := []) 2 hM rfl trivial ?_
              exact px_E_le (px_leC_L _ _ (by simp [px_leC, px_le1, Value.category])) (ih (m2 + (1 : Int32)) s t z h o w2 ha)
            · rw [if_neg hc20] at h
              obtain ⟨hq21, h⟩ := px_gd_some h
              refine px_blk (i' := 67) (L' := [some (.ref 14), some (.int u1), some (.int m2), some (.int v4), some (.int v6)]) (S' := []) (w' := px_w K (sA s 18 v6.toNatClampNeg (0 : Int32)) t) (q := [vp_in v6 (K.2.2 18)]) 5 hM rfl (show vp_in v6 (K.2.2 18) from hq21) ?_
              obtain ⟨s22, hs23, h⟩ := px_let_some h
              rw [← hs23]
              refine px_blk (i' := 2) (L' := [some (.ref 14), some (.int u1), some (.int (m2 + (1 : Int32))), some (.int v4), some (.int v6)]) (S' := []) (w' := px_w K s22 t) (q := []) 2 hM rfl trivial ?_
              exact px_E_le (px_leC_L _ _ (by simp [px_leC, px_le1, Value.category])) (ih (m2 + (1 : Int32)) s22 t z h o w2 ha)
          · rw [if_neg hc18] at h
            cases h
            exact px_E_le (px_leC_L _ _ (by simp [px_leC, px_le1, Value.category])) ha
noncomputable def f_S_findIn_14 (K : px_K) (N : Nat) (a0 : Int32) (s : px_S) (t : px_W) : Option px_Res :=
  (px_lp (l_S_findIn_14_2 K N N a0 (0 : Int32) s t) (fun i1 vs2 s3 t4 => (if i1 = 41 then (px_v2 vs2 (fun y7 y8 => (px_bv (f_S_free_14 K N y8 s3 t4) (fun s10 t11 => (px_gd ((¬ (s10.1 19) = 0) ∧ (vp_in a0 (K.2.2 19))) (px_let (sA s10 19 a0.toNatClampNeg ((y7 + (1 : Int32)) - (y7 + (1 : Int32)) / (s10.1 19) * (s10.1 19))) (fun s17 => (some (.inl (some (.int y8)), s17, t11)))))) (fun x14 s10 t11 => none)))) else (if i1 = 69 then (px_v0 vs2 (some (.inl (some (.int (-1 : Int32))), s3, t4))) else none))) (fun z6 => some z6))
set_option maxRecDepth 100000 in
theorem e_S_findIn_14 (K : px_K) (N : Nat) (a0 : Int32) (s : px_S) (t : px_W) (r : px_Res) (h : f_S_findIn_14 K N a0 s t = some r) : px_E px_ET px_P 2 125 0 (px_ent 5 [.ref 14, .int a0]) [] (px_w K s t) r.1 (px_w K r.2.1 r.2.2) := by
  have hM : px_P[125]? = some pm_S_findIn := rfl
  unfold f_S_findIn_14 at h
  refine px_blk (i' := 2) (L' := [some (.ref 14), some (.int a0), some (.int (0 : Int32)), none, none]) (S' := []) (w' := px_w K s t) (q := []) 2 hM rfl trivial ?_
  rcases px_lp_some h with ⟨i1, vs2, s3, t4, hl5, h⟩ | ⟨z6, hl5, h⟩
  · by_cases hi9 : i1 = 41
    · subst hi9
      rw [if_pos rfl] at h
      have h9 := px_v2_some h
      clear h
      obtain ⟨y7, y8, rfl, h⟩ := h9
      refine e_l_S_findIn_14_2 K N a0 N (0 : Int32) s t _ hl5 _ _ ?_
      show px_E px_ET px_P 2 125 41 [some (.ref 14), some (.int a0), none, some (.int y7), some (.int y8)] [] (px_w K s3 t4) _ _
      refine px_blk (i' := 43) (L' := [some (.ref 14), some (.int a0), none, some (.int y7), some (.int y8)]) (S' := [.int y8, .ref 14]) (w' := px_w K s3 t4) (q := []) 2 hM rfl trivial ?_
      rcases px_bv_some h with ⟨s10, t11, hk12, h⟩ | ⟨x14, s10, t11, hk12, h⟩
      · refine px_E_call hM rfl rfl rfl rfl (px_E_mono (by decide) (e_S_free_14 K N y8 s3 t4 _ hk12)) ?_
        obtain ⟨⟨hq15, hq16⟩, h⟩ := px_gd_some h
        refine px_blk (i' := 54) (L' := [some (.ref 14), some (.int a0), none, some (.int y7), some (.int y8)]) (S' := []) (w' := px_w K (sA s10 19 a0.toNatClampNeg ((y7 + (1 : Int32)) - (y7 + (1 : Int32)) / (s10.1 19) * (s10.1 19))) t11) (q := [¬ (s10.1 19) = 0, vp_in a0 (K.2.2 19)]) 10 hM rfl (show (¬ (s10.1 19) = 0) ∧ (vp_in a0 (K.2.2 19)) from ⟨hq15, hq16⟩) ?_
        obtain ⟨s17, hs18, h⟩ := px_let_some h
        rw [← hs18]
        refine px_blk (i' := 55) (L' := [some (.ref 14), some (.int a0), none, some (.int y7), some (.int y8)]) (S' := [.int y8]) (w' := px_w K s17 t11) (q := []) 1 hM rfl trivial ?_
        cases h
        exact px_E_ret hM rfl rfl rfl trivial
      · cases h
    · rw [if_neg hi9] at h
      by_cases hi19 : i1 = 69
      · subst hi19
        rw [if_pos rfl] at h
        have h9 := px_v0_some h
        clear h
        obtain ⟨rfl, h⟩ := h9
        refine e_l_S_findIn_14_2 K N a0 N (0 : Int32) s t _ hl5 _ _ ?_
        show px_E px_ET px_P 2 125 69 [none, none, none, none, none] [] (px_w K s3 t4) _ _
        refine px_blk (i' := 70) (L' := [none, none, none, none, none]) (S' := [.int (-1 : Int32)]) (w' := px_w K s3 t4) (q := []) 1 hM rfl trivial ?_
        cases h
        exact px_E_ret hM rfl rfl rfl trivial
      · rw [if_neg hi19] at h
        cases h
  · cases h
    exact e_l_S_findIn_14_2 K N a0 N (0 : Int32) s t _ hl5 _ _ ⟨rfl, rfl⟩
noncomputable def f_S_toWrite_14 (K : px_K) (N : Nat) (a0 : Int32) (s : px_S) (t : px_W) : Option px_Res :=
  (px_bi (f_S_newest_14 K N a0 s t) (fun v4 s1 t2 => (if v4 < 0 then (px_gd (¬ (s1.1 18) = 0) (px_bi (f_S_findIn_14 K N (a0 - a0 / (s1.1 18) * (s1.1 18)) s1 t2) (fun v11 s8 t9 => (some (.inl (some (.int v11)), s8, t9))) (fun x12 s8 t9 => none))) else (px_gd (vp_in v4 (K.2.2 15)) (if ¬ ((s1.2.2.1 15) v4.toNatClampNeg) = (1 : Int32) then (px_gd (¬ (s1.1 18) = 0) (px_bi (f_S_findIn_14 K N (a0 - a0 / (s1.1 18) * (s1.1 18)) s1 t2) (fun v19 s16 t17 => (some (.inl (some (.int v19)), s16, t17))) (fun x20 s16 t17 => none))) else (some (.inl (some (.int v4)), s1, t2)))))) (fun x5 s1 t2 => none))
set_option maxRecDepth 100000 in
theorem e_S_toWrite_14 (K : px_K) (N : Nat) (a0 : Int32) (s : px_S) (t : px_W) (r : px_Res) (h : f_S_toWrite_14 K N a0 s t = some r) : px_E px_ET px_P 3 126 0 (px_ent 3 [.ref 14, .int a0]) [] (px_w K s t) r.1 (px_w K r.2.1 r.2.2) := by
  have hM : px_P[126]? = some pm_S_toWrite := rfl
  unfold f_S_toWrite_14 at h
  refine px_blk (i' := 2) (L' := [some (.ref 14), some (.int a0), none]) (S' := [.int a0, .ref 14]) (w' := px_w K s t) (q := []) 2 hM rfl trivial ?_
  rcases px_bi_some h with ⟨v4, s1, t2, hk3, h⟩ | ⟨x5, s1, t2, hk3, h⟩
  · refine px_E_call hM rfl rfl rfl rfl (px_E_mono (by decide) (e_S_newest_14 K N a0 s t _ hk3)) ?_
    refine px_blkif (c := v4 < 0) (t := 14) (e := 6) (L' := [some (.ref 14), some (.int a0), some (.int v4)]) (S' := []) (w' := px_w K s1 t2) (q := []) 3 hM rfl trivial (fun hc6 => ?_) (fun hc6 => ?_)
    · rw [if_pos hc6] at h
      obtain ⟨hq7, h⟩ := px_gd_some h
      refine px_blk (i' := 19) (L' := [some (.ref 14), some (.int a0), some (.int v4)]) (S' := [.int (a0 - a0 / (s1.1 18) * (s1.1 18)), .ref 14]) (w' := px_w K s1 t2) (q := [¬ (s1.1 18) = 0]) 5 hM rfl (show ¬ (s1.1 18) = 0 from hq7) ?_
      rcases px_bi_some h with ⟨v11, s8, t9, hk10, h⟩ | ⟨x12, s8, t9, hk10, h⟩
      · refine px_E_call hM rfl rfl rfl rfl (px_E_mono (by decide) (e_S_findIn_14 K N (a0 - a0 / (s1.1 18) * (s1.1 18)) s1 t2 _ hk10)) ?_
        cases h
        exact px_E_ret hM rfl rfl rfl trivial
      · cases h
    · rw [if_neg hc6] at h
      obtain ⟨hq13, h⟩ := px_gd_some h
      refine px_blkif (c := ¬ ((s1.2.2.1 15) v4.toNatClampNeg) = (1 : Int32)) (t := 14) (e := 12) (L' := [some (.ref 14), some (.int a0), some (.int v4)]) (S' := []) (w' := px_w K s1 t2) (q := [vp_in v4 (K.2.2 15)]) 6 hM rfl (show vp_in v4 (K.2.2 15) from hq13) (fun hc14 => ?_) (fun hc14 => ?_)
      · rw [if_pos hc14] at h
        obtain ⟨hq15, h⟩ := px_gd_some h
        refine px_blk (i' := 19) (L' := [some (.ref 14), some (.int a0), some (.int v4)]) (S' := [.int (a0 - a0 / (s1.1 18) * (s1.1 18)), .ref 14]) (w' := px_w K s1 t2) (q := [¬ (s1.1 18) = 0]) 5 hM rfl (show ¬ (s1.1 18) = 0 from hq15) ?_
        rcases px_bi_some h with ⟨v19, s16, t17, hk18, h⟩ | ⟨x20, s16, t17, hk18, h⟩
        · refine px_E_call hM rfl rfl rfl rfl (px_E_mono (by decide) (e_S_findIn_14 K N (a0 - a0 / (s1.1 18) * (s1.1 18)) s1 t2 _ hk18)) ?_
          cases h
          exact px_E_ret hM rfl rfl rfl trivial
        · cases h
      · rw [if_neg hc14] at h
        refine px_blk (i' := 20) (L' := [some (.ref 14), some (.int a0), some (.int v4)]) (S' := [.int v4]) (w' := px_w K s1 t2) (q := []) 2 hM rfl trivial ?_
        cases h
        exact px_E_ret hM rfl rfl rfl trivial
  · cases h
noncomputable def l_S_hasClosed_14_5 (K : px_K) (N : Nat) (n : Nat) (u1 : Int32) (u2 : Int32) (m3 : Int32) (s : px_S) (t : px_W) : Option px_LO := match n with
  | 0 => none
  | n + 1 => (if ((u1 + (1 : Int32)) * (s.1 19)) ≤ m3 then (some (.inl (29, [], s, t))) else (px_gd (vp_in m3 (K.2.2 15)) (if ¬ ((s.2.2.1 15) m3.toNatClampNeg) = (2 : Int32) then (l_S_hasClosed_14_5 K N n u1 u2 (m3 + (1 : Int32)) s t) else (px_gd (vp_in m3 (K.2.2 17)) (if ((s.2.2.1 17) m3.toNatClampNeg) = u2 then (l_S_hasClosed_14_5 K N n u1 u2 (m3 + (1 : Int32)) s t) else (some (.inl (25, [], s, t))))))))
def a_l_S_hasClosed_14_5 (K : px_K) (u1 : Int32) (u2 : Int32) (z : px_LO) (o : Option Value ⊕ Nat) (w2 : px_W) : Prop := match z with
  | .inr (o', s', t') => o = o' ∧ w2 = px_w K s' t'
  | .inl (25, [], s', t') => px_E px_ET px_P 1 127 25 [none, none, none, none] [] (px_w K s' t') o w2
  | .inl (29, [], s', t') => px_E px_ET px_P 1 127 29 [none, none, none, none] [] (px_w K s' t') o w2
  | _ => False
set_option maxRecDepth 100000 in
theorem e_l_S_hasClosed_14_5 (K : px_K) (N : Nat) (u1 : Int32) (u2 : Int32) : ∀ (n : Nat) (m3 : Int32) (s : px_S) (t : px_W) (z : px_LO), l_S_hasClosed_14_5 K N n u1 u2 m3 s t = some z → ∀ (o : Option Value ⊕ Nat) (w2 : px_W), a_l_S_hasClosed_14_5 K u1 u2 z o w2 → px_E px_ET px_P 1 127 5 [some (.ref 14), some (.int u1), some (.int u2), some (.int m3)] [] (px_w K s t) o w2 := by
  have hM : px_P[127]? = some pm_S_hasClosed := rfl
  intro n
  induction n with
  | zero => intro m3 s t z h; cases h
  | succ n ih =>
    intro m3 s t z h o w2 ha
    unfold l_S_hasClosed_14_5 at h
    refine px_blkif (c := ((u1 + (1 : Int32)) * (s.1 19)) ≤ m3) (t := 29) (e := 13) (L' := [some (.ref 14), some (.int u1), some (.int u2), some (.int m3)]) (S' := []) (w' := px_w K s t) (q := []) 8 hM rfl trivial (fun hc1 => ?_) (fun hc1 => ?_)
    · rw [if_pos hc1] at h
      cases h
      exact px_E_le (px_leC_L _ _ (by simp [px_leC, px_le1, Value.category])) ha
    · rw [if_neg hc1] at h
      obtain ⟨hq2, h⟩ := px_gd_some h
      refine px_blkif (c := ¬ ((s.2.2.1 15) m3.toNatClampNeg) = (2 : Int32)) (t := 27) (e := 19) (L' := [some (.ref 14), some (.int u1), some (.int u2), some (.int m3)]) (S' := []) (w' := px_w K s t) (q := [vp_in m3 (K.2.2 15)]) 6 hM rfl (show vp_in m3 (K.2.2 15) from hq2) (fun hc3 => ?_) (fun hc3 => ?_)
      · rw [if_pos hc3] at h
        refine px_blk (i' := 5) (L' := [some (.ref 14), some (.int u1), some (.int u2), some (.int (m3 + (1 : Int32)))]) (S' := []) (w' := px_w K s t) (q := []) 2 hM rfl trivial ?_
        exact ih (m3 + (1 : Int32)) s t z h o w2 ha
      · rw [if_neg hc3] at h
        obtain ⟨hq4, h⟩ := px_gd_some h
        refine px_blkif (c := ((s.2.2.1 17) m3.toNatClampNeg) = u2) (t := 27) (e := 25) (L' := [some (.ref 14), some (.int u1), some (.int u2), some (.int m3)]) (S' := []) (w' := px_w K s t) (q := [vp_in m3 (K.2.2 17)]) 6 hM rfl (show vp_in m3 (K.2.2 17) from hq4) (fun hc5 => ?_) (fun hc5 => ?_)
        · rw [if_pos hc5] at h
          refine px_blk (i' := 5) (L' := [some (.ref 14), some (.int u1), some (.int u2), some (.int (m3 + (1 : Int32)))]) (S' := []) (w' := px_w K s t) (q := []) 2 hM rfl trivial ?_
          exact ih (m3 + (1 : Int32)) s t z h o w2 ha
        · rw [if_neg hc5] at h
          cases h
          exact px_E_le (px_leC_L _ _ (by simp [px_leC, px_le1, Value.category])) ha
noncomputable def f_S_hasClosed_14 (K : px_K) (N : Nat) (a0 : Int32) (a1 : Int32) (s : px_S) (t : px_W) : Option px_Res :=
  (px_lp (l_S_hasClosed_14_5 K N N a0 a1 (a0 * (s.1 19)) s t) (fun i1 vs2 s3 t4 => (if i1 = 25 then (px_v0 vs2 (some (.inl (some (.int (1 : Int32))), s3, t4))) else (if i1 = 29 then (px_v0 vs2 (some (.inl (some (.int (0 : Int32))), s3, t4))) else none))) (fun z6 => some z6))
set_option maxRecDepth 100000 in
theorem e_S_hasClosed_14 (K : px_K) (N : Nat) (a0 : Int32) (a1 : Int32) (s : px_S) (t : px_W) (r : px_Res) (h : f_S_hasClosed_14 K N a0 a1 s t = some r) : px_E px_ET px_P 1 127 0 (px_ent 4 [.ref 14, .int a0, .int a1]) [] (px_w K s t) r.1 (px_w K r.2.1 r.2.2) := by
  have hM : px_P[127]? = some pm_S_hasClosed := rfl
  unfold f_S_hasClosed_14 at h
  refine px_blk (i' := 5) (L' := [some (.ref 14), some (.int a0), some (.int a1), some (.int (a0 * (s.1 19)))]) (S' := []) (w' := px_w K s t) (q := []) 5 hM rfl trivial ?_
  rcases px_lp_some h with ⟨i1, vs2, s3, t4, hl5, h⟩ | ⟨z6, hl5, h⟩
  · by_cases hi7 : i1 = 25
    · subst hi7
      rw [if_pos rfl] at h
      have h9 := px_v0_some h
      clear h
      obtain ⟨rfl, h⟩ := h9
      refine e_l_S_hasClosed_14_5 K N a0 a1 N (a0 * (s.1 19)) s t _ hl5 _ _ ?_
      show px_E px_ET px_P 1 127 25 [none, none, none, none] [] (px_w K s3 t4) _ _
      refine px_blk (i' := 26) (L' := [none, none, none, none]) (S' := [.int (1 : Int32)]) (w' := px_w K s3 t4) (q := []) 1 hM rfl trivial ?_
      cases h
      exact px_E_ret hM rfl rfl rfl (show (1 : Int32) = 0 ∨ (1 : Int32) = 1 from Or.inr rfl)
    · rw [if_neg hi7] at h
      by_cases hi8 : i1 = 29
      · subst hi8
        rw [if_pos rfl] at h
        have h9 := px_v0_some h
        clear h
        obtain ⟨rfl, h⟩ := h9
        refine e_l_S_hasClosed_14_5 K N a0 a1 N (a0 * (s.1 19)) s t _ hl5 _ _ ?_
        show px_E px_ET px_P 1 127 29 [none, none, none, none] [] (px_w K s3 t4) _ _
        refine px_blk (i' := 30) (L' := [none, none, none, none]) (S' := [.int (0 : Int32)]) (w' := px_w K s3 t4) (q := []) 1 hM rfl trivial ?_
        cases h
        exact px_E_ret hM rfl rfl rfl (show (0 : Int32) = 0 ∨ (0 : Int32) = 1 from Or.inl rfl)
      · rw [if_neg hi8] at h
        cases h
  · cases h
    exact e_l_S_hasClosed_14_5 K N a0 a1 N (a0 * (s.1 19)) s t _ hl5 _ _ ⟨rfl, rfl⟩
noncomputable def f_V_landed_13 (K : px_K) (N : Nat) (s : px_S) (t : px_W) : Option px_Res :=
  (px_gd (vp_in (17 : Int32) (K.2.2 6)) (some (.inl (some (.int ((s.2.2.1 6) (17 : Int32).toNatClampNeg))), s, t)))
set_option maxRecDepth 100000 in
theorem e_V_landed_13 (K : px_K) (N : Nat) (s : px_S) (t : px_W) (r : px_Res) (h : f_V_landed_13 K N s t = some r) : px_E px_ET px_P 1 181 0 (px_ent 1 [.ref 13]) [] (px_w K s t) r.1 (px_w K r.2.1 r.2.2) := by
  have hM : px_P[181]? = some pm_V_landed := rfl
  unfold f_V_landed_13 at h
  obtain ⟨hq1, h⟩ := px_gd_some h
  refine px_blk (i' := 5) (L' := [some (.ref 13)]) (S' := [.int ((s.2.2.1 6) (17 : Int32).toNatClampNeg)]) (w' := px_w K s t) (q := [vp_in (17 : Int32) (K.2.2 6)]) 5 hM rfl (show vp_in (17 : Int32) (K.2.2 6) from hq1) ?_
  cases h
  exact px_E_ret hM rfl rfl rfl trivial
noncomputable def l_S_gather_14_21_4 (K : px_K) (N : Nat) (n : Nat) (u1 : Int32) (m3 : Int32) (m4 : Int32) (s : px_S) (t : px_W) : Option px_LO := match n with
  | 0 => none
  | n + 1 => (if (s.1 20) ≤ m4 then (some (.inl (31, [m3], s, t))) else (px_gd (vp_in m4 (K.2.2 15)) (if ¬ ((s.2.2.1 15) m4.toNatClampNeg) = (2 : Int32) then (l_S_gather_14_21_4 K N n u1 m3 (m4 + (1 : Int32)) s t) else (px_gd (vp_in m4 (K.2.2 17)) (if ¬ ((s.2.2.1 17) m4.toNatClampNeg) = u1 then (l_S_gather_14_21_4 K N n u1 m3 (m4 + (1 : Int32)) s t) else (if (Int32.ofNat (K.2.2 21)) ≤ m3 then (l_S_gather_14_21_4 K N n u1 m3 (m4 + (1 : Int32)) s t) else (px_gd (vp_in m3 (K.2.2 21)) (px_let (sA s 21 m3.toNatClampNeg m4) (fun s8 => (l_S_gather_14_21_4 K N n u1 (m3 + (1 : Int32)) (m4 + (1 : Int32)) s8 t))))))))))
def a_l_S_gather_14_21_4 (K : px_K) (u1 : Int32) (z : px_LO) (o : Option Value ⊕ Nat) (w2 : px_W) : Prop := match z with
  | .inr (o', s', t') => o = o' ∧ w2 = px_w K s' t'
  | .inl (31, [y3], s', t') => px_E px_ET px_P 1 128 31 [none, none, none, some (.int y3), none] [] (px_w K s' t') o w2
  | _ => False
set_option maxRecDepth 100000 in
theorem e_l_S_gather_14_21_4 (K : px_K) (N : Nat) (u1 : Int32) : ∀ (n : Nat) (m3 : Int32) (m4 : Int32) (s : px_S) (t : px_W) (z : px_LO), l_S_gather_14_21_4 K N n u1 m3 m4 s t = some z → ∀ (o : Option Value ⊕ Nat) (w2 : px_W), a_l_S_gather_14_21_4 K u1 z o w2 → px_E px_ET px_P 1 128 4 [some (.ref 14), some (.int u1), some (.ref 21), some (.int m3), some (.int m4)] [] (px_w K s t) o w2 := by
  have hM : px_P[128]? = some pm_S_gather := rfl
  intro n
  induction n with
  | zero => intro m3 m4 s t z h; cases h
  | succ n ih =>
    intro m3 m4 s t z h o w2 ha
    unfold l_S_gather_14_21_4 at h
    refine px_blkif (c := (s.1 20) ≤ m4) (t := 31) (e := 8) (L' := [some (.ref 14), some (.int u1), some (.ref 21), some (.int m3), some (.int m4)]) (S' := []) (w' := px_w K s t) (q := []) 4 hM rfl trivial (fun hc1 => ?_) (fun hc1 => ?_)
    · rw [if_pos hc1] at h
      cases h
      exact px_E_le (px_leC_L _ _ (by simp [px_leC, px_le1, Value.category])) ha
    · rw [if_neg hc1] at h
      obtain ⟨hq2, h⟩ := px_gd_some h
      refine px_blkif (c := ¬ ((s.2.2.1 15) m4.toNatClampNeg) = (2 : Int32)) (t := 29) (e := 14) (L' := [some (.ref 14), some (.int u1), some (.ref 21), some (.int m3), some (.int m4)]) (S' := []) (w' := px_w K s t) (q := [vp_in m4 (K.2.2 15)]) 6 hM rfl (show vp_in m4 (K.2.2 15) from hq2) (fun hc3 => ?_) (fun hc3 => ?_)
      · rw [if_pos hc3] at h
        refine px_blk (i' := 4) (L' := [some (.ref 14), some (.int u1), some (.ref 21), some (.int m3), some (.int (m4 + (1 : Int32)))]) (S' := []) (w' := px_w K s t) (q := []) 2 hM rfl trivial ?_
        exact ih m3 (m4 + (1 : Int32)) s t z h o w2 ha
      · rw [if_neg hc3] at h
        obtain ⟨hq4, h⟩ := px_gd_some h
        refine px_blkif (c := ¬ ((s.2.2.1 17) m4.toNatClampNeg) = u1) (t := 29) (e := 20) (L' := [some (.ref 14), some (.int u1), some (.ref 21), some (.int m3), some (.int m4)]) (S' := []) (w' := px_w K s t) (q := [vp_in m4 (K.2.2 17)]) 6 hM rfl (show vp_in m4 (K.2.2 17) from hq4) (fun hc5 => ?_) (fun hc5 => ?_)
        · rw [if_pos hc5] at h
          refine px_blk (i' := 4) (L' := [some (.ref 14), some (.int u1), some (.ref 21), some (.int m3), some (.int (m4 + (1 : Int32)))]) (S' := []) (w' := px_w K s t) (q := []) 2 hM rfl trivial ?_
          exact ih m3 (m4 + (1 : Int32)) s t z h o w2 ha
        · rw [if_neg hc5] at h
          refine px_blkif (c := (Int32.ofNat (K.2.2 21)) ≤ m3) (t := 29) (e := 24) (L' := [some (.ref 14), some (.int u1), some (.ref 21), some (.int m3), some (.int m4)]) (S' := []) (w' := px_w K s t) (q := []) 4 hM rfl trivial (fun hc6 => ?_) (fun hc6 => ?_)
          · rw [if_pos hc6] at h
            refine px_blk (i' := 4) (L' := [some (.ref 14), some (.int u1), some (.ref 21), some (.int m3), some (.int (m4 + (1 : Int32)))]) (S' := []) (w' := px_w K s t) (q := []) 2 hM rfl trivial ?_
            exact ih m3 (m4 + (1 : Int32)) s t z h o w2 ha
          · rw [if_neg hc6] at h
            obtain ⟨hq7, h⟩ := px_gd_some h
            refine px_blk (i' := 28) (L' := [some (.ref 14), some (.int u1), some (.ref 21), some (.int m3), some (.int m4)]) (S' := []) (w' := px_w K (sA s 21 m3.toNatClampNeg m4) t) (q := [vp_in m3 (K.2.2 21)]) 4 hM rfl (show vp_in m3 (K.2.2 21) from hq7) ?_
            obtain ⟨s8, hs9, h⟩ := px_let_some h
            rw [← hs9]
            refine px_blk (i' := 4) (L' := [some (.ref 14), some (.int u1), some (.ref 21), some (.int (m3 + (1 : Int32))), some (.int (m4 + (1 : Int32)))]) (S' := []) (w' := px_w K s8 t) (q := []) 3 hM rfl trivial ?_
            exact ih (m3 + (1 : Int32)) (m4 + (1 : Int32)) s8 t z h o w2 ha
noncomputable def f_S_gather_14_21 (K : px_K) (N : Nat) (a0 : Int32) (s : px_S) (t : px_W) : Option px_Res :=
  (px_lp (l_S_gather_14_21_4 K N N a0 (0 : Int32) (0 : Int32) s t) (fun i1 vs2 s3 t4 => (if i1 = 31 then (px_v1 vs2 (fun y7 => (some (.inl (some (.int y7)), s3, t4)))) else none)) (fun z6 => some z6))
set_option maxRecDepth 100000 in
theorem e_S_gather_14_21 (K : px_K) (N : Nat) (a0 : Int32) (s : px_S) (t : px_W) (r : px_Res) (h : f_S_gather_14_21 K N a0 s t = some r) : px_E px_ET px_P 1 128 0 (px_ent 5 [.ref 14, .int a0, .ref 21]) [] (px_w K s t) r.1 (px_w K r.2.1 r.2.2) := by
  have hM : px_P[128]? = some pm_S_gather := rfl
  unfold f_S_gather_14_21 at h
  refine px_blk (i' := 4) (L' := [some (.ref 14), some (.int a0), some (.ref 21), some (.int (0 : Int32)), some (.int (0 : Int32))]) (S' := []) (w' := px_w K s t) (q := []) 4 hM rfl trivial ?_
  rcases px_lp_some h with ⟨i1, vs2, s3, t4, hl5, h⟩ | ⟨z6, hl5, h⟩
  · by_cases hi8 : i1 = 31
    · subst hi8
      rw [if_pos rfl] at h
      have h9 := px_v1_some h
      clear h
      obtain ⟨y7, rfl, h⟩ := h9
      refine e_l_S_gather_14_21_4 K N a0 N (0 : Int32) (0 : Int32) s t _ hl5 _ _ ?_
      show px_E px_ET px_P 1 128 31 [none, none, none, some (.int y7), none] [] (px_w K s3 t4) _ _
      refine px_blk (i' := 32) (L' := [none, none, none, some (.int y7), none]) (S' := [.int y7]) (w' := px_w K s3 t4) (q := []) 1 hM rfl trivial ?_
      cases h
      exact px_E_ret hM rfl rfl rfl trivial
    · rw [if_neg hi8] at h
      cases h
  · cases h
    exact e_l_S_gather_14_21_4 K N a0 N (0 : Int32) (0 : Int32) s t _ hl5 _ _ ⟨rfl, rfl⟩
noncomputable def l_S_sortByBlock_14_21_11 (K : px_K) (N : Nat) (n : Nat) (u2 : Int32) (u3 : Int32) (u4 : Int32) (m5 : Int32) (s : px_S) (t : px_W) : Option px_LO := match n with
  | 0 => none
  | n + 1 => (if m5 ≤ 0 then (some (.inl (36, [m5], s, t))) else (px_gd ((vp_in (m5 - (1 : Int32)) (K.2.2 21)) ∧ (vp_in ((s.2.2.1 21) (m5 - (1 : Int32)).toNatClampNeg) (K.2.2 16)) ∧ (vp_in u4 (K.2.2 16))) (if ((s.2.2.1 16) ((s.2.2.1 21) (m5 - (1 : Int32)).toNatClampNeg).toNatClampNeg) ≤ ((s.2.2.1 16) u4.toNatClampNeg) then (some (.inl (36, [m5], s, t))) else (px_gd ((vp_in (m5 - (1 : Int32)) (K.2.2 21)) ∧ (vp_in m5 (K.2.2 21))) (px_let (sA s 21 m5.toNatClampNeg ((s.2.2.1 21) (m5 - (1 : Int32)).toNatClampNeg)) (fun s8 => (px_let (m5 + (-1 : Int32)) (fun v10 => (l_S_sortByBlock_14_21_11 K N n u2 u3 u4 v10 s8 t)))))))))
def a_l_S_sortByBlock_14_21_11 (K : px_K) (u2 : Int32) (u3 : Int32) (u4 : Int32) (z : px_LO) (o : Option Value ⊕ Nat) (w2 : px_W) : Prop := match z with
  | .inr (o', s', t') => o = o' ∧ w2 = px_w K s' t'
  | .inl (36, [y5], s', t') => px_E px_ET px_P 1 129 36 [some (.ref 14), some (.ref 21), some (.int u2), some (.int u3), some (.int u4), some (.int y5)] [] (px_w K s' t') o w2
  | _ => False
noncomputable def l_S_sortByBlock_14_21_2 (K : px_K) (N : Nat) (n : Nat) (u2 : Int32) (m3 : Int32) (s : px_S) (t : px_W) : Option px_LO := match n with
  | 0 => none
  | n + 1 => (if u2 ≤ m3 then (some (.inl (42, [], s, t))) else (px_gd (vp_in m3 (K.2.2 21)) (px_let ((s.2.2.1 21) m3.toNatClampNeg) (fun v3 => (px_lp (l_S_sortByBlock_14_21_11 K N N u2 m3 v3 m3 s t) (fun i5 vs6 s7 t8 => (if i5 = 36 then (px_v1 vs6 (fun y11 => (px_gd (vp_in y11 (K.2.2 21)) (px_let (sA s7 21 y11.toNatClampNeg v3) (fun s14 => (l_S_sortByBlock_14_21_2 K N n u2 (m3 + (1 : Int32)) s14 t8)))))) else none)) (fun z10 => some (.inr z10)))))))
def a_l_S_sortByBlock_14_21_2 (K : px_K) (u2 : Int32) (z : px_LO) (o : Option Value ⊕ Nat) (w2 : px_W) : Prop := match z with
  | .inr (o', s', t') => o = o' ∧ w2 = px_w K s' t'
  | .inl (42, [], s', t') => px_E px_ET px_P 1 129 42 [none, none, none, none, none, none] [] (px_w K s' t') o w2
  | _ => False
set_option maxRecDepth 100000 in
theorem e_l_S_sortByBlock_14_21_11 (K : px_K) (N : Nat) (u2 : Int32) (u3 : Int32) (u4 : Int32) : ∀ (n : Nat) (m5 : Int32) (s : px_S) (t : px_W) (z : px_LO), l_S_sortByBlock_14_21_11 K N n u2 u3 u4 m5 s t = some z → ∀ (o : Option Value ⊕ Nat) (w2 : px_W), a_l_S_sortByBlock_14_21_11 K u2 u3 u4 z o w2 → px_E px_ET px_P 1 129 11 [some (.ref 14), some (.ref 21), some (.int u2), some (.int u3), some (.int u4), some (.int m5)] [] (px_w K s t) o w2 := by
  have hM : px_P[129]? = some pm_S_sortByBlock := rfl
  intro n
  induction n with
  | zero => intro m5 s t z h; cases h
  | succ n ih =>
    intro m5 s t z h o w2 ha
    unfold l_S_sortByBlock_14_21_11 at h
    refine px_blkif (c := m5 ≤ 0) (t := 36) (e := 13) (L' := [some (.ref 14), some (.ref 21), some (.int u2), some (.int u3), some (.int u4), some (.int m5)]) (S' := []) (w' := px_w K s t) (q := []) 2 hM rfl trivial (fun hc1 => ?_) (fun hc1 => ?_)
    · rw [if_pos hc1] at h
      cases h
      exact px_E_le (px_leC_L _ _ (by simp [px_leC, px_le1, Value.category])) ha
    · rw [if_neg hc1] at h
      obtain ⟨⟨hq2, hq3, hq4⟩, h⟩ := px_gd_some h
      refine px_blk (i' := 25) (L' := [some (.ref 14), some (.ref 21), some (.int u2), some (.int u3), some (.int u4), some (.int m5)]) (S' := [.int ((s.2.2.1 16) u4.toNatClampNeg), .int ((s.2.2.1 16) ((s.2.2.1 21) (m5 - (1 : Int32)).toNatClampNeg).toNatClampNeg)]) (w' := px_w K s t) (q := [vp_in (m5 - (1 : Int32)) (K.2.2 21), vp_in ((s.2.2.1 21) (m5 - (1 : Int32)).toNatClampNeg) (K.2.2 16), vp_in u4 (K.2.2 16)]) 12 hM rfl (show (vp_in (m5 - (1 : Int32)) (K.2.2 21)) ∧ (vp_in ((s.2.2.1 21) (m5 - (1 : Int32)).toNatClampNeg) (K.2.2 16)) ∧ (vp_in u4 (K.2.2 16)) from ⟨hq2, hq3, hq4⟩) ?_
      refine px_blkif (c := ((s.2.2.1 16) ((s.2.2.1 21) (m5 - (1 : Int32)).toNatClampNeg).toNatClampNeg) ≤ ((s.2.2.1 16) u4.toNatClampNeg)) (t := 36) (e := 26) (L' := [some (.ref 14), some (.ref 21), some (.int u2), some (.int u3), some (.int u4), some (.int m5)]) (S' := []) (w' := px_w K s t) (q := []) 1 hM rfl trivial (fun hc5 => ?_) (fun hc5 => ?_)
      · rw [if_pos hc5] at h
        cases h
        exact px_E_le (px_leC_L _ _ (by simp [px_leC, px_le1, Value.category])) ha
      · rw [if_neg hc5] at h
        obtain ⟨⟨hq6, hq7⟩, h⟩ := px_gd_some h
        refine px_blk (i' := 34) (L' := [some (.ref 14), some (.ref 21), some (.int u2), some (.int u3), some (.int u4), some (.int m5)]) (S' := []) (w' := px_w K (sA s 21 m5.toNatClampNeg ((s.2.2.1 21) (m5 - (1 : Int32)).toNatClampNeg)) t) (q := [vp_in (m5 - (1 : Int32)) (K.2.2 21), vp_in m5 (K.2.2 21)]) 8 hM rfl (show (vp_in (m5 - (1 : Int32)) (K.2.2 21)) ∧ (vp_in m5 (K.2.2 21)) from ⟨hq6, hq7⟩) ?_
        obtain ⟨s8, hs9, h⟩ := px_let_some h
        rw [← hs9]
        refine px_blk (i' := 35) (L' := [some (.ref 14), some (.ref 21), some (.int u2), some (.int u3), some (.int u4), some (.int (m5 + (-1 : Int32)))]) (S' := []) (w' := px_w K s8 t) (q := []) 1 hM rfl trivial ?_
        obtain ⟨v10, hv11, h⟩ := px_let_some h
        rw [← hv11]
        refine px_blk (i' := 11) (L' := [some (.ref 14), some (.ref 21), some (.int u2), some (.int u3), some (.int u4), some (.int v10)]) (S' := []) (w' := px_w K s8 t) (q := []) 1 hM rfl trivial ?_
        exact ih v10 s8 t z h o w2 ha
set_option maxRecDepth 100000 in
theorem e_l_S_sortByBlock_14_21_2 (K : px_K) (N : Nat) (u2 : Int32) : ∀ (n : Nat) (m3 : Int32) (s : px_S) (t : px_W) (z : px_LO), l_S_sortByBlock_14_21_2 K N n u2 m3 s t = some z → ∀ (o : Option Value ⊕ Nat) (w2 : px_W), a_l_S_sortByBlock_14_21_2 K u2 z o w2 → px_E px_ET px_P 1 129 2 [some (.ref 14), some (.ref 21), some (.int u2), some (.int m3), none, none] [] (px_w K s t) o w2 := by
  have hM : px_P[129]? = some pm_S_sortByBlock := rfl
  intro n
  induction n with
  | zero => intro m3 s t z h; cases h
  | succ n ih =>
    intro m3 s t z h o w2 ha
    unfold l_S_sortByBlock_14_21_2 at h
    refine px_blkif (c := u2 ≤ m3) (t := 42) (e := 5) (L' := [some (.ref 14), some (.ref 21), some (.int u2), some (.int m3), none, none]) (S' := []) (w' := px_w K s t) (q := []) 3 hM rfl trivial (fun hc1 => ?_) (fun hc1 => ?_)
    · rw [if_pos hc1] at h
      cases h
      exact px_E_le (px_leC_L _ _ (by simp [px_leC, px_le1, Value.category])) ha
    · rw [if_neg hc1] at h
      obtain ⟨hq2, h⟩ := px_gd_some h
      refine px_blk (i' := 9) (L' := [some (.ref 14), some (.ref 21), some (.int u2), some (.int m3), some (.int ((s.2.2.1 21) m3.toNatClampNeg)), none]) (S' := []) (w' := px_w K s t) (q := [vp_in m3 (K.2.2 21)]) 4 hM rfl (show vp_in m3 (K.2.2 21) from hq2) ?_
      obtain ⟨v3, hv4, h⟩ := px_let_some h
      rw [← hv4]
      refine px_blk (i' := 11) (L' := [some (.ref 14), some (.ref 21), some (.int u2), some (.int m3), some (.int v3), some (.int m3)]) (S' := []) (w' := px_w K s t) (q := []) 2 hM rfl trivial ?_
      rcases px_lp_some h with ⟨i5, vs6, s7, t8, hl9, h⟩ | ⟨z10, hl9, h⟩
      · by_cases hi12 : i5 = 36
        · subst hi12
          rw [if_pos rfl] at h
          have h9 := px_v1_some h
          clear h
          obtain ⟨y11, rfl, h⟩ := h9
          refine e_l_S_sortByBlock_14_21_11 K N u2 m3 v3 N m3 s t _ hl9 _ _ ?_
          show px_E px_ET px_P 1 129 36 [some (.ref 14), some (.ref 21), some (.int u2), some (.int m3), some (.int v3), some (.int y11)] [] (px_w K s7 t8) _ _
          obtain ⟨hq13, h⟩ := px_gd_some h
          refine px_blk (i' := 40) (L' := [some (.ref 14), some (.ref 21), some (.int u2), some (.int m3), some (.int v3), some (.int y11)]) (S' := []) (w' := px_w K (sA s7 21 y11.toNatClampNeg v3) t8) (q := [vp_in y11 (K.2.2 21)]) 4 hM rfl (show vp_in y11 (K.2.2 21) from hq13) ?_
          obtain ⟨s14, hs15, h⟩ := px_let_some h
          rw [← hs15]
          refine px_blk (i' := 2) (L' := [some (.ref 14), some (.ref 21), some (.int u2), some (.int (m3 + (1 : Int32))), some (.int v3), some (.int y11)]) (S' := []) (w' := px_w K s14 t8) (q := []) 2 hM rfl trivial ?_
          exact px_E_le (px_leC_L _ _ (by simp [px_leC, px_le1, Value.category])) (ih (m3 + (1 : Int32)) s14 t8 z h o w2 ha)
        · rw [if_neg hi12] at h
          cases h
      · cases h
        obtain ⟨rfl, rfl⟩ := ha
        exact e_l_S_sortByBlock_14_21_11 K N u2 m3 v3 N m3 s t _ hl9 _ _ ⟨rfl, rfl⟩
noncomputable def f_S_sortByBlock_14_21 (K : px_K) (N : Nat) (a0 : Int32) (s : px_S) (t : px_W) : Option px_Res :=
  (px_lp (l_S_sortByBlock_14_21_2 K N N a0 (1 : Int32) s t) (fun i1 vs2 s3 t4 => (if i1 = 42 then (px_v0 vs2 (some (.inl none, s3, t4))) else none)) (fun z6 => some z6))
set_option maxRecDepth 100000 in
theorem e_S_sortByBlock_14_21 (K : px_K) (N : Nat) (a0 : Int32) (s : px_S) (t : px_W) (r : px_Res) (h : f_S_sortByBlock_14_21 K N a0 s t = some r) : px_E px_ET px_P 1 129 0 (px_ent 6 [.ref 14, .ref 21, .int a0]) [] (px_w K s t) r.1 (px_w K r.2.1 r.2.2) := by
  have hM : px_P[129]? = some pm_S_sortByBlock := rfl
  unfold f_S_sortByBlock_14_21 at h
  refine px_blk (i' := 2) (L' := [some (.ref 14), some (.ref 21), some (.int a0), some (.int (1 : Int32)), none, none]) (S' := []) (w' := px_w K s t) (q := []) 2 hM rfl trivial ?_
  rcases px_lp_some h with ⟨i1, vs2, s3, t4, hl5, h⟩ | ⟨z6, hl5, h⟩
  · by_cases hi7 : i1 = 42
    · subst hi7
      rw [if_pos rfl] at h
      have h9 := px_v0_some h
      clear h
      obtain ⟨rfl, h⟩ := h9
      refine e_l_S_sortByBlock_14_21_2 K N a0 N (1 : Int32) s t _ hl5 _ _ ?_
      show px_E px_ET px_P 1 129 42 [none, none, none, none, none, none] [] (px_w K s3 t4) _ _
      cases h
      exact px_E_ret hM rfl rfl rfl trivial
    · rw [if_neg hi7] at h
      cases h
  · cases h
    exact e_l_S_sortByBlock_14_21_2 K N a0 N (1 : Int32) s t _ hl5 _ _ ⟨rfl, rfl⟩
noncomputable def f_D_has_3 (K : px_K) (N : Nat) (a0 : Int32) (s : px_S) (t : px_W) : Option px_Res :=
  (px_gd ((if a0 < 0 then (0 : Int32) else (if (s.1 1) ≤ a0 then (0 : Int32) else (1 : Int32))) = 0 ∨ (if a0 < 0 then (0 : Int32) else (if (s.1 1) ≤ a0 then (0 : Int32) else (1 : Int32))) = 1) (some (.inl (some (.int (if a0 < 0 then (0 : Int32) else (if (s.1 1) ≤ a0 then (0 : Int32) else (1 : Int32))))), s, t)))
set_option maxRecDepth 100000 in
theorem e_D_has_3 (K : px_K) (N : Nat) (a0 : Int32) (s : px_S) (t : px_W) (r : px_Res) (h : f_D_has_3 K N a0 s t = some r) : px_E px_ET px_P 1 110 0 (px_ent 2 [.ref 3, .int a0]) [] (px_w K s t) r.1 (px_w K r.2.1 r.2.2) := by
  have hM : px_P[110]? = some pm_D_has := rfl
  unfold f_D_has_3 at h
  refine px_blk (i' := 1) (L' := [some (.ref 3), some (.int a0)]) (S' := [.int a0]) (w' := px_w K s t) (q := []) 1 hM rfl trivial ?_
  have hK : px_E px_ET px_P 1 110 9 [some (.ref 3), some (.int a0)] [.int (if a0 < 0 then (0 : Int32) else (if (s.1 1) ≤ a0 then (0 : Int32) else (1 : Int32)))] (px_w K s t) r.1 (px_w K r.2.1 r.2.2) := by
    obtain ⟨hq1, h⟩ := px_gd_some h
    cases h
    exact px_E_ret hM rfl rfl rfl (show (if a0 < 0 then (0 : Int32) else (if (s.1 1) ≤ a0 then (0 : Int32) else (1 : Int32))) = 0 ∨ (if a0 < 0 then (0 : Int32) else (if (s.1 1) ≤ a0 then (0 : Int32) else (1 : Int32))) = 1 from hq1)
  clear h
  refine px_blkif (c := a0 < 0) (t := 8) (e := 2) (L' := [some (.ref 3), some (.int a0)]) (S' := []) (w' := px_w K s t) (q := []) 1 hM rfl trivial (fun hc2 => ?_) (fun hc2 => ?_)
  · rw [if_pos hc2] at hK
    exact px_blk (i' := 9) (L' := [some (.ref 3), some (.int a0)]) (S' := [.int (0 : Int32)]) (w' := px_w K s t) (q := []) 1 hM rfl trivial hK
  · rw [if_neg hc2] at hK
    refine px_blkif (c := (s.1 1) ≤ a0) (t := 8) (e := 6) (L' := [some (.ref 3), some (.int a0)]) (S' := []) (w' := px_w K s t) (q := []) 4 hM rfl trivial (fun hc3 => ?_) (fun hc3 => ?_)
    · rw [if_pos hc3] at hK
      exact px_blk (i' := 9) (L' := [some (.ref 3), some (.int a0)]) (S' := [.int (0 : Int32)]) (w' := px_w K s t) (q := []) 1 hM rfl trivial hK
    · rw [if_neg hc3] at hK
      exact px_blk (i' := 9) (L' := [some (.ref 3), some (.int a0)]) (S' := [.int (1 : Int32)]) (w' := px_w K s t) (q := []) 2 hM rfl trivial hK
noncomputable def f_D_put_3_11 (K : px_K) (N : Nat) (a0 : Int32) (a1 : Int32) (s : px_S) (t : px_W) : Option px_Res :=
  (px_bi (f_D_has_3 K N a0 s t) (fun v4 s1 t2 => (if v4 = 0 then (some (.inl none, s1, t2)) else (if a1 < 0 then (some (.inl none, s1, t2)) else (if a1 ≤ ((Int32.ofNat (K.2.2 11)) - (16 : Int32)) then (px_let (sQ s1 0 ((s1.2.1 0) + (1 : Int64))) (fun s9 => (if ¬ (lg_cmp (s9.2.1 0) (s9.2.1 1)) = 0 then (if ¬ (s9.1 3) = (64 : Int32) then (px_let (((s9.1 2) + (s9.1 3)) - ((s9.1 2) + (s9.1 3)) / (64 : Int32) * (64 : Int32)) (fun v13 => (px_gd (vp_in v13 (K.2.2 4)) (px_let (sA s9 4 v13.toNatClampNeg a0) (fun s16 => (px_gd (¬ a1 < 0 ∧ ¬ (v13 * (16 : Int32)) < 0 ∧ ¬ (16 : Int32) < 0 ∧ a1.toNatClampNeg + (16 : Int32).toNatClampNeg ≤ K.2.2 11 ∧ (v13 * (16 : Int32)).toNatClampNeg + (16 : Int32).toNatClampNeg ≤ K.2.2 5) (px_let (sF s16 5 (va_cpy (s16.2.2.1 11) (s16.2.2.1 5) a1.toNatClampNeg (v13 * (16 : Int32)).toNatClampNeg (16 : Int32).toNatClampNeg)) (fun s19 => (px_gd (¬ a1 < 0 ∧ ¬ (a0 * (16 : Int32)) < 0 ∧ ¬ (16 : Int32) < 0 ∧ a1.toNatClampNeg + (16 : Int32).toNatClampNeg ≤ K.2.2 11 ∧ (a0 * (16 : Int32)).toNatClampNeg + (16 : Int32).toNatClampNeg ≤ K.2.2 6) (px_let (sF s19 6 (va_cpy (s19.2.2.1 11) (s19.2.2.1 6) a1.toNatClampNeg (a0 * (16 : Int32)).toNatClampNeg (16 : Int32).toNatClampNeg)) (fun s22 => (px_let (sR s22 3 ((s22.1 3) + (1 : Int32))) (fun s24 => (px_let (sR s24 4 ((s24.1 4) + (1 : Int32))) (fun s26 => (some (.inl none, s26, t2))))))))))))))))) else (px_gd ((vp_in (s9.1 2) (K.2.2 4)) ∧ (¬ ((s9.1 2) * (16 : Int32)) < 0 ∧ ¬ (((s9.2.2.1 4) (s9.1 2).toNatClampNeg) * (16 : Int32)) < 0 ∧ ¬ (16 : Int32) < 0 ∧ ((s9.1 2) * (16 : Int32)).toNatClampNeg + (16 : Int32).toNatClampNeg ≤ K.2.2 5 ∧ (((s9.2.2.1 4) (s9.1 2).toNatClampNeg) * (16 : Int32)).toNatClampNeg + (16 : Int32).toNatClampNeg ≤ K.2.2 7)) (px_let (sF s9 7 (va_cpy (s9.2.2.1 5) (s9.2.2.1 7) ((s9.1 2) * (16 : Int32)).toNatClampNeg (((s9.2.2.1 4) (s9.1 2).toNatClampNeg) * (16 : Int32)).toNatClampNeg (16 : Int32).toNatClampNeg)) (fun s30 => (px_let (sR s30 2 (((s30.1 2) + (1 : Int32)) - ((s30.1 2) + (1 : Int32)) / (64 : Int32) * (64 : Int32))) (fun s32 => (px_let (sR s32 3 ((s32.1 3) - (1 : Int32))) (fun s34 => (px_let (((s34.1 2) + (s34.1 3)) - ((s34.1 2) + (s34.1 3)) / (64 : Int32) * (64 : Int32)) (fun v36 => (px_gd (vp_in v36 (K.2.2 4)) (px_let (sA s34 4 v36.toNatClampNeg a0) (fun s39 => (px_gd (¬ a1 < 0 ∧ ¬ (v36 * (16 : Int32)) < 0 ∧ ¬ (16 : Int32) < 0 ∧ a1.toNatClampNeg + (16 : Int32).toNatClampNeg ≤ K.2.2 11 ∧ (v36 * (16 : Int32)).toNatClampNeg + (16 : Int32).toNatClampNeg ≤ K.2.2 5) (px_let (sF s39 5 (va_cpy (s39.2.2.1 11) (s39.2.2.1 5) a1.toNatClampNeg (v36 * (16 : Int32)).toNatClampNeg (16 : Int32).toNatClampNeg)) (fun s42 => (px_gd (¬ a1 < 0 ∧ ¬ (a0 * (16 : Int32)) < 0 ∧ ¬ (16 : Int32) < 0 ∧ a1.toNatClampNeg + (16 : Int32).toNatClampNeg ≤ K.2.2 11 ∧ (a0 * (16 : Int32)).toNatClampNeg + (16 : Int32).toNatClampNeg ≤ K.2.2 6) (px_let (sF s42 6 (va_cpy (s42.2.2.1 11) (s42.2.2.1 6) a1.toNatClampNeg (a0 * (16 : Int32)).toNatClampNeg (16 : Int32).toNatClampNeg)) (fun s45 => (px_let (sR s45 3 ((s45.1 3) + (1 : Int32))) (fun s47 => (px_let (sR s47 4 ((s47.1 4) + (1 : Int32))) (fun s49 => (some (.inl none, s49, t2))))))))))))))))))))))))) else (some (.inr (t2.length + 47), s9, t2 ++ [px_exc 7]))))) else (some (.inl none, s1, t2)))))) (fun x5 s1 t2 => none))
set_option maxRecDepth 100000 in
theorem e_D_put_3_11 (K : px_K) (N : Nat) (a0 : Int32) (a1 : Int32) (s : px_S) (t : px_W) (r : px_Res) (h : f_D_put_3_11 K N a0 a1 s t = some r) : px_E px_ET px_P 9 113 0 (px_ent 5 [.ref 3, .int a0, .ref 11, .int a1]) [] (px_w K s t) r.1 (px_w K r.2.1 r.2.2) := by
  have hM : px_P[113]? = some pm_D_put := rfl
  unfold f_D_put_3_11 at h
  refine px_blk (i' := 2) (L' := [some (.ref 3), some (.int a0), some (.ref 11), some (.int a1), none]) (S' := [.int a0, .ref 3]) (w' := px_w K s t) (q := []) 2 hM rfl trivial ?_
  rcases px_bi_some h with ⟨v4, s1, t2, hk3, h⟩ | ⟨x5, s1, t2, hk3, h⟩
  · refine px_E_call hM rfl rfl rfl rfl (px_E_mono (by decide) (e_D_has_3 K N a0 s t _ hk3)) ?_
    refine px_blkif (c := v4 = 0) (t := 12) (e := 4) (L' := [some (.ref 3), some (.int a0), some (.ref 11), some (.int a1), none]) (S' := []) (w' := px_w K s1 t2) (q := []) 1 hM rfl trivial (fun hc6 => ?_) (fun hc6 => ?_)
    · rw [if_pos hc6] at h
      cases h
      exact px_E_ret hM rfl rfl rfl trivial
    · rw [if_neg hc6] at h
      refine px_blkif (c := a1 < 0) (t := 12) (e := 6) (L' := [some (.ref 3), some (.int a0), some (.ref 11), some (.int a1), none]) (S' := []) (w' := px_w K s1 t2) (q := []) 2 hM rfl trivial (fun hc7 => ?_) (fun hc7 => ?_)
      · rw [if_pos hc7] at h
        cases h
        exact px_E_ret hM rfl rfl rfl trivial
      · rw [if_neg hc7] at h
        refine px_blkif (c := a1 ≤ ((Int32.ofNat (K.2.2 11)) - (16 : Int32))) (t := 13) (e := 12) (L' := [some (.ref 3), some (.int a0), some (.ref 11), some (.int a1), none]) (S' := []) (w' := px_w K s1 t2) (q := []) 6 hM rfl trivial (fun hc8 => ?_) (fun hc8 => ?_)
        · rw [if_pos hc8] at h
          refine px_blk (i' := 20) (L' := [some (.ref 3), some (.int a0), some (.ref 11), some (.int a1), none]) (S' := []) (w' := px_w K (sQ s1 0 ((s1.2.1 0) + (1 : Int64))) t2) (q := []) 7 hM rfl trivial ?_
          obtain ⟨s9, hs10, h⟩ := px_let_some h
          rw [← hs10]
          refine px_blkif (c := ¬ (lg_cmp (s9.2.1 0) (s9.2.1 1)) = 0) (t := 29) (e := 28) (L' := [some (.ref 3), some (.int a0), some (.ref 11), some (.int a1), none]) (S' := []) (w' := px_w K s9 t2) (q := []) 8 hM rfl trivial (fun hc11 => ?_) (fun hc11 => ?_)
          · rw [if_pos hc11] at h
            refine px_blkif (c := ¬ (s9.1 3) = (64 : Int32)) (t := 64) (e := 33) (L' := [some (.ref 3), some (.int a0), some (.ref 11), some (.int a1), none]) (S' := []) (w' := px_w K s9 t2) (q := []) 4 hM rfl trivial (fun hc12 => ?_) (fun hc12 => ?_)
            · rw [if_pos hc12] at h
              refine px_blk (i' := 72) (L' := [some (.ref 3), some (.int a0), some (.ref 11), some (.int a1), some (.int (((s9.1 2) + (s9.1 3)) - ((s9.1 2) + (s9.1 3)) / (64 : Int32) * (64 : Int32)))]) (S' := []) (w' := px_w K s9 t2) (q := [¬ (64 : Int32) = 0]) 8 hM rfl (show ¬ (64 : Int32) = 0 from (by decide)) ?_
              obtain ⟨v13, hv14, h⟩ := px_let_some h
              rw [← hv14]
              obtain ⟨hq15, h⟩ := px_gd_some h
              refine px_blk (i' := 77) (L' := [some (.ref 3), some (.int a0), some (.ref 11), some (.int a1), some (.int v13)]) (S' := []) (w' := px_w K (sA s9 4 v13.toNatClampNeg a0) t2) (q := [vp_in v13 (K.2.2 4)]) 5 hM rfl (show vp_in v13 (K.2.2 4) from hq15) ?_
              obtain ⟨s16, hs17, h⟩ := px_let_some h
              rw [← hs17]
              obtain ⟨hq18, h⟩ := px_gd_some h
              refine px_blk (i' := 86) (L' := [some (.ref 3), some (.int a0), some (.ref 11), some (.int a1), some (.int v13)]) (S' := []) (w' := px_w K (sF s16 5 (va_cpy (s16.2.2.1 11) (s16.2.2.1 5) a1.toNatClampNeg (v13 * (16 : Int32)).toNatClampNeg (16 : Int32).toNatClampNeg)) t2) (q := [¬ a1 < 0 ∧ ¬ (v13 * (16 : Int32)) < 0 ∧ ¬ (16 : Int32) < 0 ∧ a1.toNatClampNeg + (16 : Int32).toNatClampNeg ≤ K.2.2 11 ∧ (v13 * (16 : Int32)).toNatClampNeg + (16 : Int32).toNatClampNeg ≤ K.2.2 5]) 9 hM rfl (show ¬ a1 < 0 ∧ ¬ (v13 * (16 : Int32)) < 0 ∧ ¬ (16 : Int32) < 0 ∧ a1.toNatClampNeg + (16 : Int32).toNatClampNeg ≤ K.2.2 11 ∧ (v13 * (16 : Int32)).toNatClampNeg + (16 : Int32).toNatClampNeg ≤ K.2.2 5 from hq18) ?_
              obtain ⟨s19, hs20, h⟩ := px_let_some h
              rw [← hs20]
              obtain ⟨hq21, h⟩ := px_gd_some h
              refine px_blk (i' := 95) (L' := [some (.ref 3), some (.int a0), some (.ref 11), some (.int a1), some (.int v13)]) (S' := []) (w' := px_w K (sF s19 6 (va_cpy (s19.2.2.1 11) (s19.2.2.1 6) a1.toNatClampNeg (a0 * (16 : Int32)).toNatClampNeg (16 : Int32).toNatClampNeg)) t2) (q := [¬ a1 < 0 ∧ ¬ (a0 * (16 : Int32)) < 0 ∧ ¬ (16 : Int32) < 0 ∧ a1.toNatClampNeg + (16 : Int32).toNatClampNeg ≤ K.2.2 11 ∧ (a0 * (16 : Int32)).toNatClampNeg + (16 : Int32).toNatClampNeg ≤ K.2.2 6]) 9 hM rfl (show ¬ a1 < 0 ∧ ¬ (a0 * (16 : Int32)) < 0 ∧ ¬ (16 : Int32) < 0 ∧ a1.toNatClampNeg + (16 : Int32).toNatClampNeg ≤ K.2.2 11 ∧ (a0 * (16 : Int32)).toNatClampNeg + (16 : Int32).toNatClampNeg ≤ K.2.2 6 from hq21) ?_
              obtain ⟨s22, hs23, h⟩ := px_let_some h
              rw [← hs23]
              refine px_blk (i' := 101) (L' := [some (.ref 3), some (.int a0), some (.ref 11), some (.int a1), some (.int v13)]) (S' := []) (w' := px_w K (sR s22 3 ((s22.1 3) + (1 : Int32))) t2) (q := []) 6 hM rfl trivial ?_
              obtain ⟨s24, hs25, h⟩ := px_let_some h
              rw [← hs25]
              refine px_blk (i' := 107) (L' := [some (.ref 3), some (.int a0), some (.ref 11), some (.int a1), some (.int v13)]) (S' := []) (w' := px_w K (sR s24 4 ((s24.1 4) + (1 : Int32))) t2) (q := []) 6 hM rfl trivial ?_
              obtain ⟨s26, hs27, h⟩ := px_let_some h
              rw [← hs27]
              cases h
              exact px_E_ret hM rfl rfl rfl trivial
            · rw [if_neg hc12] at h
              refine px_blk (i' := 45) (L' := [some (.ref 3), some (.int a0), some (.ref 11), some (.int a1), none]) (S' := [.int (s9.1 2), .ref 4, .ref 7, .int ((s9.1 2) * (16 : Int32)), .ref 5]) (w' := px_w K s9 t2) (q := []) 12 hM rfl trivial ?_
              obtain ⟨⟨hq28, hq29⟩, h⟩ := px_gd_some h
              refine px_blk (i' := 50) (L' := [some (.ref 3), some (.int a0), some (.ref 11), some (.int a1), none]) (S' := []) (w' := px_w K (sF s9 7 (va_cpy (s9.2.2.1 5) (s9.2.2.1 7) ((s9.1 2) * (16 : Int32)).toNatClampNeg (((s9.2.2.1 4) (s9.1 2).toNatClampNeg) * (16 : Int32)).toNatClampNeg (16 : Int32).toNatClampNeg)) t2) (q := [vp_in (s9.1 2) (K.2.2 4), ¬ ((s9.1 2) * (16 : Int32)) < 0 ∧ ¬ (((s9.2.2.1 4) (s9.1 2).toNatClampNeg) * (16 : Int32)) < 0 ∧ ¬ (16 : Int32) < 0 ∧ ((s9.1 2) * (16 : Int32)).toNatClampNeg + (16 : Int32).toNatClampNeg ≤ K.2.2 5 ∧ (((s9.2.2.1 4) (s9.1 2).toNatClampNeg) * (16 : Int32)).toNatClampNeg + (16 : Int32).toNatClampNeg ≤ K.2.2 7]) 5 hM rfl (show (vp_in (s9.1 2) (K.2.2 4)) ∧ (¬ ((s9.1 2) * (16 : Int32)) < 0 ∧ ¬ (((s9.2.2.1 4) (s9.1 2).toNatClampNeg) * (16 : Int32)) < 0 ∧ ¬ (16 : Int32) < 0 ∧ ((s9.1 2) * (16 : Int32)).toNatClampNeg + (16 : Int32).toNatClampNeg ≤ K.2.2 5 ∧ (((s9.2.2.1 4) (s9.1 2).toNatClampNeg) * (16 : Int32)).toNatClampNeg + (16 : Int32).toNatClampNeg ≤ K.2.2 7) from ⟨hq28, hq29⟩) ?_
              obtain ⟨s30, hs31, h⟩ := px_let_some h
              rw [← hs31]
              refine px_blk (i' := 58) (L' := [some (.ref 3), some (.int a0), some (.ref 11), some (.int a1), none]) (S' := []) (w' := px_w K (sR s30 2 (((s30.1 2) + (1 : Int32)) - ((s30.1 2) + (1 : Int32)) / (64 : Int32) * (64 : Int32))) t2) (q := [¬ (64 : Int32) = 0]) 8 hM rfl (show ¬ (64 : Int32) = 0 from (by decide)) ?_
              obtain ⟨s32, hs33, h⟩ := px_let_some h
              rw [← hs33]
              refine px_blk (i' := 64) (L' := [some (.ref 3), some (.int a0), some (.ref 11), some (.int a1), none]) (S' := []) (w' := px_w K (sR s32 3 ((s32.1 3) - (1 : Int32))) t2) (q := []) 6 hM rfl trivial ?_
              obtain ⟨s34, hs35, h⟩ := px_let_some h
              rw [← hs35]
              refine px_blk (i' := 72) (L' := [some (.ref 3), some (.int a0), some (.ref 11), some (.int a1), some (.int (((s34.1 2) + (s34.1 3)) - ((s34.1 2) + (s34.1 3)) / (64 : Int32) * (64 : Int32)))]) (S' := []) (w' := px_w K s34 t2) (q := [¬ (64 : Int32) = 0]) 8 hM rfl (show ¬ (64 : Int32) = 0 from (by decide)) ?_
              obtain ⟨v36, hv37, h⟩ := px_let_some h
              rw [← hv37]
              obtain ⟨hq38, h⟩ := px_gd_some h
              refine px_blk (i' := 77) (L' := [some (.ref 3), some (.int a0), some (.ref 11), some (.int a1), some (.int v36)]) (S' := []) (w' := px_w K (sA s34 4 v36.toNatClampNeg a0) t2) (q := [vp_in v36 (K.2.2 4)]) 5 hM rfl (show vp_in v36 (K.2.2 4) from hq38) ?_
              obtain ⟨s39, hs40, h⟩ := px_let_some h
              rw [← hs40]
              obtain ⟨hq41, h⟩ := px_gd_some h
              refine px_blk (i' := 86) (L' := [some (.ref 3), some (.int a0), some (.ref 11), some (.int a1), some (.int v36)]) (S' := []) (w' := px_w K (sF s39 5 (va_cpy (s39.2.2.1 11) (s39.2.2.1 5) a1.toNatClampNeg (v36 * (16 : Int32)).toNatClampNeg (16 : Int32).toNatClampNeg)) t2) (q := [¬ a1 < 0 ∧ ¬ (v36 * (16 : Int32)) < 0 ∧ ¬ (16 : Int32) < 0 ∧ a1.toNatClampNeg + (16 : Int32).toNatClampNeg ≤ K.2.2 11 ∧ (v36 * (16 : Int32)).toNatClampNeg + (16 : Int32).toNatClampNeg ≤ K.2.2 5]) 9 hM rfl (show ¬ a1 < 0 ∧ ¬ (v36 * (16 : Int32)) < 0 ∧ ¬ (16 : Int32) < 0 ∧ a1.toNatClampNeg + (16 : Int32).toNatClampNeg ≤ K.2.2 11 ∧ (v36 * (16 : Int32)).toNatClampNeg + (16 : Int32).toNatClampNeg ≤ K.2.2 5 from hq41) ?_
              obtain ⟨s42, hs43, h⟩ := px_let_some h
              rw [← hs43]
              obtain ⟨hq44, h⟩ := px_gd_some h
              refine px_blk (i' := 95) (L' := [some (.ref 3), some (.int a0), some (.ref 11), some (.int a1), some (.int v36)]) (S' := []) (w' := px_w K (sF s42 6 (va_cpy (s42.2.2.1 11) (s42.2.2.1 6) a1.toNatClampNeg (a0 * (16 : Int32)).toNatClampNeg (16 : Int32).toNatClampNeg)) t2) (q := [¬ a1 < 0 ∧ ¬ (a0 * (16 : Int32)) < 0 ∧ ¬ (16 : Int32) < 0 ∧ a1.toNatClampNeg + (16 : Int32).toNatClampNeg ≤ K.2.2 11 ∧ (a0 * (16 : Int32)).toNatClampNeg + (16 : Int32).toNatClampNeg ≤ K.2.2 6]) 9 hM rfl (show ¬ a1 < 0 ∧ ¬ (a0 * (16 : Int32)) < 0 ∧ ¬ (16 : Int32) < 0 ∧ a1.toNatClampNeg + (16 : Int32).toNatClampNeg ≤ K.2.2 11 ∧ (a0 * (16 : Int32)).toNatClampNeg + (16 : Int32).toNatClampNeg ≤ K.2.2 6 from hq44) ?_
              obtain ⟨s45, hs46, h⟩ := px_let_some h
              rw [← hs46]
              refine px_blk (i' := 101) (L' := [some (.ref 3), some (.int a0), some (.ref 11), some (.int a1), some (.int v36)]) (S' := []) (w' := px_w K (sR s45 3 ((s45.1 3) + (1 : Int32))) t2) (q := []) 6 hM rfl trivial ?_
              obtain ⟨s47, hs48, h⟩ := px_let_some h
              rw [← hs48]
              refine px_blk (i' := 107) (L' := [some (.ref 3), some (.int a0), some (.ref 11), some (.int a1), some (.int v36)]) (S' := []) (w' := px_w K (sR s47 4 ((s47.1 4) + (1 : Int32))) t2) (q := []) 6 hM rfl trivial ?_
              obtain ⟨s49, hs50, h⟩ := px_let_some h
              rw [← hs50]
              cases h
              exact px_E_ret hM rfl rfl rfl trivial
          · rw [if_neg hc11] at h
            cases h
            exact px_E_throw2 hM rfl rfl (by decide) (by decide) rfl rfl
        · rw [if_neg hc8] at h
          cases h
          exact px_E_ret hM rfl rfl rfl trivial
  · cases h
noncomputable def l_Arrays_fill_20_5 (K : px_K) (N : Nat) (n : Nat) (u1 : Int32) (u3 : Int32) (m2 : Int32) (s : px_S) (t : px_W) : Option px_LO := match n with
  | 0 => none
  | n + 1 => (if u3 ≤ m2 then (some (.inl (14, [], s, t))) else (px_gd (vp_in m2 (K.2.2 20)) (px_let (sA s 20 m2.toNatClampNeg u1) (fun s3 => (l_Arrays_fill_20_5 K N n u1 u3 (m2 + (1 : Int32)) s3 t)))))
def a_l_Arrays_fill_20_5 (K : px_K) (u1 : Int32) (u3 : Int32) (z : px_LO) (o : Option Value ⊕ Nat) (w2 : px_W) : Prop := match z with
  | .inr (o', s', t') => o = o' ∧ w2 = px_w K s' t'
  | .inl (14, [], s', t') => px_E px_ET px_P 1 206 14 [none, none, none, none] [] (px_w K s' t') o w2
  | _ => False
set_option maxRecDepth 100000 in
theorem e_l_Arrays_fill_20_5 (K : px_K) (N : Nat) (u1 : Int32) (u3 : Int32) : ∀ (n : Nat) (m2 : Int32) (s : px_S) (t : px_W) (z : px_LO), l_Arrays_fill_20_5 K N n u1 u3 m2 s t = some z → ∀ (o : Option Value ⊕ Nat) (w2 : px_W), a_l_Arrays_fill_20_5 K u1 u3 z o w2 → px_E px_ET px_P 1 206 5 [some (.ref 20), some (.int u1), some (.int m2), some (.int u3)] [] (px_w K s t) o w2 := by
  have hM : px_P[206]? = some pm_Arrays_fill := rfl
  intro n
  induction n with
  | zero => intro m2 s t z h; cases h
  | succ n ih =>
    intro m2 s t z h o w2 ha
    unfold l_Arrays_fill_20_5 at h
    refine px_blkif (c := u3 ≤ m2) (t := 14) (e := 8) (L' := [some (.ref 20), some (.int u1), some (.int m2), some (.int u3)]) (S' := []) (w' := px_w K s t) (q := []) 3 hM rfl trivial (fun hc1 => ?_) (fun hc1 => ?_)
    · rw [if_pos hc1] at h
      cases h
      exact px_E_le (px_leC_L _ _ (by simp [px_leC, px_le1, Value.category])) ha
    · rw [if_neg hc1] at h
      obtain ⟨hq2, h⟩ := px_gd_some h
      refine px_blk (i' := 12) (L' := [some (.ref 20), some (.int u1), some (.int m2), some (.int u3)]) (S' := []) (w' := px_w K (sA s 20 m2.toNatClampNeg u1) t) (q := [vp_in m2 (K.2.2 20)]) 4 hM rfl (show vp_in m2 (K.2.2 20) from hq2) ?_
      obtain ⟨s3, hs4, h⟩ := px_let_some h
      rw [← hs4]
      refine px_blk (i' := 5) (L' := [some (.ref 20), some (.int u1), some (.int (m2 + (1 : Int32))), some (.int u3)]) (S' := []) (w' := px_w K s3 t) (q := []) 2 hM rfl trivial ?_
      exact ih (m2 + (1 : Int32)) s3 t z h o w2 ha
noncomputable def f_Arrays_fill_20 (K : px_K) (N : Nat) (a0 : Int32) (s : px_S) (t : px_W) : Option px_Res :=
  (px_let (Int32.ofNat (K.2.2 20)) (fun v1 => (px_lp (l_Arrays_fill_20_5 K N N a0 v1 (0 : Int32) s t) (fun i3 vs4 s5 t6 => (if i3 = 14 then (px_v0 vs4 (some (.inl none, s5, t6))) else none)) (fun z8 => some z8))))
set_option maxRecDepth 100000 in
theorem e_Arrays_fill_20 (K : px_K) (N : Nat) (a0 : Int32) (s : px_S) (t : px_W) (r : px_Res) (h : f_Arrays_fill_20 K N a0 s t = some r) : px_E px_ET px_P 1 206 0 (px_ent 4 [.ref 20, .int a0]) [] (px_w K s t) r.1 (px_w K r.2.1 r.2.2) := by
  have hM : px_P[206]? = some pm_Arrays_fill := rfl
  unfold f_Arrays_fill_20 at h
  refine px_blk (i' := 5) (L' := [some (.ref 20), some (.int a0), some (.int (0 : Int32)), some (.int (Int32.ofNat (K.2.2 20)))]) (S' := []) (w' := px_w K s t) (q := []) 5 hM rfl trivial ?_
  obtain ⟨v1, hv2, h⟩ := px_let_some h
  rw [← hv2]
  rcases px_lp_some h with ⟨i3, vs4, s5, t6, hl7, h⟩ | ⟨z8, hl7, h⟩
  · by_cases hi9 : i3 = 14
    · subst hi9
      rw [if_pos rfl] at h
      have h9 := px_v0_some h
      clear h
      obtain ⟨rfl, h⟩ := h9
      refine e_l_Arrays_fill_20_5 K N a0 v1 N (0 : Int32) s t _ hl7 _ _ ?_
      show px_E px_ET px_P 1 206 14 [none, none, none, none] [] (px_w K s5 t6) _ _
      cases h
      exact px_E_ret hM rfl rfl rfl trivial
    · rw [if_neg hi9] at h
      cases h
  · cases h
    exact e_l_Arrays_fill_20_5 K N a0 v1 N (0 : Int32) s t _ hl7 _ _ ⟨rfl, rfl⟩
noncomputable def f_D_put_3_20 (K : px_K) (N : Nat) (a0 : Int32) (a1 : Int32) (s : px_S) (t : px_W) : Option px_Res :=
  (px_bi (f_D_has_3 K N a0 s t) (fun v4 s1 t2 => (if v4 = 0 then (some (.inl none, s1, t2)) else (if a1 < 0 then (some (.inl none, s1, t2)) else (if a1 ≤ ((Int32.ofNat (K.2.2 20)) - (16 : Int32)) then (px_let (sQ s1 0 ((s1.2.1 0) + (1 : Int64))) (fun s9 => (if ¬ (lg_cmp (s9.2.1 0) (s9.2.1 1)) = 0 then (if ¬ (s9.1 3) = (64 : Int32) then (px_let (((s9.1 2) + (s9.1 3)) - ((s9.1 2) + (s9.1 3)) / (64 : Int32) * (64 : Int32)) (fun v13 => (px_gd (vp_in v13 (K.2.2 4)) (px_let (sA s9 4 v13.toNatClampNeg a0) (fun s16 => (px_gd (¬ a1 < 0 ∧ ¬ (v13 * (16 : Int32)) < 0 ∧ ¬ (16 : Int32) < 0 ∧ a1.toNatClampNeg + (16 : Int32).toNatClampNeg ≤ K.2.2 20 ∧ (v13 * (16 : Int32)).toNatClampNeg + (16 : Int32).toNatClampNeg ≤ K.2.2 5) (px_let (sF s16 5 (va_cpy (s16.2.2.1 20) (s16.2.2.1 5) a1.toNatClampNeg (v13 * (16 : Int32)).toNatClampNeg (16 : Int32).toNatClampNeg)) (fun s19 => (px_gd (¬ a1 < 0 ∧ ¬ (a0 * (16 : Int32)) < 0 ∧ ¬ (16 : Int32) < 0 ∧ a1.toNatClampNeg + (16 : Int32).toNatClampNeg ≤ K.2.2 20 ∧ (a0 * (16 : Int32)).toNatClampNeg + (16 : Int32).toNatClampNeg ≤ K.2.2 6) (px_let (sF s19 6 (va_cpy (s19.2.2.1 20) (s19.2.2.1 6) a1.toNatClampNeg (a0 * (16 : Int32)).toNatClampNeg (16 : Int32).toNatClampNeg)) (fun s22 => (px_let (sR s22 3 ((s22.1 3) + (1 : Int32))) (fun s24 => (px_let (sR s24 4 ((s24.1 4) + (1 : Int32))) (fun s26 => (some (.inl none, s26, t2))))))))))))))))) else (px_gd ((vp_in (s9.1 2) (K.2.2 4)) ∧ (¬ ((s9.1 2) * (16 : Int32)) < 0 ∧ ¬ (((s9.2.2.1 4) (s9.1 2).toNatClampNeg) * (16 : Int32)) < 0 ∧ ¬ (16 : Int32) < 0 ∧ ((s9.1 2) * (16 : Int32)).toNatClampNeg + (16 : Int32).toNatClampNeg ≤ K.2.2 5 ∧ (((s9.2.2.1 4) (s9.1 2).toNatClampNeg) * (16 : Int32)).toNatClampNeg + (16 : Int32).toNatClampNeg ≤ K.2.2 7)) (px_let (sF s9 7 (va_cpy (s9.2.2.1 5) (s9.2.2.1 7) ((s9.1 2) * (16 : Int32)).toNatClampNeg (((s9.2.2.1 4) (s9.1 2).toNatClampNeg) * (16 : Int32)).toNatClampNeg (16 : Int32).toNatClampNeg)) (fun s30 => (px_let (sR s30 2 (((s30.1 2) + (1 : Int32)) - ((s30.1 2) + (1 : Int32)) / (64 : Int32) * (64 : Int32))) (fun s32 => (px_let (sR s32 3 ((s32.1 3) - (1 : Int32))) (fun s34 => (px_let (((s34.1 2) + (s34.1 3)) - ((s34.1 2) + (s34.1 3)) / (64 : Int32) * (64 : Int32)) (fun v36 => (px_gd (vp_in v36 (K.2.2 4)) (px_let (sA s34 4 v36.toNatClampNeg a0) (fun s39 => (px_gd (¬ a1 < 0 ∧ ¬ (v36 * (16 : Int32)) < 0 ∧ ¬ (16 : Int32) < 0 ∧ a1.toNatClampNeg + (16 : Int32).toNatClampNeg ≤ K.2.2 20 ∧ (v36 * (16 : Int32)).toNatClampNeg + (16 : Int32).toNatClampNeg ≤ K.2.2 5) (px_let (sF s39 5 (va_cpy (s39.2.2.1 20) (s39.2.2.1 5) a1.toNatClampNeg (v36 * (16 : Int32)).toNatClampNeg (16 : Int32).toNatClampNeg)) (fun s42 => (px_gd (¬ a1 < 0 ∧ ¬ (a0 * (16 : Int32)) < 0 ∧ ¬ (16 : Int32) < 0 ∧ a1.toNatClampNeg + (16 : Int32).toNatClampNeg ≤ K.2.2 20 ∧ (a0 * (16 : Int32)).toNatClampNeg + (16 : Int32).toNatClampNeg ≤ K.2.2 6) (px_let (sF s42 6 (va_cpy (s42.2.2.1 20) (s42.2.2.1 6) a1.toNatClampNeg (a0 * (16 : Int32)).toNatClampNeg (16 : Int32).toNatClampNeg)) (fun s45 => (px_let (sR s45 3 ((s45.1 3) + (1 : Int32))) (fun s47 => (px_let (sR s47 4 ((s47.1 4) + (1 : Int32))) (fun s49 => (some (.inl none, s49, t2))))))))))))))))))))))))) else (some (.inr (t2.length + 47), s9, t2 ++ [px_exc 7]))))) else (some (.inl none, s1, t2)))))) (fun x5 s1 t2 => none))
set_option maxRecDepth 100000 in
theorem e_D_put_3_20 (K : px_K) (N : Nat) (a0 : Int32) (a1 : Int32) (s : px_S) (t : px_W) (r : px_Res) (h : f_D_put_3_20 K N a0 a1 s t = some r) : px_E px_ET px_P 9 113 0 (px_ent 5 [.ref 3, .int a0, .ref 20, .int a1]) [] (px_w K s t) r.1 (px_w K r.2.1 r.2.2) := by
  have hM : px_P[113]? = some pm_D_put := rfl
  unfold f_D_put_3_20 at h
  refine px_blk (i' := 2) (L' := [some (.ref 3), some (.int a0), some (.ref 20), some (.int a1), none]) (S' := [.int a0, .ref 3]) (w' := px_w K s t) (q := []) 2 hM rfl trivial ?_
  rcases px_bi_some h with ⟨v4, s1, t2, hk3, h⟩ | ⟨x5, s1, t2, hk3, h⟩
  · refine px_E_call hM rfl rfl rfl rfl (px_E_mono (by decide) (e_D_has_3 K N a0 s t _ hk3)) ?_
    refine px_blkif (c := v4 = 0) (t := 12) (e := 4) (L' := [some (.ref 3), some (.int a0), some (.ref 20), some (.int a1), none]) (S' := []) (w' := px_w K s1 t2) (q := []) 1 hM rfl trivial (fun hc6 => ?_) (fun hc6 => ?_)
    · rw [if_pos hc6] at h
      cases h
      exact px_E_ret hM rfl rfl rfl trivial
    · rw [if_neg hc6] at h
      refine px_blkif (c := a1 < 0) (t := 12) (e := 6) (L' := [some (.ref 3), some (.int a0), some (.ref 20), some (.int a1), none]) (S' := []) (w' := px_w K s1 t2) (q := []) 2 hM rfl trivial (fun hc7 => ?_) (fun hc7 => ?_)
      · rw [if_pos hc7] at h
        cases h
        exact px_E_ret hM rfl rfl rfl trivial
      · rw [if_neg hc7] at h
        refine px_blkif (c := a1 ≤ ((Int32.ofNat (K.2.2 20)) - (16 : Int32))) (t := 13) (e := 12) (L' := [some (.ref 3), some (.int a0), some (.ref 20), some (.int a1), none]) (S' := []) (w' := px_w K s1 t2) (q := []) 6 hM rfl trivial (fun hc8 => ?_) (fun hc8 => ?_)
        · rw [if_pos hc8] at h
          refine px_blk (i' := 20) (L' := [some (.ref 3), some (.int a0), some (.ref 20), some (.int a1), none]) (S' := []) (w' := px_w K (sQ s1 0 ((s1.2.1 0) + (1 : Int64))) t2) (q := []) 7 hM rfl trivial ?_
          obtain ⟨s9, hs10, h⟩ := px_let_some h
          rw [← hs10]
          refine px_blkif (c := ¬ (lg_cmp (s9.2.1 0) (s9.2.1 1)) = 0) (t := 29) (e := 28) (L' := [some (.ref 3), some (.int a0), some (.ref 20), some (.int a1), none]) (S' := []) (w' := px_w K s9 t2) (q := []) 8 hM rfl trivial (fun hc11 => ?_) (fun hc11 => ?_)
          · rw [if_pos hc11] at h
            refine px_blkif (c := ¬ (s9.1 3) = (64 : Int32)) (t := 64) (e := 33) (L' := [some (.ref 3), some (.int a0), some (.ref 20), some (.int a1), none]) (S' := []) (w' := px_w K s9 t2) (q := []) 4 hM rfl trivial (fun hc12 => ?_) (fun hc12 => ?_)
            · rw [if_pos hc12] at h
              refine px_blk (i' := 72) (L' := [some (.ref 3), some (.int a0), some (.ref 20), some (.int a1), some (.int (((s9.1 2) + (s9.1 3)) - ((s9.1 2) + (s9.1 3)) / (64 : Int32) * (64 : Int32)))]) (S' := []) (w' := px_w K s9 t2) (q := [¬ (64 : Int32) = 0]) 8 hM rfl (show ¬ (64 : Int32) = 0 from (by decide)) ?_
              obtain ⟨v13, hv14, h⟩ := px_let_some h
              rw [← hv14]
              obtain ⟨hq15, h⟩ := px_gd_some h
              refine px_blk (i' := 77) (L' := [some (.ref 3), some (.int a0), some (.ref 20), some (.int a1), some (.int v13)]) (S' := []) (w' := px_w K (sA s9 4 v13.toNatClampNeg a0) t2) (q := [vp_in v13 (K.2.2 4)]) 5 hM rfl (show vp_in v13 (K.2.2 4) from hq15) ?_
              obtain ⟨s16, hs17, h⟩ := px_let_some h
              rw [← hs17]
              obtain ⟨hq18, h⟩ := px_gd_some h
              refine px_blk (i' := 86) (L' := [some (.ref 3), some (.int a0), some (.ref 20), some (.int a1), some (.int v13)]) (S' := []) (w' := px_w K (sF s16 5 (va_cpy (s16.2.2.1 20) (s16.2.2.1 5) a1.toNatClampNeg (v13 * (16 : Int32)).toNatClampNeg (16 : Int32).toNatClampNeg)) t2) (q := [¬ a1 < 0 ∧ ¬ (v13 * (16 : Int32)) < 0 ∧ ¬ (16 : Int32) < 0 ∧ a1.toNatClampNeg + (16 : Int32).toNatClampNeg ≤ K.2.2 20 ∧ (v13 * (16 : Int32)).toNatClampNeg + (16 : Int32).toNatClampNeg ≤ K.2.2 5]) 9 hM rfl (show ¬ a1 < 0 ∧ ¬ (v13 * (16 : Int32)) < 0 ∧ ¬ (16 : Int32) < 0 ∧ a1.toNatClampNeg + (16 : Int32).toNatClampNeg ≤ K.2.2 20 ∧ (v13 * (16 : Int32)).toNatClampNeg + (16 : Int32).toNatClampNeg ≤ K.2.2 5 from hq18) ?_
              obtain ⟨s19, hs20, h⟩ := px_let_some h
              rw [← hs20]
              obtain ⟨hq21, h⟩ := px_gd_some h
              refine px_blk (i' := 95) (L' := [some (.ref 3), some (.int a0), some (.ref 20), some (.int a1), some (.int v13)]) (S' := []) (w' := px_w K (sF s19 6 (va_cpy (s19.2.2.1 20) (s19.2.2.1 6) a1.toNatClampNeg (a0 * (16 : Int32)).toNatClampNeg (16 : Int32).toNatClampNeg)) t2) (q := [¬ a1 < 0 ∧ ¬ (a0 * (16 : Int32)) < 0 ∧ ¬ (16 : Int32) < 0 ∧ a1.toNatClampNeg + (16 : Int32).toNatClampNeg ≤ K.2.2 20 ∧ (a0 * (16 : Int32)).toNatClampNeg + (16 : Int32).toNatClampNeg ≤ K.2.2 6]) 9 hM rfl (show ¬ a1 < 0 ∧ ¬ (a0 * (16 : Int32)) < 0 ∧ ¬ (16 : Int32) < 0 ∧ a1.toNatClampNeg + (16 : Int32).toNatClampNeg ≤ K.2.2 20 ∧ (a0 * (16 : Int32)).toNatClampNeg + (16 : Int32).toNatClampNeg ≤ K.2.2 6 from hq21) ?_
              obtain ⟨s22, hs23, h⟩ := px_let_some h
              rw [← hs23]
              refine px_blk (i' := 101) (L' := [some (.ref 3), some (.int a0), some (.ref 20), some (.int a1), some (.int v13)]) (S' := []) (w' := px_w K (sR s22 3 ((s22.1 3) + (1 : Int32))) t2) (q := []) 6 hM rfl trivial ?_
              obtain ⟨s24, hs25, h⟩ := px_let_some h
              rw [← hs25]
              refine px_blk (i' := 107) (L' := [some (.ref 3), some (.int a0), some (.ref 20), some (.int a1), some (.int v13)]) (S' := []) (w' := px_w K (sR s24 4 ((s24.1 4) + (1 : Int32))) t2) (q := []) 6 hM rfl trivial ?_
              obtain ⟨s26, hs27, h⟩ := px_let_some h
              rw [← hs27]
              cases h
              exact px_E_ret hM rfl rfl rfl trivial
            · rw [if_neg hc12] at h
              refine px_blk (i' := 45) (L' := [some (.ref 3), some (.int a0), some (.ref 20), some (.int a1), none]) (S' := [.int (s9.1 2), .ref 4, .ref 7, .int ((s9.1 2) * (16 : Int32)), .ref 5]) (w' := px_w K s9 t2) (q := []) 12 hM rfl trivial ?_
              obtain ⟨⟨hq28, hq29⟩, h⟩ := px_gd_some h
              refine px_blk (i' := 50) (L' := [some (.ref 3), some (.int a0), some (.ref 20), some (.int a1), none]) (S' := []) (w' := px_w K (sF s9 7 (va_cpy (s9.2.2.1 5) (s9.2.2.1 7) ((s9.1 2) * (16 : Int32)).toNatClampNeg (((s9.2.2.1 4) (s9.1 2).toNatClampNeg) * (16 : Int32)).toNatClampNeg (16 : Int32).toNatClampNeg)) t2) (q := [vp_in (s9.1 2) (K.2.2 4), ¬ ((s9.1 2) * (16 : Int32)) < 0 ∧ ¬ (((s9.2.2.1 4) (s9.1 2).toNatClampNeg) * (16 : Int32)) < 0 ∧ ¬ (16 : Int32) < 0 ∧ ((s9.1 2) * (16 : Int32)).toNatClampNeg + (16 : Int32).toNatClampNeg ≤ K.2.2 5 ∧ (((s9.2.2.1 4) (s9.1 2).toNatClampNeg) * (16 : Int32)).toNatClampNeg + (16 : Int32).toNatClampNeg ≤ K.2.2 7]) 5 hM rfl (show (vp_in (s9.1 2) (K.2.2 4)) ∧ (¬ ((s9.1 2) * (16 : Int32)) < 0 ∧ ¬ (((s9.2.2.1 4) (s9.1 2).toNatClampNeg) * (16 : Int32)) < 0 ∧ ¬ (16 : Int32) < 0 ∧ ((s9.1 2) * (16 : Int32)).toNatClampNeg + (16 : Int32).toNatClampNeg ≤ K.2.2 5 ∧ (((s9.2.2.1 4) (s9.1 2).toNatClampNeg) * (16 : Int32)).toNatClampNeg + (16 : Int32).toNatClampNeg ≤ K.2.2 7) from ⟨hq28, hq29⟩) ?_
              obtain ⟨s30, hs31, h⟩ := px_let_some h
              rw [← hs31]
              refine px_blk (i' := 58) (L' := [some (.ref 3), some (.int a0), some (.ref 20), some (.int a1), none]) (S' := []) (w' := px_w K (sR s30 2 (((s30.1 2) + (1 : Int32)) - ((s30.1 2) + (1 : Int32)) / (64 : Int32) * (64 : Int32))) t2) (q := [¬ (64 : Int32) = 0]) 8 hM rfl (show ¬ (64 : Int32) = 0 from (by decide)) ?_
              obtain ⟨s32, hs33, h⟩ := px_let_some h
              rw [← hs33]
              refine px_blk (i' := 64) (L' := [some (.ref 3), some (.int a0), some (.ref 20), some (.int a1), none]) (S' := []) (w' := px_w K (sR s32 3 ((s32.1 3) - (1 : Int32))) t2) (q := []) 6 hM rfl trivial ?_
              obtain ⟨s34, hs35, h⟩ := px_let_some h
              rw [← hs35]
              refine px_blk (i' := 72) (L' := [some (.ref 3), some (.int a0), some (.ref 20), some (.int a1), some (.int (((s34.1 2) + (s34.1 3)) - ((s34.1 2) + (s34.1 3)) / (64 : Int32) * (64 : Int32)))]) (S' := []) (w' := px_w K s34 t2) (q := [¬ (64 : Int32) = 0]) 8 hM rfl (show ¬ (64 : Int32) = 0 from (by decide)) ?_
              obtain ⟨v36, hv37, h⟩ := px_let_some h
              rw [← hv37]
              obtain ⟨hq38, h⟩ := px_gd_some h
              refine px_blk (i' := 77) (L' := [some (.ref 3), some (.int a0), some (.ref 20), some (.int a1), some (.int v36)]) (S' := []) (w' := px_w K (sA s34 4 v36.toNatClampNeg a0) t2) (q := [vp_in v36 (K.2.2 4)]) 5 hM rfl (show vp_in v36 (K.2.2 4) from hq38) ?_
              obtain ⟨s39, hs40, h⟩ := px_let_some h
              rw [← hs40]
              obtain ⟨hq41, h⟩ := px_gd_some h
              refine px_blk (i' := 86) (L' := [some (.ref 3), some (.int a0), some (.ref 20), some (.int a1), some (.int v36)]) (S' := []) (w' := px_w K (sF s39 5 (va_cpy (s39.2.2.1 20) (s39.2.2.1 5) a1.toNatClampNeg (v36 * (16 : Int32)).toNatClampNeg (16 : Int32).toNatClampNeg)) t2) (q := [¬ a1 < 0 ∧ ¬ (v36 * (16 : Int32)) < 0 ∧ ¬ (16 : Int32) < 0 ∧ a1.toNatClampNeg + (16 : Int32).toNatClampNeg ≤ K.2.2 20 ∧ (v36 * (16 : Int32)).toNatClampNeg + (16 : Int32).toNatClampNeg ≤ K.2.2 5]) 9 hM rfl (show ¬ a1 < 0 ∧ ¬ (v36 * (16 : Int32)) < 0 ∧ ¬ (16 : Int32) < 0 ∧ a1.toNatClampNeg + (16 : Int32).toNatClampNeg ≤ K.2.2 20 ∧ (v36 * (16 : Int32)).toNatClampNeg + (16 : Int32).toNatClampNeg ≤ K.2.2 5 from hq41) ?_
              obtain ⟨s42, hs43, h⟩ := px_let_some h
              rw [← hs43]
              obtain ⟨hq44, h⟩ := px_gd_some h
              refine px_blk (i' := 95) (L' := [some (.ref 3), some (.int a0), some (.ref 20), some (.int a1), some (.int v36)]) (S' := []) (w' := px_w K (sF s42 6 (va_cpy (s42.2.2.1 20) (s42.2.2.1 6) a1.toNatClampNeg (a0 * (16 : Int32)).toNatClampNeg (16 : Int32).toNatClampNeg)) t2) (q := [¬ a1 < 0 ∧ ¬ (a0 * (16 : Int32)) < 0 ∧ ¬ (16 : Int32) < 0 ∧ a1.toNatClampNeg + (16 : Int32).toNatClampNeg ≤ K.2.2 20 ∧ (a0 * (16 : Int32)).toNatClampNeg + (16 : Int32).toNatClampNeg ≤ K.2.2 6]) 9 hM rfl (show ¬ a1 < 0 ∧ ¬ (a0 * (16 : Int32)) < 0 ∧ ¬ (16 : Int32) < 0 ∧ a1.toNatClampNeg + (16 : Int32).toNatClampNeg ≤ K.2.2 20 ∧ (a0 * (16 : Int32)).toNatClampNeg + (16 : Int32).toNatClampNeg ≤ K.2.2 6 from hq44) ?_
              obtain ⟨s45, hs46, h⟩ := px_let_some h
              rw [← hs46]
              refine px_blk (i' := 101) (L' := [some (.ref 3), some (.int a0), some (.ref 20), some (.int a1), some (.int v36)]) (S' := []) (w' := px_w K (sR s45 3 ((s45.1 3) + (1 : Int32))) t2) (q := []) 6 hM rfl trivial ?_
              obtain ⟨s47, hs48, h⟩ := px_let_some h
              rw [← hs48]
              refine px_blk (i' := 107) (L' := [some (.ref 3), some (.int a0), some (.ref 20), some (.int a1), some (.int v36)]) (S' := []) (w' := px_w K (sR s47 4 ((s47.1 4) + (1 : Int32))) t2) (q := []) 6 hM rfl trivial ?_
              obtain ⟨s49, hs50, h⟩ := px_let_some h
              rw [← hs50]
              cases h
              exact px_E_ret hM rfl rfl rfl trivial
          · rw [if_neg hc11] at h
            cases h
            exact px_E_throw2 hM rfl rfl (by decide) (by decide) rfl rfl
        · rw [if_neg hc8] at h
          cases h
          exact px_E_ret hM rfl rfl rfl trivial
  · cases h
noncomputable def l_D_flush_3_18 (K : px_K) (N : Nat) (n : Nat) (m1 : Int32) (s : px_S) (t : px_W) : Option px_LO := match n with
  | 0 => none
  | n + 1 => (if (s.1 3) ≤ m1 then (some (.inl (46, [], s, t))) else (px_let (((s.1 2) + m1) - ((s.1 2) + m1) / (64 : Int32) * (64 : Int32)) (fun v2 => (px_gd (vp_in v2 (K.2.2 4)) (px_gd (¬ (v2 * (16 : Int32)) < 0 ∧ ¬ (((s.2.2.1 4) v2.toNatClampNeg) * (16 : Int32)) < 0 ∧ ¬ (16 : Int32) < 0 ∧ (v2 * (16 : Int32)).toNatClampNeg + (16 : Int32).toNatClampNeg ≤ K.2.2 5 ∧ (((s.2.2.1 4) v2.toNatClampNeg) * (16 : Int32)).toNatClampNeg + (16 : Int32).toNatClampNeg ≤ K.2.2 7) (px_let (sF s 7 (va_cpy (s.2.2.1 5) (s.2.2.1 7) (v2 * (16 : Int32)).toNatClampNeg (((s.2.2.1 4) v2.toNatClampNeg) * (16 : Int32)).toNatClampNeg (16 : Int32).toNatClampNeg)) (fun s6 => (l_D_flush_3_18 K N n (m1 + (1 : Int32)) s6 t))))))))
def a_l_D_flush_3_18 (K : px_K) (z : px_LO) (o : Option Value ⊕ Nat) (w2 : px_W) : Prop := match z with
  | .inr (o', s', t') => o = o' ∧ w2 = px_w K s' t'
  | .inl (46, [], s', t') => px_E px_ET px_P 9 114 46 [some (.ref 3), none, none] [] (px_w K s' t') o w2
  | _ => False
set_option maxRecDepth 100000 in
theorem e_l_D_flush_3_18 (K : px_K) (N : Nat) : ∀ (n : Nat) (m1 : Int32) (s : px_S) (t : px_W) (z : px_LO), l_D_flush_3_18 K N n m1 s t = some z → ∀ (o : Option Value ⊕ Nat) (w2 : px_W), a_l_D_flush_3_18 K z o w2 → px_E px_ET px_P 9 114 18 [some (.ref 3), some (.int m1), none] [] (px_w K s t) o w2 := by
  have hM : px_P[114]? = some pm_D_flush := rfl
  intro n
  induction n with
  | zero => intro m1 s t z h; cases h
  | succ n ih =>
    intro m1 s t z h o w2 ha
    unfold l_D_flush_3_18 at h
    refine px_blkif (c := (s.1 3) ≤ m1) (t := 46) (e := 22) (L' := [some (.ref 3), some (.int m1), none]) (S' := []) (w' := px_w K s t) (q := []) 4 hM rfl trivial (fun hc1 => ?_) (fun hc1 => ?_)
    · rw [if_pos hc1] at h
      cases h
      exact px_E_le (px_leC_L _ _ (by simp [px_leC, px_le1, Value.category])) ha
    · rw [if_neg hc1] at h
      refine px_blk (i' := 29) (L' := [some (.ref 3), some (.int m1), some (.int (((s.1 2) + m1) - ((s.1 2) + m1) / (64 : Int32) * (64 : Int32)))]) (S' := []) (w' := px_w K s t) (q := [¬ (64 : Int32) = 0]) 7 hM rfl (show ¬ (64 : Int32) = 0 from (by decide)) ?_
      obtain ⟨v2, hv3, h⟩ := px_let_some h
      rw [← hv3]
      obtain ⟨hq4, h⟩ := px_gd_some h
      refine px_blk (i' := 41) (L' := [some (.ref 3), some (.int m1), some (.int v2)]) (S' := [.int (16 : Int32), .int ((s.2.2.1 4) v2.toNatClampNeg), .ref 7, .int (v2 * (16 : Int32)), .ref 5]) (w' := px_w K s t) (q := [vp_in v2 (K.2.2 4)]) 12 hM rfl (show vp_in v2 (K.2.2 4) from hq4) ?_
      obtain ⟨hq5, h⟩ := px_gd_some h
      refine px_blk (i' := 44) (L' := [some (.ref 3), some (.int m1), some (.int v2)]) (S' := []) (w' := px_w K (sF s 7 (va_cpy (s.2.2.1 5) (s.2.2.1 7) (v2 * (16 : Int32)).toNatClampNeg (((s.2.2.1 4) v2.toNatClampNeg) * (16 : Int32)).toNatClampNeg (16 : Int32).toNatClampNeg)) t) (q := [¬ (v2 * (16 : Int32)) < 0 ∧ ¬ (((s.2.2.1 4) v2.toNatClampNeg) * (16 : Int32)) < 0 ∧ ¬ (16 : Int32) < 0 ∧ (v2 * (16 : Int32)).toNatClampNeg + (16 : Int32).toNatClampNeg ≤ K.2.2 5 ∧ (((s.2.2.1 4) v2.toNatClampNeg) * (16 : Int32)).toNatClampNeg + (16 : Int32).toNatClampNeg ≤ K.2.2 7]) 3 hM rfl (show ¬ (v2 * (16 : Int32)) < 0 ∧ ¬ (((s.2.2.1 4) v2.toNatClampNeg) * (16 : Int32)) < 0 ∧ ¬ (16 : Int32) < 0 ∧ (v2 * (16 : Int32)).toNatClampNeg + (16 : Int32).toNatClampNeg ≤ K.2.2 5 ∧ (((s.2.2.1 4) v2.toNatClampNeg) * (16 : Int32)).toNatClampNeg + (16 : Int32).toNatClampNeg ≤ K.2.2 7 from hq5) ?_
      obtain ⟨s6, hs7, h⟩ := px_let_some h
      rw [← hs7]
      refine px_blk (i' := 18) (L' := [some (.ref 3), some (.int (m1 + (1 : Int32))), some (.int v2)]) (S' := []) (w' := px_w K s6 t) (q := []) 2 hM rfl trivial ?_
      exact px_E_le (px_leC_L _ _ (by simp [px_leC, px_le1, Value.category])) (ih (m1 + (1 : Int32)) s6 t z h o w2 ha)
noncomputable def f_D_flush_3 (K : px_K) (N : Nat) (s : px_S) (t : px_W) : Option px_Res :=
  (px_let (sQ s 0 ((s.2.1 0) + (1 : Int64))) (fun s1 => (if ¬ (lg_cmp (s1.2.1 0) (s1.2.1 1)) = 0 then (px_lp (l_D_flush_3_18 K N N (0 : Int32) s1 t) (fun i4 vs5 s6 t7 => (if i4 = 46 then (px_v0 vs5 (px_let (sR s6 3 (0 : Int32)) (fun s11 => (px_let (sR s11 5 ((s11.1 5) + (1 : Int32))) (fun s13 => (some (.inl none, s13, t7))))))) else none)) (fun z9 => some z9)) else (some (.inr (t.length + 47), s1, t ++ [px_exc 7])))))
set_option maxRecDepth 100000 in
theorem e_D_flush_3 (K : px_K) (N : Nat) (s : px_S) (t : px_W) (r : px_Res) (h : f_D_flush_3 K N s t = some r) : px_E px_ET px_P 9 114 0 (px_ent 3 [.ref 3]) [] (px_w K s t) r.1 (px_w K r.2.1 r.2.2) := by
  have hM : px_P[114]? = some pm_D_flush := rfl
  unfold f_D_flush_3 at h
  refine px_blk (i' := 7) (L' := [some (.ref 3), none, none]) (S' := []) (w' := px_w K (sQ s 0 ((s.2.1 0) + (1 : Int64))) t) (q := []) 7 hM rfl trivial ?_
  obtain ⟨s1, hs2, h⟩ := px_let_some h
  rw [← hs2]
  refine px_blkif (c := ¬ (lg_cmp (s1.2.1 0) (s1.2.1 1)) = 0) (t := 16) (e := 15) (L' := [some (.ref 3), none, none]) (S' := []) (w' := px_w K s1 t) (q := []) 8 hM rfl trivial (fun hc3 => ?_) (fun hc3 => ?_)
  · rw [if_pos hc3] at h
    refine px_blk (i' := 18) (L' := [some (.ref 3), some (.int (0 : Int32)), none]) (S' := []) (w' := px_w K s1 t) (q := []) 2 hM rfl trivial ?_
    rcases px_lp_some h with ⟨i4, vs5, s6, t7, hl8, h⟩ | ⟨z9, hl8, h⟩
    · by_cases hi10 : i4 = 46
      · subst hi10
        rw [if_pos rfl] at h
        have h9 := px_v0_some h
        clear h
        obtain ⟨rfl, h⟩ := h9
        refine e_l_D_flush_3_18 K N N (0 : Int32) s1 t _ hl8 _ _ ?_
        show px_E px_ET px_P 9 114 46 [some (.ref 3), none, none] [] (px_w K s6 t7) _ _
        refine px_blk (i' := 49) (L' := [some (.ref 3), none, none]) (S' := []) (w' := px_w K (sR s6 3 (0 : Int32)) t7) (q := []) 3 hM rfl trivial ?_
        obtain ⟨s11, hs12, h⟩ := px_let_some h
        rw [← hs12]
        refine px_blk (i' := 55) (L' := [some (.ref 3), none, none]) (S' := []) (w' := px_w K (sR s11 5 ((s11.1 5) + (1 : Int32))) t7) (q := []) 6 hM rfl trivial ?_
        obtain ⟨s13, hs14, h⟩ := px_let_some h
        rw [← hs14]
        cases h
        exact px_E_ret hM rfl rfl rfl trivial
      · rw [if_neg hi10] at h
        cases h
    · cases h
      exact e_l_D_flush_3_18 K N N (0 : Int32) s1 t _ hl8 _ _ ⟨rfl, rfl⟩
  · rw [if_neg hc3] at h
    cases h
    exact px_E_throw2 hM rfl rfl (by decide) (by decide) rfl rfl
noncomputable def f_V_setRow_13 (K : px_K) (N : Nat) (a0 : Int32) (a1 : Int32) (a2 : Int32) (s : px_S) (t : px_W) : Option px_Res :=
  (px_bv (f_Arrays_fill_20 K N (0 : Int32) s t) (fun s1 t2 => (px_gd (vp_in (0 : Int32) (K.2.2 20)) (px_let (sA s1 20 (0 : Int32).toNatClampNeg a0) (fun s7 => (px_gd (vp_in (1 : Int32) (K.2.2 20)) (px_let (sA s7 20 (1 : Int32).toNatClampNeg a1) (fun s10 => (px_gd (vp_in (2 : Int32) (K.2.2 20)) (px_let (sA s10 20 (2 : Int32).toNatClampNeg a2) (fun s13 => (some (.inl none, s13, t2)))))))))))) (fun x5 s1 t2 => none))
set_option maxRecDepth 100000 in
theorem e_V_setRow_13 (K : px_K) (N : Nat) (a0 : Int32) (a1 : Int32) (a2 : Int32) (s : px_S) (t : px_W) (r : px_Res) (h : f_V_setRow_13 K N a0 a1 a2 s t = some r) : px_E px_ET px_P 2 184 0 (px_ent 4 [.ref 13, .int a0, .int a1, .int a2]) [] (px_w K s t) r.1 (px_w K r.2.1 r.2.2) := by
  have hM : px_P[184]? = some pm_V_setRow := rfl
  unfold f_V_setRow_13 at h
  refine px_blk (i' := 3) (L' := [some (.ref 13), some (.int a0), some (.int a1), some (.int a2)]) (S' := [.int (0 : Int32), .ref 20]) (w' := px_w K s t) (q := []) 3 hM rfl trivial ?_
  rcases px_bv_some h with ⟨s1, t2, hk3, h⟩ | ⟨x5, s1, t2, hk3, h⟩
  · refine px_E_call hM rfl rfl rfl rfl (px_E_mono (by decide) (e_Arrays_fill_20 K N (0 : Int32) s t _ hk3)) ?_
    obtain ⟨hq6, h⟩ := px_gd_some h
    refine px_blk (i' := 9) (L' := [some (.ref 13), some (.int a0), some (.int a1), some (.int a2)]) (S' := []) (w' := px_w K (sA s1 20 (0 : Int32).toNatClampNeg a0) t2) (q := [vp_in (0 : Int32) (K.2.2 20)]) 5 hM rfl (show vp_in (0 : Int32) (K.2.2 20) from hq6) ?_
    obtain ⟨s7, hs8, h⟩ := px_let_some h
    rw [← hs8]
    obtain ⟨hq9, h⟩ := px_gd_some h
    refine px_blk (i' := 14) (L' := [some (.ref 13), some (.int a0), some (.int a1), some (.int a2)]) (S' := []) (w' := px_w K (sA s7 20 (1 : Int32).toNatClampNeg a1) t2) (q := [vp_in (1 : Int32) (K.2.2 20)]) 5 hM rfl (show vp_in (1 : Int32) (K.2.2 20) from hq9) ?_
    obtain ⟨s10, hs11, h⟩ := px_let_some h
    rw [← hs11]
    obtain ⟨hq12, h⟩ := px_gd_some h
    refine px_blk (i' := 19) (L' := [some (.ref 13), some (.int a0), some (.int a1), some (.int a2)]) (S' := []) (w' := px_w K (sA s10 20 (2 : Int32).toNatClampNeg a2) t2) (q := [vp_in (2 : Int32) (K.2.2 20)]) 5 hM rfl (show vp_in (2 : Int32) (K.2.2 20) from hq12) ?_
    obtain ⟨s13, hs14, h⟩ := px_let_some h
    rw [← hs14]
    cases h
    exact px_E_ret hM rfl rfl rfl trivial
  · cases h
noncomputable def f_S_setLanded_14 (K : px_K) (N : Nat) (a0 : Int32) (s : px_S) (t : px_W) : Option px_Res :=
  (px_gd (vp_in a0 (K.2.2 15)) (px_let (sA s 15 a0.toNatClampNeg (1 : Int32)) (fun s2 => (px_gd (vp_in a0 (K.2.2 17)) (px_let (sA s2 17 a0.toNatClampNeg (0 : Int32)) (fun s5 => (px_gd (vp_in a0 (K.2.2 16)) (px_bi (f_S_newest_14 K N ((s5.2.2.1 16) a0.toNatClampNeg) s5 t) (fun v11 s8 t9 => (if v11 < 0 then (some (.inl none, s8, t9)) else (px_gd (vp_in v11 (K.2.2 15)) (if ¬ ((s8.2.2.1 15) v11.toNatClampNeg) = (2 : Int32) then (some (.inl none, s8, t9)) else (px_bv (f_S_free_14 K N a0 s8 t9) (fun s16 t17 => (some (.inl none, s16, t17))) (fun x20 s16 t17 => none)))))) (fun x12 s8 t9 => none)))))))))
set_option maxRecDepth 100000 in
theorem e_S_setLanded_14 (K : px_K) (N : Nat) (a0 : Int32) (s : px_S) (t : px_W) (r : px_Res) (h : f_S_setLanded_14 K N a0 s t = some r) : px_E px_ET px_P 2 130 0 (px_ent 3 [.ref 14, .int a0]) [] (px_w K s t) r.1 (px_w K r.2.1 r.2.2) := by
  have hM : px_P[130]? = some pm_S_setLanded := rfl
  unfold f_S_setLanded_14 at h
  obtain ⟨hq1, h⟩ := px_gd_some h
  refine px_blk (i' := 5) (L' := [some (.ref 14), some (.int a0), none]) (S' := []) (w' := px_w K (sA s 15 a0.toNatClampNeg (1 : Int32)) t) (q := [vp_in a0 (K.2.2 15)]) 5 hM rfl (show vp_in a0 (K.2.2 15) from hq1) ?_
  obtain ⟨s2, hs3, h⟩ := px_let_some h
  rw [← hs3]
  obtain ⟨hq4, h⟩ := px_gd_some h
  refine px_blk (i' := 10) (L' := [some (.ref 14), some (.int a0), none]) (S' := []) (w' := px_w K (sA s2 17 a0.toNatClampNeg (0 : Int32)) t) (q := [vp_in a0 (K.2.2 17)]) 5 hM rfl (show vp_in a0 (K.2.2 17) from hq4) ?_
  obtain ⟨s5, hs6, h⟩ := px_let_some h
  rw [← hs6]
  obtain ⟨hq7, h⟩ := px_gd_some h
  refine px_blk (i' := 15) (L' := [some (.ref 14), some (.int a0), none]) (S' := [.int ((s5.2.2.1 16) a0.toNatClampNeg), .ref 14]) (w' := px_w K s5 t) (q := [vp_in a0 (K.2.2 16)]) 5 hM rfl (show vp_in a0 (K.2.2 16) from hq7) ?_
  rcases px_bi_some h with ⟨v11, s8, t9, hk10, h⟩ | ⟨x12, s8, t9, hk10, h⟩
  · refine px_E_call hM rfl rfl rfl rfl (px_E_mono (by decide) (e_S_newest_14 K N ((s5.2.2.1 16) a0.toNatClampNeg) s5 t _ hk10)) ?_
    refine px_blkif (c := v11 < 0) (t := 28) (e := 19) (L' := [some (.ref 14), some (.int a0), some (.int v11)]) (S' := []) (w' := px_w K s8 t9) (q := []) 3 hM rfl trivial (fun hc13 => ?_) (fun hc13 => ?_)
    · rw [if_pos hc13] at h
      cases h
      exact px_E_ret hM rfl rfl rfl trivial
    · rw [if_neg hc13] at h
      obtain ⟨hq14, h⟩ := px_gd_some h
      refine px_blkif (c := ¬ ((s8.2.2.1 15) v11.toNatClampNeg) = (2 : Int32)) (t := 28) (e := 25) (L' := [some (.ref 14), some (.int a0), some (.int v11)]) (S' := []) (w' := px_w K s8 t9) (q := [vp_in v11 (K.2.2 15)]) 6 hM rfl (show vp_in v11 (K.2.2 15) from hq14) (fun hc15 => ?_) (fun hc15 => ?_)
      · rw [if_pos hc15] at h
        cases h
        exact px_E_ret hM rfl rfl rfl trivial
      · rw [if_neg hc15] at h
        refine px_blk (i' := 27) (L' := [some (.ref 14), some (.int a0), some (.int v11)]) (S' := [.int a0, .ref 14]) (w' := px_w K s8 t9) (q := []) 2 hM rfl trivial ?_
        rcases px_bv_some h with ⟨s16, t17, hk18, h⟩ | ⟨x20, s16, t17, hk18, h⟩
        · refine px_E_call hM rfl rfl rfl rfl (px_E_mono (by decide) (e_S_free_14 K N a0 s8 t9 _ hk18)) ?_
          cases h
          exact px_E_ret hM rfl rfl rfl trivial
        · cases h
  · cases h
noncomputable def l_V_landOldest_13_26 (K : px_K) (N : Nat) (n : Nat) (u1 : Int32) (u2 : Int32) (m3 : Int32) (s : px_S) (t : px_W) : Option px_LO := match n with
  | 0 => none
  | n + 1 => (if u2 ≤ m3 then (some (.inl (48, [], s, t))) else (px_gd (vp_in m3 (K.2.2 21)) (px_bv (f_D_put_3_11 K N ((3 : Int32) + m3) (((50 : Int32) + ((s.2.2.1 21) m3.toNatClampNeg)) * (16 : Int32)) s t) (fun s3 t4 => (l_V_landOldest_13_26 K N n u1 u2 (m3 + (1 : Int32)) s3 t4)) (fun x7 s3 t4 => (some (.inr (.inr x7, s3, t4)))))))
def a_l_V_landOldest_13_26 (K : px_K) (u1 : Int32) (u2 : Int32) (z : px_LO) (o : Option Value ⊕ Nat) (w2 : px_W) : Prop := match z with
  | .inr (o', s', t') => o = o' ∧ w2 = px_w K s' t'
  | .inl (48, [], s', t') => px_E px_ET px_P 10 192 48 [some (.ref 13), some (.int u1), some (.int u2), none] [] (px_w K s' t') o w2
  | _ => False
noncomputable def l_V_landOldest_13_54 (K : px_K) (N : Nat) (n : Nat) (u1 : Int32) (u2 : Int32) (m3 : Int32) (s : px_S) (t : px_W) : Option px_LO := match n with
  | 0 => none
  | n + 1 => (if u2 ≤ m3 then (some (.inl (71, [], s, t))) else (px_gd ((vp_in m3 (K.2.2 21)) ∧ (vp_in ((s.2.2.1 21) m3.toNatClampNeg) (K.2.2 16)) ∧ (vp_in m3 (K.2.2 20))) (px_let (sA s 20 m3.toNatClampNeg ((s.2.2.1 16) ((s.2.2.1 21) m3.toNatClampNeg).toNatClampNeg)) (fun s5 => (l_V_landOldest_13_54 K N n u1 u2 (m3 + (1 : Int32)) s5 t)))))
def a_l_V_landOldest_13_54 (K : px_K) (u1 : Int32) (u2 : Int32) (z : px_LO) (o : Option Value ⊕ Nat) (w2 : px_W) : Prop := match z with
  | .inr (o', s', t') => o = o' ∧ w2 = px_w K s' t'
  | .inl (71, [], s', t') => px_E px_ET px_P 10 192 71 [some (.ref 13), some (.int u1), some (.int u2), none] [] (px_w K s' t') o w2
  | _ => False
noncomputable def l_V_landOldest_13_98 (K : px_K) (N : Nat) (n : Nat) (u1 : Int32) (u2 : Int32) (m3 : Int32) (s : px_S) (t : px_W) : Option px_LO := match n with
  | 0 => none
  | n + 1 => (if u2 ≤ m3 then (some (.inl (127, [], s, t))) else (px_gd ((vp_in m3 (K.2.2 21)) ∧ (vp_in ((s.2.2.1 21) m3.toNatClampNeg) (K.2.2 16))) (px_gd (vp_in m3 (K.2.2 21)) (px_bv (f_D_put_3_11 K N ((19 : Int32) + ((s.2.2.1 16) ((s.2.2.1 21) m3.toNatClampNeg).toNatClampNeg)) (((50 : Int32) + ((s.2.2.1 21) m3.toNatClampNeg)) * (16 : Int32)) s t) (fun s5 t6 => (l_V_landOldest_13_98 K N n u1 u2 (m3 + (1 : Int32)) s5 t6)) (fun x9 s5 t6 => (some (.inr (.inr x9, s5, t6))))))))
def a_l_V_landOldest_13_98 (K : px_K) (u1 : Int32) (u2 : Int32) (z : px_LO) (o : Option Value ⊕ Nat) (w2 : px_W) : Prop := match z with
  | .inr (o', s', t') => o = o' ∧ w2 = px_w K s' t'
  | .inl (127, [], s', t') => px_E px_ET px_P 10 192 127 [some (.ref 13), some (.int u1), some (.int u2), none] [] (px_w K s' t') o w2
  | _ => False
noncomputable def l_V_landOldest_13_147 (K : px_K) (N : Nat) (n : Nat) (u1 : Int32) (u2 : Int32) (m3 : Int32) (s : px_S) (t : px_W) : Option px_LO := match n with
  | 0 => none
  | n + 1 => (if u2 ≤ m3 then (some (.inl (159, [], s, t))) else (px_gd (vp_in m3 (K.2.2 21)) (px_bv (f_S_setLanded_14 K N ((s.2.2.1 21) m3.toNatClampNeg) s t) (fun s3 t4 => (l_V_landOldest_13_147 K N n u1 u2 (m3 + (1 : Int32)) s3 t4)) (fun x7 s3 t4 => none))))
def a_l_V_landOldest_13_147 (K : px_K) (u1 : Int32) (u2 : Int32) (z : px_LO) (o : Option Value ⊕ Nat) (w2 : px_W) : Prop := match z with
  | .inr (o', s', t') => o = o' ∧ w2 = px_w K s' t'
  | .inl (159, [], s', t') => px_E px_ET px_P 10 192 159 [none, some (.int u1), none, none] [] (px_w K s' t') o w2
  | _ => False
set_option maxRecDepth 100000 in
theorem e_l_V_landOldest_13_26 (K : px_K) (N : Nat) (u1 : Int32) (u2 : Int32) : ∀ (n : Nat) (m3 : Int32) (s : px_S) (t : px_W) (z : px_LO), l_V_landOldest_13_26 K N n u1 u2 m3 s t = some z → ∀ (o : Option Value ⊕ Nat) (w2 : px_W), a_l_V_landOldest_13_26 K u1 u2 z o w2 → px_E px_ET px_P 10 192 26 [some (.ref 13), some (.int u1), some (.int u2), some (.int m3)] [] (px_w K s t) o w2 := by
  have hM : px_P[192]? = some pm_V_landOldest := rfl
  intro n
  induction n with
  | zero => intro m3 s t z h; cases h
  | succ n ih =>
    intro m3 s t z h o w2 ha
    unfold l_V_landOldest_13_26 at h
    refine px_blkif (c := u2 ≤ m3) (t := 48) (e := 29) (L' := [some (.ref 13), some (.int u1), some (.int u2), some (.int m3)]) (S' := []) (w' := px_w K s t) (q := []) 3 hM rfl trivial (fun hc1 => ?_) (fun hc1 => ?_)
    · rw [if_pos hc1] at h
      cases h
      exact px_E_le (px_leC_L _ _ (by simp [px_leC, px_le1, Value.category])) ha
    · rw [if_neg hc1] at h
      refine px_blk (i' := 41) (L' := [some (.ref 13), some (.int u1), some (.int u2), some (.int m3)]) (S' := [.int m3, .ref 21, .int (50 : Int32), .ref 11, .int ((3 : Int32) + m3), .ref 3]) (w' := px_w K s t) (q := []) 12 hM rfl trivial ?_
      obtain ⟨hq2, h⟩ := px_gd_some h
      refine px_blk (i' := 45) (L' := [some (.ref 13), some (.int u1), some (.int u2), some (.int m3)]) (S' := [.int (((50 : Int32) + ((s.2.2.1 21) m3.toNatClampNeg)) * (16 : Int32)), .ref 11, .int ((3 : Int32) + m3), .ref 3]) (w' := px_w K s t) (q := [vp_in m3 (K.2.2 21)]) 4 hM rfl (show vp_in m3 (K.2.2 21) from hq2) ?_
      rcases px_bv_some h with ⟨s3, t4, hk5, h⟩ | ⟨x7, s3, t4, hk5, h⟩
      · refine px_E_call hM rfl rfl rfl rfl (px_E_mono (by decide) (e_D_put_3_11 K N ((3 : Int32) + m3) (((50 : Int32) + ((s.2.2.1 21) m3.toNatClampNeg)) * (16 : Int32)) s t _ hk5)) ?_
        refine px_blk (i' := 26) (L' := [some (.ref 13), some (.int u1), some (.int u2), some (.int (m3 + (1 : Int32)))]) (S' := []) (w' := px_w K s3 t4) (q := []) 2 hM rfl trivial ?_
        exact ih (m3 + (1 : Int32)) s3 t4 z h o w2 ha
      · cases h
        obtain ⟨rfl, rfl⟩ := ha
        exact px_E_callT hM rfl rfl rfl rfl (px_E_mono (by decide) (e_D_put_3_11 K N ((3 : Int32) + m3) (((50 : Int32) + ((s.2.2.1 21) m3.toNatClampNeg)) * (16 : Int32)) s t _ hk5)) rfl
set_option maxRecDepth 100000 in
theorem e_l_V_landOldest_13_54 (K : px_K) (N : Nat) (u1 : Int32) (u2 : Int32) : ∀ (n : Nat) (m3 : Int32) (s : px_S) (t : px_W) (z : px_LO), l_V_landOldest_13_54 K N n u1 u2 m3 s t = some z → ∀ (o : Option Value ⊕ Nat) (w2 : px_W), a_l_V_landOldest_13_54 K u1 u2 z o w2 → px_E px_ET px_P 10 192 54 [some (.ref 13), some (.int u1), some (.int u2), some (.int m3)] [] (px_w K s t) o w2 := by
  have hM : px_P[192]? = some pm_V_landOldest := rfl
  intro n
  induction n with
  | zero => intro m3 s t z h; cases h
  | succ n ih =>
    intro m3 s t z h o w2 ha
    unfold l_V_landOldest_13_54 at h
    refine px_blkif (c := u2 ≤ m3) (t := 71) (e := 57) (L' := [some (.ref 13), some (.int u1), some (.int u2), some (.int m3)]) (S' := []) (w' := px_w K s t) (q := []) 3 hM rfl trivial (fun hc1 => ?_) (fun hc1 => ?_)
    · rw [if_pos hc1] at h
      cases h
      exact px_E_le (px_leC_L _ _ (by simp [px_leC, px_le1, Value.category])) ha
    · rw [if_neg hc1] at h
      obtain ⟨⟨hq2, hq3, hq4⟩, h⟩ := px_gd_some h
      refine px_blk (i' := 69) (L' := [some (.ref 13), some (.int u1), some (.int u2), some (.int m3)]) (S' := []) (w' := px_w K (sA s 20 m3.toNatClampNeg ((s.2.2.1 16) ((s.2.2.1 21) m3.toNatClampNeg).toNatClampNeg)) t) (q := [vp_in m3 (K.2.2 21), vp_in ((s.2.2.1 21) m3.toNatClampNeg) (K.2.2 16), vp_in m3 (K.2.2 20)]) 12 hM rfl (show (vp_in m3 (K.2.2 21)) ∧ (vp_in ((s.2.2.1 21) m3.toNatClampNeg) (K.2.2 16)) ∧ (vp_in m3 (K.2.2 20)) from ⟨hq2, hq3, hq4⟩) ?_
      obtain ⟨s5, hs6, h⟩ := px_let_some h
      rw [← hs6]
      refine px_blk (i' := 54) (L' := [some (.ref 13), some (.int u1), some (.int u2), some (.int (m3 + (1 : Int32)))]) (S' := []) (w' := px_w K s5 t) (q := []) 2 hM rfl trivial ?_
      exact ih (m3 + (1 : Int32)) s5 t z h o w2 ha
set_option maxRecDepth 100000 in
theorem e_l_V_landOldest_13_98 (K : px_K) (N : Nat) (u1 : Int32) (u2 : Int32) : ∀ (n : Nat) (m3 : Int32) (s : px_S) (t : px_W) (z : px_LO), l_V_landOldest_13_98 K N n u1 u2 m3 s t = some z → ∀ (o : Option Value ⊕ Nat) (w2 : px_W), a_l_V_landOldest_13_98 K u1 u2 z o w2 → px_E px_ET px_P 10 192 98 [some (.ref 13), some (.int u1), some (.int u2), some (.int m3)] [] (px_w K s t) o w2 := by
  have hM : px_P[192]? = some pm_V_landOldest := rfl
  intro n
  induction n with
  | zero => intro m3 s t z h; cases h
  | succ n ih =>
    intro m3 s t z h o w2 ha
    unfold l_V_landOldest_13_98 at h
    refine px_blkif (c := u2 ≤ m3) (t := 127) (e := 101) (L' := [some (.ref 13), some (.int u1), some (.int u2), some (.int m3)]) (S' := []) (w' := px_w K s t) (q := []) 3 hM rfl trivial (fun hc1 => ?_) (fun hc1 => ?_)
    · rw [if_pos hc1] at h
      cases h
      exact px_E_le (px_leC_L _ _ (by simp [px_leC, px_le1, Value.category])) ha
    · rw [if_neg hc1] at h
      obtain ⟨⟨hq2, hq3⟩, h⟩ := px_gd_some h
      refine px_blk (i' := 113) (L' := [some (.ref 13), some (.int u1), some (.int u2), some (.int m3)]) (S' := [.int ((19 : Int32) + ((s.2.2.1 16) ((s.2.2.1 21) m3.toNatClampNeg).toNatClampNeg)), .ref 3]) (w' := px_w K s t) (q := [vp_in m3 (K.2.2 21), vp_in ((s.2.2.1 21) m3.toNatClampNeg) (K.2.2 16)]) 12 hM rfl (show (vp_in m3 (K.2.2 21)) ∧ (vp_in ((s.2.2.1 21) m3.toNatClampNeg) (K.2.2 16)) from ⟨hq2, hq3⟩) ?_
      obtain ⟨hq4, h⟩ := px_gd_some h
      refine px_blk (i' := 124) (L' := [some (.ref 13), some (.int u1), some (.int u2), some (.int m3)]) (S' := [.int (((50 : Int32) + ((s.2.2.1 21) m3.toNatClampNeg)) * (16 : Int32)), .ref 11, .int ((19 : Int32) + ((s.2.2.1 16) ((s.2.2.1 21) m3.toNatClampNeg).toNatClampNeg)), .ref 3]) (w' := px_w K s t) (q := [vp_in m3 (K.2.2 21)]) 11 hM rfl (show vp_in m3 (K.2.2 21) from hq4) ?_
      rcases px_bv_some h with ⟨s5, t6, hk7, h⟩ | ⟨x9, s5, t6, hk7, h⟩
      · refine px_E_call hM rfl rfl rfl rfl (px_E_mono (by decide) (e_D_put_3_11 K N ((19 : Int32) + ((s.2.2.1 16) ((s.2.2.1 21) m3.toNatClampNeg).toNatClampNeg)) (((50 : Int32) + ((s.2.2.1 21) m3.toNatClampNeg)) * (16 : Int32)) s t _ hk7)) ?_
        refine px_blk (i' := 98) (L' := [some (.ref 13), some (.int u1), some (.int u2), some (.int (m3 + (1 : Int32)))]) (S' := []) (w' := px_w K s5 t6) (q := []) 2 hM rfl trivial ?_
        exact ih (m3 + (1 : Int32)) s5 t6 z h o w2 ha
      · cases h
        obtain ⟨rfl, rfl⟩ := ha
        exact px_E_callT hM rfl rfl rfl rfl (px_E_mono (by decide) (e_D_put_3_11 K N ((19 : Int32) + ((s.2.2.1 16) ((s.2.2.1 21) m3.toNatClampNeg).toNatClampNeg)) (((50 : Int32) + ((s.2.2.1 21) m3.toNatClampNeg)) * (16 : Int32)) s t _ hk7)) rfl
set_option maxRecDepth 100000 in
theorem e_l_V_landOldest_13_147 (K : px_K) (N : Nat) (u1 : Int32) (u2 : Int32) : ∀ (n : Nat) (m3 : Int32) (s : px_S) (t : px_W) (z : px_LO), l_V_landOldest_13_147 K N n u1 u2 m3 s t = some z → ∀ (o : Option Value ⊕ Nat) (w2 : px_W), a_l_V_landOldest_13_147 K u1 u2 z o w2 → px_E px_ET px_P 10 192 147 [some (.ref 13), some (.int u1), some (.int u2), some (.int m3)] [] (px_w K s t) o w2 := by
  have hM : px_P[192]? = some pm_V_landOldest := rfl
  intro n
  induction n with
  | zero => intro m3 s t z h; cases h
  | succ n ih =>
    intro m3 s t z h o w2 ha
    unfold l_V_landOldest_13_147 at h
    refine px_blkif (c := u2 ≤ m3) (t := 159) (e := 150) (L' := [some (.ref 13), some (.int u1), some (.int u2), some (.int m3)]) (S' := []) (w' := px_w K s t) (q := []) 3 hM rfl trivial (fun hc1 => ?_) (fun hc1 => ?_)
    · rw [if_pos hc1] at h
      cases h
      exact px_E_le (px_leC_L _ _ (by simp [px_leC, px_le1, Value.category])) ha
    · rw [if_neg hc1] at h
      obtain ⟨hq2, h⟩ := px_gd_some h
      refine px_blk (i' := 156) (L' := [some (.ref 13), some (.int u1), some (.int u2), some (.int m3)]) (S' := [.int ((s.2.2.1 21) m3.toNatClampNeg), .ref 14]) (w' := px_w K s t) (q := [vp_in m3 (K.2.2 21)]) 6 hM rfl (show vp_in m3 (K.2.2 21) from hq2) ?_
      rcases px_bv_some h with ⟨s3, t4, hk5, h⟩ | ⟨x7, s3, t4, hk5, h⟩
      · refine px_E_call hM rfl rfl rfl rfl (px_E_mono (by decide) (e_S_setLanded_14 K N ((s.2.2.1 21) m3.toNatClampNeg) s t _ hk5)) ?_
        refine px_blk (i' := 147) (L' := [some (.ref 13), some (.int u1), some (.int u2), some (.int (m3 + (1 : Int32)))]) (S' := []) (w' := px_w K s3 t4) (q := []) 2 hM rfl trivial ?_
        exact ih (m3 + (1 : Int32)) s3 t4 z h o w2 ha
      · cases h
noncomputable def f_V_landOldest_13 (K : px_K) (N : Nat) (s : px_S) (t : px_W) : Option px_Res :=
  (px_bi (f_V_landed_13 K N s t) (fun v4 s1 t2 => (if (v4 + (1 : Int32)) < (s1.1 16) then (px_bi (f_S_gather_14_21 K N (v4 + (1 : Int32)) s1 t2) (fun v10 s7 t8 => (px_bv (f_S_sortByBlock_14_21 K N v10 s7 t8) (fun s12 t13 => (px_lp (l_V_landOldest_13_26 K N N (v4 + (1 : Int32)) v10 (0 : Int32) s12 t13) (fun i17 vs18 s19 t20 => (if i17 = 48 then (px_v0 vs18 (px_bv (f_Arrays_fill_20 K N (0 : Int32) s19 t20) (fun s24 t25 => (px_lp (l_V_landOldest_13_54 K N N (v4 + (1 : Int32)) v10 (0 : Int32) s24 t25) (fun i29 vs30 s31 t32 => (if i29 = 71 then (px_v0 vs30 (px_bv (f_D_put_3_20 K N (2 : Int32) (0 : Int32) s31 t32) (fun s36 t37 => (px_bv (f_D_flush_3 K N s36 t37) (fun s41 t42 => (px_bv (f_V_setRow_13 K N (1 : Int32) (v4 + (1 : Int32)) v10 s41 t42) (fun s46 t47 => (px_bv (f_D_put_3_20 K N (1 : Int32) (0 : Int32) s46 t47) (fun s51 t52 => (px_bv (f_D_flush_3 K N s51 t52) (fun s56 t57 => (px_lp (l_V_landOldest_13_98 K N N (v4 + (1 : Int32)) v10 (0 : Int32) s56 t57) (fun i61 vs62 s63 t64 => (if i61 = 127 then (px_v0 vs62 (px_bv (f_D_flush_3 K N s63 t64) (fun s68 t69 => (px_bv (f_V_setRow_13 K N (0 : Int32) (v4 + (1 : Int32)) (0 : Int32) s68 t69) (fun s73 t74 => (px_bv (f_D_put_3_20 K N (1 : Int32) (0 : Int32) s73 t74) (fun s78 t79 => (px_bv (f_D_flush_3 K N s78 t79) (fun s83 t84 => (px_lp (l_V_landOldest_13_147 K N N (v4 + (1 : Int32)) v10 (0 : Int32) s83 t84) (fun i88 vs89 s90 t91 => (if i88 = 159 then (px_v0 vs89 (some (.inl (some (.int (v4 + (1 : Int32)))), s90, t91))) else none)) (fun z93 => some z93))) (fun x87 s83 t84 => (some (.inr x87, s83, t84))))) (fun x82 s78 t79 => (some (.inr x82, s78, t79))))) (fun x77 s73 t74 => none))) (fun x72 s68 t69 => (some (.inr x72, s68, t69))))) else none)) (fun z66 => some z66))) (fun x60 s56 t57 => (some (.inr x60, s56, t57))))) (fun x55 s51 t52 => (some (.inr x55, s51, t52))))) (fun x50 s46 t47 => none))) (fun x45 s41 t42 => (some (.inr x45, s41, t42))))) (fun x40 s36 t37 => (some (.inr x40, s36, t37))))) else none)) (fun z34 => some z34))) (fun x28 s24 t25 => none))) else none)) (fun z22 => some z22))) (fun x16 s12 t13 => none))) (fun x11 s7 t8 => none)) else (some (.inl (some (.int (0 : Int32))), s1, t2)))) (fun x5 s1 t2 => none))
set_option maxRecDepth 100000 in
theorem e_V_landOldest_13 (K : px_K) (N : Nat) (s : px_S) (t : px_W) (r : px_Res) (h : f_V_landOldest_13 K N s t = some r) : px_E px_ET px_P 10 192 0 (px_ent 4 [.ref 13]) [] (px_w K s t) r.1 (px_w K r.2.1 r.2.2) := by
  have hM : px_P[192]? = some pm_V_landOldest := rfl
  unfold f_V_landOldest_13 at h
  refine px_blk (i' := 1) (L' := [some (.ref 13), none, none, none]) (S' := [.ref 13]) (w' := px_w K s t) (q := []) 1 hM rfl trivial ?_
  rcases px_bi_some h with ⟨v4, s1, t2, hk3, h⟩ | ⟨x5, s1, t2, hk3, h⟩
  · refine px_E_call hM rfl rfl rfl rfl (px_E_mono (by decide) (e_V_landed_13 K N s t _ hk3)) ?_
    refine px_blkif (c := (v4 + (1 : Int32)) < (s1.1 16)) (t := 11) (e := 9) (L' := [some (.ref 13), some (.int (v4 + (1 : Int32))), none, none]) (S' := []) (w' := px_w K s1 t2) (q := []) 7 hM rfl trivial (fun hc6 => ?_) (fun hc6 => ?_)
    · rw [if_pos hc6] at h
      refine px_blk (i' := 16) (L' := [some (.ref 13), some (.int (v4 + (1 : Int32))), none, none]) (S' := [.ref 21, .int (v4 + (1 : Int32)), .ref 14]) (w' := px_w K s1 t2) (q := []) 5 hM rfl trivial ?_
      rcases px_bi_some h with ⟨v10, s7, t8, hk9, h⟩ | ⟨x11, s7, t8, hk9, h⟩
      · refine px_E_call hM rfl rfl rfl rfl (px_E_mono (by decide) (e_S_gather_14_21 K N (v4 + (1 : Int32)) s1 t2 _ hk9)) ?_
        refine px_blk (i' := 23) (L' := [some (.ref 13), some (.int (v4 + (1 : Int32))), some (.int v10), none]) (S' := [.int v10, .ref 21, .ref 14]) (w' := px_w K s7 t8) (q := []) 6 hM rfl trivial ?_
        rcases px_bv_some h with ⟨s12, t13, hk14, h⟩ | ⟨x16, s12, t13, hk14, h⟩
        · refine px_E_call hM rfl rfl rfl rfl (px_E_mono (by decide) (e_S_sortByBlock_14_21 K N v10 s7 t8 _ hk14)) ?_
          refine px_blk (i' := 26) (L' := [some (.ref 13), some (.int (v4 + (1 : Int32))), some (.int v10), some (.int (0 : Int32))]) (S' := []) (w' := px_w K s12 t13) (q := []) 2 hM rfl trivial ?_
          rcases px_lp_some h with ⟨i17, vs18, s19, t20, hl21, h⟩ | ⟨z22, hl21, h⟩
          · by_cases hi23 : i17 = 48
            · subst hi23
              rw [if_pos rfl] at h
              have h9 := px_v0_some h
              clear h
              obtain ⟨rfl, h⟩ := h9
              refine e_l_V_landOldest_13_26 K N (v4 + (1 : Int32)) v10 N (0 : Int32) s12 t13 _ hl21 _ _ ?_
              show px_E px_ET px_P 10 192 48 [some (.ref 13), some (.int (v4 + (1 : Int32))), some (.int v10), none] [] (px_w K s19 t20) _ _
              refine px_blk (i' := 51) (L' := [some (.ref 13), some (.int (v4 + (1 : Int32))), some (.int v10), none]) (S' := [.int (0 : Int32), .ref 20]) (w' := px_w K s19 t20) (q := []) 3 hM rfl trivial ?_
              rcases px_bv_some h with ⟨s24, t25, hk26, h⟩ | ⟨x28, s24, t25, hk26, h⟩
              · refine px_E_call hM rfl rfl rfl rfl (px_E_mono (by decide) (e_Arrays_fill_20 K N (0 : Int32) s19 t20 _ hk26)) ?_
                refine px_blk (i' := 54) (L' := [some (.ref 13), some (.int (v4 + (1 : Int32))), some (.int v10), some (.int (0 : Int32))]) (S' := []) (w' := px_w K s24 t25) (q := []) 2 hM rfl trivial ?_
                rcases px_lp_some h with ⟨i29, vs30, s31, t32, hl33, h⟩ | ⟨z34, hl33, h⟩
                · by_cases hi35 : i29 = 71
                  · subst hi35
                    rw [if_pos rfl] at h
                    have h9 := px_v0_some h
                    clear h
                    obtain ⟨rfl, h⟩ := h9
                    refine e_l_V_landOldest_13_54 K N (v4 + (1 : Int32)) v10 N (0 : Int32) s24 t25 _ hl33 _ _ ?_
                    show px_E px_ET px_P 10 192 71 [some (.ref 13), some (.int (v4 + (1 : Int32))), some (.int v10), none] [] (px_w K s31 t32) _ _
                    refine px_blk (i' := 77) (L' := [some (.ref 13), some (.int (v4 + (1 : Int32))), some (.int v10), none]) (S' := [.int (0 : Int32), .ref 20, .int (2 : Int32), .ref 3]) (w' := px_w K s31 t32) (q := []) 6 hM rfl trivial ?_
                    rcases px_bv_some h with ⟨s36, t37, hk38, h⟩ | ⟨x40, s36, t37, hk38, h⟩
                    · refine px_E_call hM rfl rfl rfl rfl (px_E_mono (by decide) (e_D_put_3_20 K N (2 : Int32) (0 : Int32) s31 t32 _ hk38)) ?_
                      refine px_blk (i' := 80) (L' := [some (.ref 13), some (.int (v4 + (1 : Int32))), some (.int v10), none]) (S' := [.ref 3]) (w' := px_w K s36 t37) (q := []) 2 hM rfl trivial ?_
                      rcases px_bv_some h with ⟨s41, t42, hk43, h⟩ | ⟨x45, s41, t42, hk43, h⟩
                      · refine px_E_call hM rfl rfl rfl rfl (px_E_mono (by decide) (e_D_flush_3 K N s36 t37 _ hk43)) ?_
                        refine px_blk (i' := 85) (L' := [some (.ref 13), some (.int (v4 + (1 : Int32))), some (.int v10), none]) (S' := [.int v10, .int (v4 + (1 : Int32)), .int (1 : Int32), .ref 13]) (w' := px_w K s41 t42) (q := []) 4 hM rfl trivial ?_
                        rcases px_bv_some h with ⟨s46, t47, hk48, h⟩ | ⟨x50, s46, t47, hk48, h⟩
                        · refine px_E_call hM rfl rfl rfl rfl (px_E_mono (by decide) (e_V_setRow_13 K N (1 : Int32) (v4 + (1 : Int32)) v10 s41 t42 _ hk48)) ?_
                          refine px_blk (i' := 92) (L' := [some (.ref 13), some (.int (v4 + (1 : Int32))), some (.int v10), none]) (S' := [.int (0 : Int32), .ref 20, .int (1 : Int32), .ref 3]) (w' := px_w K s46 t47) (q := []) 6 hM rfl trivial ?_
                          rcases px_bv_some h with ⟨s51, t52, hk53, h⟩ | ⟨x55, s51, t52, hk53, h⟩
                          · refine px_E_call hM rfl rfl rfl rfl (px_E_mono (by decide) (e_D_put_3_20 K N (1 : Int32) (0 : Int32) s46 t47 _ hk53)) ?_
                            refine px_blk (i' := 95) (L' := [some (.ref 13), some (.int (v4 + (1 : Int32))), some (.int v10), none]) (S' := [.ref 3]) (w' := px_w K s51 t52) (q := []) 2 hM rfl trivial ?_
                            rcases px_bv_some h with ⟨s56, t57, hk58, h⟩ | ⟨x60, s56, t57, hk58, h⟩
                            · refine px_E_call hM rfl rfl rfl rfl (px_E_mono (by decide) (e_D_flush_3 K N s51 t52 _ hk58)) ?_
                              refine px_blk (i' := 98) (L' := [some (.ref 13), some (.int (v4 + (1 : Int32))), some (.int v10), some (.int (0 : Int32))]) (S' := []) (w' := px_w K s56 t57) (q := []) 2 hM rfl trivial ?_
                              rcases px_lp_some h with ⟨i61, vs62, s63, t64, hl65, h⟩ | ⟨z66, hl65, h⟩
                              · by_cases hi67 : i61 = 127
                                · subst hi67
                                  rw [if_pos rfl] at h
                                  have h9 := px_v0_some h
                                  clear h
                                  obtain ⟨rfl, h⟩ := h9
                                  refine e_l_V_landOldest_13_98 K N (v4 + (1 : Int32)) v10 N (0 : Int32) s56 t57 _ hl65 _ _ ?_
                                  show px_E px_ET px_P 10 192 127 [some (.ref 13), some (.int (v4 + (1 : Int32))), some (.int v10), none] [] (px_w K s63 t64) _ _
                                  refine px_blk (i' := 129) (L' := [some (.ref 13), some (.int (v4 + (1 : Int32))), some (.int v10), none]) (S' := [.ref 3]) (w' := px_w K s63 t64) (q := []) 2 hM rfl trivial ?_
                                  rcases px_bv_some h with ⟨s68, t69, hk70, h⟩ | ⟨x72, s68, t69, hk70, h⟩
                                  · refine px_E_call hM rfl rfl rfl rfl (px_E_mono (by decide) (e_D_flush_3 K N s63 t64 _ hk70)) ?_
                                    refine px_blk (i' := 134) (L' := [some (.ref 13), some (.int (v4 + (1 : Int32))), some (.int v10), none]) (S' := [.int (0 : Int32), .int (v4 + (1 : Int32)), .int (0 : Int32), .ref 13]) (w' := px_w K s68 t69) (q := []) 4 hM rfl trivial ?_
                                    rcases px_bv_some h with ⟨s73, t74, hk75, h⟩ | ⟨x77, s73, t74, hk75, h⟩
                                    · refine px_E_call hM rfl rfl rfl rfl (px_E_mono (by decide) (e_V_setRow_13 K N (0 : Int32) (v4 + (1 : Int32)) (0 : Int32) s68 t69 _ hk75)) ?_
                                      refine px_blk (i' := 141) (L' := [some (.ref 13), some (.int (v4 + (1 : Int32))), some (.int v10), none]) (S' := [.int (0 : Int32), .ref 20, .int (1 : Int32), .ref 3]) (w' := px_w K s73 t74) (q := []) 6 hM rfl trivial ?_
                                      rcases px_bv_some h with ⟨s78, t79, hk80, h⟩ | ⟨x82, s78, t79, hk80, h⟩
                                      · refine px_E_call hM rfl rfl rfl rfl (px_E_mono (by decide) (e_D_put_3_20 K N (1 : Int32) (0 : Int32) s73 t74 _ hk80)) ?_
                                        refine px_blk (i' := 144) (L' := [some (.ref 13), some (.int (v4 + (1 : Int32))), some (.int v10), none]) (S' := [.ref 3]) (w' := px_w K s78 t79) (q := []) 2 hM rfl trivial ?_
                                        rcases px_bv_some h with ⟨s83, t84, hk85, h⟩ | ⟨x87, s83, t84, hk85, h⟩
                                        · refine px_E_call hM rfl rfl rfl rfl (px_E_mono (by decide) (e_D_flush_3 K N s78 t79 _ hk85)) ?_
                                          refine px_blk (i' := 147) (L' := [some (.ref 13), some (.int (v4 + (1 : Int32))), some (.int v10), some (.int (0 : Int32))]) (S' := []) (w' := px_w K s83 t84) (q := []) 2 hM rfl trivial ?_
                                          rcases px_lp_some h with ⟨i88, vs89, s90, t91, hl92, h⟩ | ⟨z93, hl92, h⟩
                                          · by_cases hi94 : i88 = 159
                                            · subst hi94
                                              rw [if_pos rfl] at h
                                              have h9 := px_v0_some h
                                              clear h
                                              obtain ⟨rfl, h⟩ := h9
                                              refine e_l_V_landOldest_13_147 K N (v4 + (1 : Int32)) v10 N (0 : Int32) s83 t84 _ hl92 _ _ ?_
                                              show px_E px_ET px_P 10 192 159 [none, some (.int (v4 + (1 : Int32))), none, none] [] (px_w K s90 t91) _ _
                                              refine px_blk (i' := 160) (L' := [none, some (.int (v4 + (1 : Int32))), none, none]) (S' := [.int (v4 + (1 : Int32))]) (w' := px_w K s90 t91) (q := []) 1 hM rfl trivial ?_
                                              cases h
                                              exact px_E_ret hM rfl rfl rfl trivial
                                            · rw [if_neg hi94] at h
                                              cases h
                                          · cases h
                                            exact e_l_V_landOldest_13_147 K N (v4 + (1 : Int32)) v10 N (0 : Int32) s83 t84 _ hl92 _ _ ⟨rfl, rfl⟩
                                        · cases h
                                          exact px_E_callT hM rfl rfl rfl rfl (px_E_mono (by decide) (e_D_flush_3 K N s78 t79 _ hk85)) rfl
                                      · cases h
                                        exact px_E_callT hM rfl rfl rfl rfl (px_E_mono (by decide) (e_D_put_3_20 K N (1 : Int32) (0 : Int32) s73 t74 _ hk80)) rfl
                                    · cases h
                                  · cases h
                                    exact px_E_callT hM rfl rfl rfl rfl (px_E_mono (by decide) (e_D_flush_3 K N s63 t64 _ hk70)) rfl
                                · rw [if_neg hi67] at h
                                  cases h
                              · cases h
                                exact e_l_V_landOldest_13_98 K N (v4 + (1 : Int32)) v10 N (0 : Int32) s56 t57 _ hl65 _ _ ⟨rfl, rfl⟩
                            · cases h
                              exact px_E_callT hM rfl rfl rfl rfl (px_E_mono (by decide) (e_D_flush_3 K N s51 t52 _ hk58)) rfl
                          · cases h
                            exact px_E_callT hM rfl rfl rfl rfl (px_E_mono (by decide) (e_D_put_3_20 K N (1 : Int32) (0 : Int32) s46 t47 _ hk53)) rfl
                        · cases h
                      · cases h
                        exact px_E_callT hM rfl rfl rfl rfl (px_E_mono (by decide) (e_D_flush_3 K N s36 t37 _ hk43)) rfl
                    · cases h
                      exact px_E_callT hM rfl rfl rfl rfl (px_E_mono (by decide) (e_D_put_3_20 K N (2 : Int32) (0 : Int32) s31 t32 _ hk38)) rfl
                  · rw [if_neg hi35] at h
                    cases h
                · cases h
                  exact e_l_V_landOldest_13_54 K N (v4 + (1 : Int32)) v10 N (0 : Int32) s24 t25 _ hl33 _ _ ⟨rfl, rfl⟩
              · cases h
            · rw [if_neg hi23] at h
              cases h
          · cases h
            exact e_l_V_landOldest_13_26 K N (v4 + (1 : Int32)) v10 N (0 : Int32) s12 t13 _ hl21 _ _ ⟨rfl, rfl⟩
        · cases h
      · cases h
    · rw [if_neg hc6] at h
      refine px_blk (i' := 10) (L' := [some (.ref 13), some (.int (v4 + (1 : Int32))), none, none]) (S' := [.int (0 : Int32)]) (w' := px_w K s1 t2) (q := []) 1 hM rfl trivial ?_
      cases h
      exact px_E_ret hM rfl rfl rfl trivial
  · cases h
