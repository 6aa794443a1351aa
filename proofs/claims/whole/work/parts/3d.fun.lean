/-! THE METHODS AS FUNCTIONS (by program). -/
noncomputable def l_T_placeOf_22_2 (K : px_K) (N : Nat) (n : Nat) (u1 : Int32) (u2 : Int32) (m3 : Int32) (s : px_S) (t : px_W) : Option px_LO := match n with
  | 0 => none
  | n + 1 => (px_bi (f_T_placesOf_22 K N u1 s t) (fun v4 s1 t2 => (if v4 ≤ m3 then (some (.inl (18, [], s1, t2))) else (px_bi (f_T_entryWord_22 K N u1 m3 (0 : Int32) s1 t2) (fun v10 s7 t8 => (if ¬ v10 = u2 then (l_T_placeOf_22_2 K N n u1 u2 (m3 + (1 : Int32)) s7 t8) else (some (.inl (14, [m3], s7, t8))))) (fun x11 s7 t8 => none)))) (fun x5 s1 t2 => none))
def a_l_T_placeOf_22_2 (K : px_K) (u1 : Int32) (u2 : Int32) (z : px_LO) (o : Option Value ⊕ Nat) (w2 : px_W) : Prop := match z with
  | .inr (o', s', t') => o = o' ∧ w2 = px_w K s' t'
  | .inl (14, [y3], s', t') => px_E px_ET px_P 5 155 14 [none, none, none, some (.int y3)] [] (px_w K s' t') o w2
  | .inl (18, [], s', t') => px_E px_ET px_P 5 155 18 [none, none, none, none] [] (px_w K s' t') o w2
  | _ => False
set_option maxRecDepth 100000 in
theorem e_l_T_placeOf_22_2 (K : px_K) (N : Nat) (u1 : Int32) (u2 : Int32) : ∀ (n : Nat) (m3 : Int32) (s : px_S) (t : px_W) (z : px_LO), l_T_placeOf_22_2 K N n u1 u2 m3 s t = some z → ∀ (o : Option Value ⊕ Nat) (w2 : px_W), a_l_T_placeOf_22_2 K u1 u2 z o w2 → px_E px_ET px_P 5 155 2 [some (.ref 22), some (.int u1), some (.int u2), some (.int m3)] [] (px_w K s t) o w2 := by
  have hM : px_P[155]? = some pm_T_placeOf := rfl
  intro n
  induction n with
  | zero => intro m3 s t z h; cases h
  | succ n ih =>
    intro m3 s t z h o w2 ha
    unfold l_T_placeOf_22_2 at h
    refine px_blk (i' := 5) (L' := [some (.ref 22), some (.int u1), some (.int u2), some (.int m3)]) (S' := [.int u1, .ref 22, .int m3]) (w' := px_w K s t) (q := []) 3 hM rfl trivial ?_
    rcases px_bi_some h with ⟨v4, s1, t2, hk3, h⟩ | ⟨x5, s1, t2, hk3, h⟩
    · refine px_E_call hM rfl rfl rfl rfl (px_E_mono (by decide) (e_T_placesOf_22 K N u1 s t _ hk3)) ?_
      refine px_blkif (c := v4 ≤ m3) (t := 18) (e := 7) (L' := [some (.ref 22), some (.int u1), some (.int u2), some (.int m3)]) (S' := []) (w' := px_w K s1 t2) (q := []) 1 hM rfl trivial (fun hc6 => ?_) (fun hc6 => ?_)
      · rw [if_pos hc6] at h
        cases h
        exact px_E_le (px_leC_L _ _ (by simp [px_leC, px_le1, Value.category])) ha
      · rw [if_neg hc6] at h
        refine px_blk (i' := 11) (L' := [some (.ref 22), some (.int u1), some (.int u2), some (.int m3)]) (S' := [.int (0 : Int32), .int m3, .int u1, .ref 22]) (w' := px_w K s1 t2) (q := []) 4 hM rfl trivial ?_
        rcases px_bi_some h with ⟨v10, s7, t8, hk9, h⟩ | ⟨x11, s7, t8, hk9, h⟩
        · refine px_E_call hM rfl rfl rfl rfl (px_E_mono (by decide) (e_T_entryWord_22 K N u1 m3 (0 : Int32) s1 t2 _ hk9)) ?_
          refine px_blkif (c := ¬ v10 = u2) (t := 16) (e := 14) (L' := [some (.ref 22), some (.int u1), some (.int u2), some (.int m3)]) (S' := []) (w' := px_w K s7 t8) (q := []) 2 hM rfl trivial (fun hc12 => ?_) (fun hc12 => ?_)
          · rw [if_pos hc12] at h
            refine px_blk (i' := 2) (L' := [some (.ref 22), some (.int u1), some (.int u2), some (.int (m3 + (1 : Int32)))]) (S' := []) (w' := px_w K s7 t8) (q := []) 2 hM rfl trivial ?_
            exact ih (m3 + (1 : Int32)) s7 t8 z h o w2 ha
          · rw [if_neg hc12] at h
            cases h
            exact px_E_le (px_leC_L _ _ (by simp [px_leC, px_le1, Value.category])) ha
        · cases h
    · cases h
noncomputable def f_T_placeOf_22 (K : px_K) (N : Nat) (a0 : Int32) (a1 : Int32) (s : px_S) (t : px_W) : Option px_Res :=
  (px_lp (l_T_placeOf_22_2 K N N a0 a1 (0 : Int32) s t) (fun i1 vs2 s3 t4 => (if i1 = 14 then (px_v1 vs2 (fun y7 => (some (.inl (some (.int y7)), s3, t4)))) else (if i1 = 18 then (px_v0 vs2 (some (.inl (some (.int (-1 : Int32))), s3, t4))) else none))) (fun z6 => some z6))
set_option maxRecDepth 100000 in
theorem e_T_placeOf_22 (K : px_K) (N : Nat) (a0 : Int32) (a1 : Int32) (s : px_S) (t : px_W) (r : px_Res) (h : f_T_placeOf_22 K N a0 a1 s t = some r) : px_E px_ET px_P 5 155 0 (px_ent 4 [.ref 22, .int a0, .int a1]) [] (px_w K s t) r.1 (px_w K r.2.1 r.2.2) := by
  have hM : px_P[155]? = some pm_T_placeOf := rfl
  unfold f_T_placeOf_22 at h
  refine px_blk (i' := 2) (L' := [some (.ref 22), some (.int a0), some (.int a1), some (.int (0 : Int32))]) (S' := []) (w' := px_w K s t) (q := []) 2 hM rfl trivial ?_
  rcases px_lp_some h with ⟨i1, vs2, s3, t4, hl5, h⟩ | ⟨z6, hl5, h⟩
  · by_cases hi8 : i1 = 14
    · subst hi8
      rw [if_pos rfl] at h
      have h9 := px_v1_some h
      clear h
      obtain ⟨y7, rfl, h⟩ := h9
      refine e_l_T_placeOf_22_2 K N a0 a1 N (0 : Int32) s t _ hl5 _ _ ?_
      show px_E px_ET px_P 5 155 14 [none, none, none, some (.int y7)] [] (px_w K s3 t4) _ _
      refine px_blk (i' := 15) (L' := [none, none, none, some (.int y7)]) (S' := [.int y7]) (w' := px_w K s3 t4) (q := []) 1 hM rfl trivial ?_
      cases h
      exact px_E_ret hM rfl rfl rfl trivial
    · rw [if_neg hi8] at h
      by_cases hi9 : i1 = 18
      · subst hi9
        rw [if_pos rfl] at h
        have h9 := px_v0_some h
        clear h
        obtain ⟨rfl, h⟩ := h9
        refine e_l_T_placeOf_22_2 K N a0 a1 N (0 : Int32) s t _ hl5 _ _ ?_
        show px_E px_ET px_P 5 155 18 [none, none, none, none] [] (px_w K s3 t4) _ _
        refine px_blk (i' := 19) (L' := [none, none, none, none]) (S' := [.int (-1 : Int32)]) (w' := px_w K s3 t4) (q := []) 1 hM rfl trivial ?_
        cases h
        exact px_E_ret hM rfl rfl rfl trivial
      · rw [if_neg hi9] at h
        cases h
  · cases h
    exact e_l_T_placeOf_22_2 K N a0 a1 N (0 : Int32) s t _ hl5 _ _ ⟨rfl, rfl⟩
noncomputable def l_T_freeInode_22_2 (K : px_K) (N : Nat) (n : Nat) (m1 : Int32) (s : px_S) (t : px_W) : Option px_LO := match n with
  | 0 => none
  | n + 1 => (if (24 : Int32) ≤ m1 then (some (.inl (14, [], s, t))) else (px_bi (f_T_inodeWord_22 K N m1 (0 : Int32) s t) (fun v5 s2 t3 => (if ¬ v5 = 0 then (l_T_freeInode_22_2 K N n (m1 + (1 : Int32)) s2 t3) else (some (.inl (10, [m1], s2, t3))))) (fun x6 s2 t3 => none)))
def a_l_T_freeInode_22_2 (K : px_K) (z : px_LO) (o : Option Value ⊕ Nat) (w2 : px_W) : Prop := match z with
  | .inr (o', s', t') => o = o' ∧ w2 = px_w K s' t'
  | .inl (10, [y1], s', t') => px_E px_ET px_P 2 157 10 [none, some (.int y1)] [] (px_w K s' t') o w2
  | .inl (14, [], s', t') => px_E px_ET px_P 2 157 14 [none, none] [] (px_w K s' t') o w2
  | _ => False
set_option maxRecDepth 100000 in
theorem e_l_T_freeInode_22_2 (K : px_K) (N : Nat) : ∀ (n : Nat) (m1 : Int32) (s : px_S) (t : px_W) (z : px_LO), l_T_freeInode_22_2 K N n m1 s t = some z → ∀ (o : Option Value ⊕ Nat) (w2 : px_W), a_l_T_freeInode_22_2 K z o w2 → px_E px_ET px_P 2 157 2 [some (.ref 22), some (.int m1)] [] (px_w K s t) o w2 := by
  have hM : px_P[157]? = some pm_T_freeInode := rfl
  intro n
  induction n with
  | zero => intro m1 s t z h; cases h
  | succ n ih =>
    intro m1 s t z h o w2 ha
    unfold l_T_freeInode_22_2 at h
    refine px_blkif (c := (24 : Int32) ≤ m1) (t := 14) (e := 5) (L' := [some (.ref 22), some (.int m1)]) (S' := []) (w' := px_w K s t) (q := []) 3 hM rfl trivial (fun hc1 => ?_) (fun hc1 => ?_)
    · rw [if_pos hc1] at h
      cases h
      exact px_E_le (px_leC_L _ _ (by simp [px_leC, px_le1, Value.category])) ha
    · rw [if_neg hc1] at h
      refine px_blk (i' := 8) (L' := [some (.ref 22), some (.int m1)]) (S' := [.int (0 : Int32), .int m1, .ref 22]) (w' := px_w K s t) (q := []) 3 hM rfl trivial ?_
      rcases px_bi_some h with ⟨v5, s2, t3, hk4, h⟩ | ⟨x6, s2, t3, hk4, h⟩
      · refine px_E_call hM rfl rfl rfl rfl (px_E_mono (by decide) (e_T_inodeWord_22 K N m1 (0 : Int32) s t _ hk4)) ?_
        refine px_blkif (c := ¬ v5 = 0) (t := 12) (e := 10) (L' := [some (.ref 22), some (.int m1)]) (S' := []) (w' := px_w K s2 t3) (q := []) 1 hM rfl trivial (fun hc7 => ?_) (fun hc7 => ?_)
        · rw [if_pos hc7] at h
          refine px_blk (i' := 2) (L' := [some (.ref 22), some (.int (m1 + (1 : Int32)))]) (S' := []) (w' := px_w K s2 t3) (q := []) 2 hM rfl trivial ?_
          exact ih (m1 + (1 : Int32)) s2 t3 z h o w2 ha
        · rw [if_neg hc7] at h
          cases h
          exact px_E_le (px_leC_L _ _ (by simp [px_leC, px_le1, Value.category])) ha
      · cases h
noncomputable def f_T_freeInode_22 (K : px_K) (N : Nat) (s : px_S) (t : px_W) : Option px_Res :=
  (px_lp (l_T_freeInode_22_2 K N N (0 : Int32) s t) (fun i1 vs2 s3 t4 => (if i1 = 10 then (px_v1 vs2 (fun y7 => (some (.inl (some (.int y7)), s3, t4)))) else (if i1 = 14 then (px_v0 vs2 (some (.inl (some (.int (-1 : Int32))), s3, t4))) else none))) (fun z6 => some z6))
set_option maxRecDepth 100000 in
theorem e_T_freeInode_22 (K : px_K) (N : Nat) (s : px_S) (t : px_W) (r : px_Res) (h : f_T_freeInode_22 K N s t = some r) : px_E px_ET px_P 2 157 0 (px_ent 2 [.ref 22]) [] (px_w K s t) r.1 (px_w K r.2.1 r.2.2) := by
  have hM : px_P[157]? = some pm_T_freeInode := rfl
  unfold f_T_freeInode_22 at h
  refine px_blk (i' := 2) (L' := [some (.ref 22), some (.int (0 : Int32))]) (S' := []) (w' := px_w K s t) (q := []) 2 hM rfl trivial ?_
  rcases px_lp_some h with ⟨i1, vs2, s3, t4, hl5, h⟩ | ⟨z6, hl5, h⟩
  · by_cases hi8 : i1 = 10
    · subst hi8
      rw [if_pos rfl] at h
      have h9 := px_v1_some h
      clear h
      obtain ⟨y7, rfl, h⟩ := h9
      refine e_l_T_freeInode_22_2 K N N (0 : Int32) s t _ hl5 _ _ ?_
      show px_E px_ET px_P 2 157 10 [none, some (.int y7)] [] (px_w K s3 t4) _ _
      refine px_blk (i' := 11) (L' := [none, some (.int y7)]) (S' := [.int y7]) (w' := px_w K s3 t4) (q := []) 1 hM rfl trivial ?_
      cases h
      exact px_E_ret hM rfl rfl rfl trivial
    · rw [if_neg hi8] at h
      by_cases hi9 : i1 = 14
      · subst hi9
        rw [if_pos rfl] at h
        have h9 := px_v0_some h
        clear h
        obtain ⟨rfl, h⟩ := h9
        refine e_l_T_freeInode_22_2 K N N (0 : Int32) s t _ hl5 _ _ ?_
        show px_E px_ET px_P 2 157 14 [none, none] [] (px_w K s3 t4) _ _
        refine px_blk (i' := 15) (L' := [none, none]) (S' := [.int (-1 : Int32)]) (w' := px_w K s3 t4) (q := []) 1 hM rfl trivial ?_
        cases h
        exact px_E_ret hM rfl rfl rfl trivial
      · rw [if_neg hi9] at h
        cases h
  · cases h
    exact e_l_T_freeInode_22_2 K N N (0 : Int32) s t _ hl5 _ _ ⟨rfl, rfl⟩
noncomputable def f_Integer_bitCount (K : px_K) (N : Nat) (a0 : Int32) (s : px_S) (t : px_W) : Option px_Res :=
  (px_let (a0 - (((a0.toUInt32 >>> ((1 : Int32).toUInt32 &&& Int32.toUInt32 31)).toInt32) &&& (1431655765 : Int32))) (fun v1 => (px_let ((v1 &&& (858993459 : Int32)) + (((v1.toUInt32 >>> ((2 : Int32).toUInt32 &&& Int32.toUInt32 31)).toInt32) &&& (858993459 : Int32))) (fun v3 => (px_let ((v3 + ((v3.toUInt32 >>> ((4 : Int32).toUInt32 &&& Int32.toUInt32 31)).toInt32)) &&& (252645135 : Int32)) (fun v5 => (px_let (v5 + ((v5.toUInt32 >>> ((8 : Int32).toUInt32 &&& Int32.toUInt32 31)).toInt32)) (fun v7 => (px_let (v7 + ((v7.toUInt32 >>> ((16 : Int32).toUInt32 &&& Int32.toUInt32 31)).toInt32)) (fun v9 => (some (.inl (some (.int (v9 &&& (63 : Int32)))), s, t))))))))))))
set_option maxRecDepth 100000 in
theorem e_Integer_bitCount (K : px_K) (N : Nat) (a0 : Int32) (s : px_S) (t : px_W) (r : px_Res) (h : f_Integer_bitCount K N a0 s t = some r) : px_E px_ET px_P 1 203 0 (px_ent 1 [.int a0]) [] (px_w K s t) r.1 (px_w K r.2.1 r.2.2) := by
  have hM : px_P[203]? = some pm_Integer_bitCount := rfl
  unfold f_Integer_bitCount at h
  refine px_blk (i' := 8) (L' := [some (.int (a0 - (((a0.toUInt32 >>> ((1 : Int32).toUInt32 &&& Int32.toUInt32 31)).toInt32) &&& (1431655765 : Int32))))]) (S' := []) (w' := px_w K s t) (q := []) 8 hM rfl trivial ?_
  obtain ⟨v1, hv2, h⟩ := px_let_some h
  rw [← hv2]
  refine px_blk (i' := 18) (L' := [some (.int ((v1 &&& (858993459 : Int32)) + (((v1.toUInt32 >>> ((2 : Int32).toUInt32 &&& Int32.toUInt32 31)).toInt32) &&& (858993459 : Int32))))]) (S' := []) (w' := px_w K s t) (q := []) 10 hM rfl trivial ?_
  obtain ⟨v3, hv4, h⟩ := px_let_some h
  rw [← hv4]
  refine px_blk (i' := 26) (L' := [some (.int ((v3 + ((v3.toUInt32 >>> ((4 : Int32).toUInt32 &&& Int32.toUInt32 31)).toInt32)) &&& (252645135 : Int32)))]) (S' := []) (w' := px_w K s t) (q := []) 8 hM rfl trivial ?_
  obtain ⟨v5, hv6, h⟩ := px_let_some h
  rw [← hv6]
  refine px_blk (i' := 32) (L' := [some (.int (v5 + ((v5.toUInt32 >>> ((8 : Int32).toUInt32 &&& Int32.toUInt32 31)).toInt32)))]) (S' := []) (w' := px_w K s t) (q := []) 6 hM rfl trivial ?_
  obtain ⟨v7, hv8, h⟩ := px_let_some h
  rw [← hv8]
  refine px_blk (i' := 38) (L' := [some (.int (v7 + ((v7.toUInt32 >>> ((16 : Int32).toUInt32 &&& Int32.toUInt32 31)).toInt32)))]) (S' := []) (w' := px_w K s t) (q := []) 6 hM rfl trivial ?_
  obtain ⟨v9, hv10, h⟩ := px_let_some h
  rw [← hv10]
  refine px_blk (i' := 41) (L' := [some (.int v9)]) (S' := [.int (v9 &&& (63 : Int32))]) (w' := px_w K s t) (q := []) 3 hM rfl trivial ?_
  cases h
  exact px_E_ret hM rfl rfl rfl trivial
noncomputable def f_T_usedBlocks_22 (K : px_K) (N : Nat) (s : px_S) (t : px_W) : Option px_Res :=
  (px_bi (f_T_at_22 K N (29 : Int32) (0 : Int32) s t) (fun v4 s1 t2 => (px_bi (f_Integer_bitCount K N v4 s1 t2) (fun v9 s6 t7 => (px_bi (f_T_at_22 K N (29 : Int32) (1 : Int32) s6 t7) (fun v14 s11 t12 => (px_bi (f_Integer_bitCount K N v14 s11 t12) (fun v19 s16 t17 => (some (.inl (some (.int (v9 + v19))), s16, t17))) (fun x20 s16 t17 => none))) (fun x15 s11 t12 => none))) (fun x10 s6 t7 => none))) (fun x5 s1 t2 => none))
set_option maxRecDepth 100000 in
theorem e_T_usedBlocks_22 (K : px_K) (N : Nat) (s : px_S) (t : px_W) (r : px_Res) (h : f_T_usedBlocks_22 K N s t = some r) : px_E px_ET px_P 2 135 0 (px_ent 1 [.ref 22]) [] (px_w K s t) r.1 (px_w K r.2.1 r.2.2) := by
  have hM : px_P[135]? = some pm_T_usedBlocks := rfl
  unfold f_T_usedBlocks_22 at h
  refine px_blk (i' := 3) (L' := [some (.ref 22)]) (S' := [.int (0 : Int32), .int (29 : Int32), .ref 22]) (w' := px_w K s t) (q := []) 3 hM rfl trivial ?_
  rcases px_bi_some h with ⟨v4, s1, t2, hk3, h⟩ | ⟨x5, s1, t2, hk3, h⟩
  · refine px_E_call hM rfl rfl rfl rfl (px_E_mono (by decide) (e_T_at_22 K N (29 : Int32) (0 : Int32) s t _ hk3)) ?_
    rcases px_bi_some h with ⟨v9, s6, t7, hk8, h⟩ | ⟨x10, s6, t7, hk8, h⟩
    · refine px_E_call hM rfl rfl rfl rfl (px_E_mono (by decide) (e_Integer_bitCount K N v4 s1 t2 _ hk8)) ?_
      refine px_blk (i' := 8) (L' := [some (.ref 22)]) (S' := [.int (1 : Int32), .int (29 : Int32), .ref 22, .int v9]) (w' := px_w K s6 t7) (q := []) 3 hM rfl trivial ?_
      rcases px_bi_some h with ⟨v14, s11, t12, hk13, h⟩ | ⟨x15, s11, t12, hk13, h⟩
      · refine px_E_call hM rfl rfl rfl rfl (px_E_mono (by decide) (e_T_at_22 K N (29 : Int32) (1 : Int32) s6 t7 _ hk13)) ?_
        rcases px_bi_some h with ⟨v19, s16, t17, hk18, h⟩ | ⟨x20, s16, t17, hk18, h⟩
        · refine px_E_call hM rfl rfl rfl rfl (px_E_mono (by decide) (e_Integer_bitCount K N v14 s11 t12 _ hk18)) ?_
          refine px_blk (i' := 11) (L' := [some (.ref 22)]) (S' := [.int (v9 + v19)]) (w' := px_w K s16 t17) (q := []) 1 hM rfl trivial ?_
          cases h
          exact px_E_ret hM rfl rfl rfl trivial
        · cases h
      · cases h
    · cases h
  · cases h
noncomputable def f_T_setChanged_22 (K : px_K) (N : Nat) (a0 : Int32) (s : px_S) (t : px_W) : Option px_Res :=
  (px_gd (vp_in a0 (K.2.2 25)) (if ¬ ((s.2.2.1 25) a0.toNatClampNeg) = 0 then (some (.inl none, s, t)) else (px_gd (vp_in a0 (K.2.2 25)) (px_let (sA s 25 a0.toNatClampNeg (1 : Int32)) (fun s4 => (px_let (sR s4 21 ((s4.1 21) + (1 : Int32))) (fun s6 => (some (.inl none, s6, t)))))))))
set_option maxRecDepth 100000 in
theorem e_T_setChanged_22 (K : px_K) (N : Nat) (a0 : Int32) (s : px_S) (t : px_W) (r : px_Res) (h : f_T_setChanged_22 K N a0 s t = some r) : px_E px_ET px_P 1 138 0 (px_ent 2 [.ref 22, .int a0]) [] (px_w K s t) r.1 (px_w K r.2.1 r.2.2) := by
  have hM : px_P[138]? = some pm_T_setChanged := rfl
  unfold f_T_setChanged_22 at h
  obtain ⟨hq1, h⟩ := px_gd_some h
  refine px_blkif (c := ¬ ((s.2.2.1 25) a0.toNatClampNeg) = 0) (t := 16) (e := 5) (L' := [some (.ref 22), some (.int a0)]) (S' := []) (w' := px_w K s t) (q := [vp_in a0 (K.2.2 25)]) 5 hM rfl (show vp_in a0 (K.2.2 25) from hq1) (fun hc2 => ?_) (fun hc2 => ?_)
  · rw [if_pos hc2] at h
    cases h
    exact px_E_ret hM rfl rfl rfl trivial
  · rw [if_neg hc2] at h
    obtain ⟨hq3, h⟩ := px_gd_some h
    refine px_blk (i' := 10) (L' := [some (.ref 22), some (.int a0)]) (S' := []) (w' := px_w K (sA s 25 a0.toNatClampNeg (1 : Int32)) t) (q := [vp_in a0 (K.2.2 25), (1 : Int32) = 0 ∨ (1 : Int32) = 1]) 5 hM rfl (show (vp_in a0 (K.2.2 25)) ∧ ((1 : Int32) = 0 ∨ (1 : Int32) = 1) from ⟨hq3, Or.inr rfl⟩) ?_
    obtain ⟨s4, hs5, h⟩ := px_let_some h
    rw [← hs5]
    refine px_blk (i' := 16) (L' := [some (.ref 22), some (.int a0)]) (S' := []) (w' := px_w K (sR s4 21 ((s4.1 21) + (1 : Int32))) t) (q := []) 6 hM rfl trivial ?_
    obtain ⟨s6, hs7, h⟩ := px_let_some h
    rw [← hs7]
    cases h
    exact px_E_ret hM rfl rfl rfl trivial
noncomputable def f_T_tell_22 (K : px_K) (N : Nat) (a0 : Int32) (a1 : Int32) (a2 : Int32) (s : px_S) (t : px_W) : Option px_Res :=
  (if a0 < 0 then (some (.inl none, s, t)) else (if (106 : Int32) ≤ a0 then (some (.inl none, s, t)) else (if a1 < 0 then (some (.inl none, s, t)) else (if (16 : Int32) ≤ a1 then (some (.inl none, s, t)) else (px_gd (vp_in ((a0 * (16 : Int32)) + a1) (K.2.2 23)) (px_let (sA s 23 ((a0 * (16 : Int32)) + a1).toNatClampNeg a2) (fun s6 => (px_bv (f_T_setChanged_22 K N a0 s6 t) (fun s8 t9 => (some (.inl none, s8, t9))) (fun x12 s8 t9 => none)))))))))
set_option maxRecDepth 100000 in
theorem e_T_tell_22 (K : px_K) (N : Nat) (a0 : Int32) (a1 : Int32) (a2 : Int32) (s : px_S) (t : px_W) (r : px_Res) (h : f_T_tell_22 K N a0 a1 a2 s t = some r) : px_E px_ET px_P 2 137 0 (px_ent 4 [.ref 22, .int a0, .int a1, .int a2]) [] (px_w K s t) r.1 (px_w K r.2.1 r.2.2) := by
  have hM : px_P[137]? = some pm_T_tell := rfl
  unfold f_T_tell_22 at h
  refine px_blkif (c := a0 < 0) (t := 22) (e := 2) (L' := [some (.ref 22), some (.int a0), some (.int a1), some (.int a2)]) (S' := []) (w' := px_w K s t) (q := []) 2 hM rfl trivial (fun hc1 => ?_) (fun hc1 => ?_)
  · rw [if_pos hc1] at h
    cases h
    exact px_E_ret hM rfl rfl rfl trivial
  · rw [if_neg hc1] at h
    refine px_blkif (c := (106 : Int32) ≤ a0) (t := 22) (e := 5) (L' := [some (.ref 22), some (.int a0), some (.int a1), some (.int a2)]) (S' := []) (w' := px_w K s t) (q := []) 3 hM rfl trivial (fun hc2 => ?_) (fun hc2 => ?_)
    · rw [if_pos hc2] at h
      cases h
      exact px_E_ret hM rfl rfl rfl trivial
    · rw [if_neg hc2] at h
      refine px_blkif (c := a1 < 0) (t := 22) (e := 7) (L' := [some (.ref 22), some (.int a0), some (.int a1), some (.int a2)]) (S' := []) (w' := px_w K s t) (q := []) 2 hM rfl trivial (fun hc3 => ?_) (fun hc3 => ?_)
      · rw [if_pos hc3] at h
        cases h
        exact px_E_ret hM rfl rfl rfl trivial
      · rw [if_neg hc3] at h
        refine px_blkif (c := (16 : Int32) ≤ a1) (t := 22) (e := 10) (L' := [some (.ref 22), some (.int a0), some (.int a1), some (.int a2)]) (S' := []) (w' := px_w K s t) (q := []) 3 hM rfl trivial (fun hc4 => ?_) (fun hc4 => ?_)
        · rw [if_pos hc4] at h
          cases h
          exact px_E_ret hM rfl rfl rfl trivial
        · rw [if_neg hc4] at h
          obtain ⟨hq5, h⟩ := px_gd_some h
          refine px_blk (i' := 19) (L' := [some (.ref 22), some (.int a0), some (.int a1), some (.int a2)]) (S' := []) (w' := px_w K (sA s 23 ((a0 * (16 : Int32)) + a1).toNatClampNeg a2) t) (q := [vp_in ((a0 * (16 : Int32)) + a1) (K.2.2 23)]) 9 hM rfl (show vp_in ((a0 * (16 : Int32)) + a1) (K.2.2 23) from hq5) ?_
          obtain ⟨s6, hs7, h⟩ := px_let_some h
          rw [← hs7]
          refine px_blk (i' := 21) (L' := [some (.ref 22), some (.int a0), some (.int a1), some (.int a2)]) (S' := [.int a0, .ref 22]) (w' := px_w K s6 t) (q := []) 2 hM rfl trivial ?_
          rcases px_bv_some h with ⟨s8, t9, hk10, h⟩ | ⟨x12, s8, t9, hk10, h⟩
          · refine px_E_call hM rfl rfl rfl rfl (px_E_mono (by decide) (e_T_setChanged_22 K N a0 s6 t _ hk10)) ?_
            cases h
            exact px_E_ret hM rfl rfl rfl trivial
          · cases h
noncomputable def l_T_take_22_2 (K : px_K) (N : Nat) (n : Nat) (m1 : Int32) (s : px_S) (t : px_W) : Option px_LO := match n with
  | 0 => none
  | n + 1 => (if (64 : Int32) ≤ m1 then (some (.inl (53, [], s, t))) else (px_bi (f_T_at_22 K N (29 : Int32) (m1 / (32 : Int32)) s t) (fun v5 s2 t3 => (if ¬ (((v5.toUInt32 >>> ((m1 - m1 / (32 : Int32) * (32 : Int32)).toUInt32 &&& Int32.toUInt32 31)).toInt32) &&& (1 : Int32)) = 0 then (l_T_take_22_2 K N n (m1 + (1 : Int32)) s2 t3) else (some (.inl (20, [m1, v5], s2, t3))))) (fun x6 s2 t3 => none)))
def a_l_T_take_22_2 (K : px_K) (z : px_LO) (o : Option Value ⊕ Nat) (w2 : px_W) : Prop := match z with
  | .inr (o', s', t') => o = o' ∧ w2 = px_w K s' t'
  | .inl (20, [y1, y2], s', t') => px_E px_ET px_P 3 148 20 [some (.ref 22), some (.int y1), some (.int y2), none, none] [] (px_w K s' t') o w2
  | .inl (53, [], s', t') => px_E px_ET px_P 3 148 53 [none, none, none, none, none] [] (px_w K s' t') o w2
  | _ => False
noncomputable def l_T_take_22_39 (K : px_K) (N : Nat) (n : Nat) (u3 : Int32) (m4 : Int32) (s : px_S) (t : px_W) : Option px_LO := match n with
  | 0 => none
  | n + 1 => (if (16 : Int32) ≤ m4 then (some (.inl (49, [], s, t))) else (px_bv (f_T_tell_22 K N u3 m4 (0 : Int32) s t) (fun s2 t3 => (l_T_take_22_39 K N n u3 (m4 + (1 : Int32)) s2 t3)) (fun x6 s2 t3 => none)))
def a_l_T_take_22_39 (K : px_K) (u3 : Int32) (z : px_LO) (o : Option Value ⊕ Nat) (w2 : px_W) : Prop := match z with
  | .inr (o', s', t') => o = o' ∧ w2 = px_w K s' t'
  | .inl (49, [], s', t') => px_E px_ET px_P 3 148 49 [none, none, none, some (.int u3), none] [] (px_w K s' t') o w2
  | _ => False
set_option maxRecDepth 100000 in
theorem e_l_T_take_22_2 (K : px_K) (N : Nat) : ∀ (n : Nat) (m1 : Int32) (s : px_S) (t : px_W) (z : px_LO), l_T_take_22_2 K N n m1 s t = some z → ∀ (o : Option Value ⊕ Nat) (w2 : px_W), a_l_T_take_22_2 K z o w2 → px_E px_ET px_P 3 148 2 [some (.ref 22), some (.int m1), none, none, none] [] (px_w K s t) o w2 := by
  have hM : px_P[148]? = some pm_T_take := rfl
  intro n
  induction n with
  | zero => intro m1 s t z h; cases h
  | succ n ih =>
    intro m1 s t z h o w2 ha
    unfold l_T_take_22_2 at h
    refine px_blkif (c := (64 : Int32) ≤ m1) (t := 53) (e := 5) (L' := [some (.ref 22), some (.int m1), none, none, none]) (S' := []) (w' := px_w K s t) (q := []) 3 hM rfl trivial (fun hc1 => ?_) (fun hc1 => ?_)
    · rw [if_pos hc1] at h
      cases h
      exact px_E_le (px_leC_L _ _ (by simp [px_leC, px_le1, Value.category])) ha
    · rw [if_neg hc1] at h
      refine px_blk (i' := 10) (L' := [some (.ref 22), some (.int m1), none, none, none]) (S' := [.int (m1 / (32 : Int32)), .int (29 : Int32), .ref 22]) (w' := px_w K s t) (q := [¬ (32 : Int32) = 0]) 5 hM rfl (show ¬ (32 : Int32) = 0 from (by decide)) ?_
      rcases px_bi_some h with ⟨v5, s2, t3, hk4, h⟩ | ⟨x6, s2, t3, hk4, h⟩
      · refine px_E_call hM rfl rfl rfl rfl (px_E_mono (by decide) (e_T_at_22 K N (29 : Int32) (m1 / (32 : Int32)) s t _ hk4)) ?_
        refine px_blkif (c := ¬ (((v5.toUInt32 >>> ((m1 - m1 / (32 : Int32) * (32 : Int32)).toUInt32 &&& Int32.toUInt32 31)).toInt32) &&& (1 : Int32)) = 0) (t := 51) (e := 20) (L' := [some (.ref 22), some (.int m1), some (.int v5), none, none]) (S' := []) (w' := px_w K s2 t3) (q := [¬ (32 : Int32) = 0]) 9 hM rfl (show ¬ (32 : Int32) = 0 from (by decide)) (fun hc7 => ?_) (fun hc7 => ?_)
        · rw [if_pos hc7] at h
          refine px_blk (i' := 2) (L' := [some (.ref 22), some (.int (m1 + (1 : Int32))), some (.int v5), none, none]) (S' := []) (w' := px_w K s2 t3) (q := []) 2 hM rfl trivial ?_
          exact px_E_le (px_leC_L _ _ (by simp [px_leC, px_le1, Value.category])) (ih (m1 + (1 : Int32)) s2 t3 z h o w2 ha)
        · rw [if_neg hc7] at h
          cases h
          exact px_E_le (px_leC_L _ _ (by simp [px_leC, px_le1, Value.category])) ha
      · cases h
set_option maxRecDepth 100000 in
theorem e_l_T_take_22_39 (K : px_K) (N : Nat) (u3 : Int32) : ∀ (n : Nat) (m4 : Int32) (s : px_S) (t : px_W) (z : px_LO), l_T_take_22_39 K N n u3 m4 s t = some z → ∀ (o : Option Value ⊕ Nat) (w2 : px_W), a_l_T_take_22_39 K u3 z o w2 → px_E px_ET px_P 3 148 39 [some (.ref 22), none, none, some (.int u3), some (.int m4)] [] (px_w K s t) o w2 := by
  have hM : px_P[148]? = some pm_T_take := rfl
  intro n
  induction n with
  | zero => intro m4 s t z h; cases h
  | succ n ih =>
    intro m4 s t z h o w2 ha
    unfold l_T_take_22_39 at h
    refine px_blkif (c := (16 : Int32) ≤ m4) (t := 49) (e := 42) (L' := [some (.ref 22), none, none, some (.int u3), some (.int m4)]) (S' := []) (w' := px_w K s t) (q := []) 3 hM rfl trivial (fun hc1 => ?_) (fun hc1 => ?_)
    · rw [if_pos hc1] at h
      cases h
      exact px_E_le (px_leC_L _ _ (by simp [px_leC, px_le1, Value.category])) ha
    · rw [if_neg hc1] at h
      refine px_blk (i' := 46) (L' := [some (.ref 22), none, none, some (.int u3), some (.int m4)]) (S' := [.int (0 : Int32), .int m4, .int u3, .ref 22]) (w' := px_w K s t) (q := []) 4 hM rfl trivial ?_
      rcases px_bv_some h with ⟨s2, t3, hk4, h⟩ | ⟨x6, s2, t3, hk4, h⟩
      · refine px_E_call hM rfl rfl rfl rfl (px_E_mono (by decide) (e_T_tell_22 K N u3 m4 (0 : Int32) s t _ hk4)) ?_
        refine px_blk (i' := 39) (L' := [some (.ref 22), none, none, some (.int u3), some (.int (m4 + (1 : Int32)))]) (S' := []) (w' := px_w K s2 t3) (q := []) 2 hM rfl trivial ?_
        exact ih (m4 + (1 : Int32)) s2 t3 z h o w2 ha
      · cases h
noncomputable def f_T_take_22 (K : px_K) (N : Nat) (s : px_S) (t : px_W) : Option px_Res :=
  (px_lp (l_T_take_22_2 K N N (0 : Int32) s t) (fun i1 vs2 s3 t4 => (if i1 = 20 then (px_v2 vs2 (fun y7 y8 => (px_bv (f_T_tell_22 K N (29 : Int32) (y7 / (32 : Int32)) (y8 ||| ((1 : Int32) <<< ((y7 - y7 / (32 : Int32) * (32 : Int32)) &&& 31))) s3 t4) (fun s10 t11 => (px_let ((42 : Int32) + y7) (fun v15 => (px_lp (l_T_take_22_39 K N N v15 (0 : Int32) s10 t11) (fun i17 vs18 s19 t20 => (if i17 = 49 then (px_v0 vs18 (some (.inl (some (.int v15)), s19, t20))) else none)) (fun z22 => some z22))))) (fun x14 s10 t11 => none)))) else (if i1 = 53 then (px_v0 vs2 (some (.inl (some (.int (0 : Int32))), s3, t4))) else none))) (fun z6 => some z6))
set_option maxRecDepth 100000 in
theorem e_T_take_22 (K : px_K) (N : Nat) (s : px_S) (t : px_W) (r : px_Res) (h : f_T_take_22 K N s t = some r) : px_E px_ET px_P 3 148 0 (px_ent 5 [.ref 22]) [] (px_w K s t) r.1 (px_w K r.2.1 r.2.2) := by
  have hM : px_P[148]? = some pm_T_take := rfl
  unfold f_T_take_22 at h
  refine px_blk (i' := 2) (L' := [some (.ref 22), some (.int (0 : Int32)), none, none, none]) (S' := []) (w' := px_w K s t) (q := []) 2 hM rfl trivial ?_
  rcases px_lp_some h with ⟨i1, vs2, s3, t4, hl5, h⟩ | ⟨z6, hl5, h⟩
  · by_cases hi9 : i1 = 20
    · subst hi9
      rw [if_pos rfl] at h
      have h9 := px_v2_some h
      clear h
      obtain ⟨y7, y8, rfl, h⟩ := h9
      refine e_l_T_take_22_2 K N N (0 : Int32) s t _ hl5 _ _ ?_
      show px_E px_ET px_P 3 148 20 [some (.ref 22), some (.int y7), some (.int y8), none, none] [] (px_w K s3 t4) _ _
      refine px_blk (i' := 32) (L' := [some (.ref 22), some (.int y7), some (.int y8), none, none]) (S' := [.int (y8 ||| ((1 : Int32) <<< ((y7 - y7 / (32 : Int32) * (32 : Int32)) &&& 31))), .int (y7 / (32 : Int32)), .int (29 : Int32), .ref 22]) (w' := px_w K s3 t4) (q := [¬ (32 : Int32) = 0, ¬ (32 : Int32) = 0]) 12 hM rfl (show (¬ (32 : Int32) = 0) ∧ (¬ (32 : Int32) = 0) from ⟨(by decide), (by decide)⟩) ?_
      rcases px_bv_some h with ⟨s10, t11, hk12, h⟩ | ⟨x14, s10, t11, hk12, h⟩
      · refine px_E_call hM rfl rfl rfl rfl (px_E_mono (by decide) (e_T_tell_22 K N (29 : Int32) (y7 / (32 : Int32)) (y8 ||| ((1 : Int32) <<< ((y7 - y7 / (32 : Int32) * (32 : Int32)) &&& 31))) s3 t4 _ hk12)) ?_
        refine px_blk (i' := 37) (L' := [some (.ref 22), some (.int y7), some (.int y8), some (.int ((42 : Int32) + y7)), none]) (S' := []) (w' := px_w K s10 t11) (q := []) 4 hM rfl trivial ?_
        obtain ⟨v15, hv16, h⟩ := px_let_some h
        rw [← hv16]
        refine px_blk (i' := 39) (L' := [some (.ref 22), some (.int y7), some (.int y8), some (.int v15), some (.int (0 : Int32))]) (S' := []) (w' := px_w K s10 t11) (q := []) 2 hM rfl trivial ?_
        rcases px_lp_some h with ⟨i17, vs18, s19, t20, hl21, h⟩ | ⟨z22, hl21, h⟩
        · by_cases hi23 : i17 = 49
          · subst hi23
            rw [if_pos rfl] at h
            have h9 := px_v0_some h
            clear h
            obtain ⟨rfl, h⟩ := h9
            refine px_E_le (px_leC_L _ _ (by simp [px_leC, px_le1, Value.category])) (e_l_T_take_22_39 K N v15 N (0 : Int32) s10 t11 _ hl21 _ _ ?_)
            show px_E px_ET px_P 3 148 49 [none, none, none, some (.int v15), none] [] (px_w K s19 t20) _ _
            refine px_blk (i' := 50) (L' := [none, none, none, some (.int v15), none]) (S' := [.int v15]) (w' := px_w K s19 t20) (q := []) 1 hM rfl trivial ?_
            cases h
            exact px_E_ret hM rfl rfl rfl trivial
          · rw [if_neg hi23] at h
            cases h
        · cases h
          exact px_E_le (px_leC_L _ _ (by simp [px_leC, px_le1, Value.category])) (e_l_T_take_22_39 K N v15 N (0 : Int32) s10 t11 _ hl21 _ _ ⟨rfl, rfl⟩)
      · cases h
    · rw [if_neg hi9] at h
      by_cases hi24 : i1 = 53
      · subst hi24
        rw [if_pos rfl] at h
        have h9 := px_v0_some h
        clear h
        obtain ⟨rfl, h⟩ := h9
        refine e_l_T_take_22_2 K N N (0 : Int32) s t _ hl5 _ _ ?_
        show px_E px_ET px_P 3 148 53 [none, none, none, none, none] [] (px_w K s3 t4) _ _
        refine px_blk (i' := 54) (L' := [none, none, none, none, none]) (S' := [.int (0 : Int32)]) (w' := px_w K s3 t4) (q := []) 1 hM rfl trivial ?_
        cases h
        exact px_E_ret hM rfl rfl rfl trivial
      · rw [if_neg hi24] at h
        cases h
  · cases h
    exact e_l_T_take_22_2 K N N (0 : Int32) s t _ hl5 _ _ ⟨rfl, rfl⟩
noncomputable def f_T_tellInode_22 (K : px_K) (N : Nat) (a0 : Int32) (a1 : Int32) (a2 : Int32) (s : px_S) (t : px_W) : Option px_Res :=
  (px_bv (f_T_tell_22 K N ((30 : Int32) + (a0 / (2 : Int32))) (((8 : Int32) * (a0 - a0 / (2 : Int32) * (2 : Int32))) + a1) a2 s t) (fun s1 t2 => (some (.inl none, s1, t2))) (fun x5 s1 t2 => none))
set_option maxRecDepth 100000 in
theorem e_T_tellInode_22 (K : px_K) (N : Nat) (a0 : Int32) (a1 : Int32) (a2 : Int32) (s : px_S) (t : px_W) (r : px_Res) (h : f_T_tellInode_22 K N a0 a1 a2 s t = some r) : px_E px_ET px_P 3 140 0 (px_ent 4 [.ref 22, .int a0, .int a1, .int a2]) [] (px_w K s t) r.1 (px_w K r.2.1 r.2.2) := by
  have hM : px_P[140]? = some pm_T_tellInode := rfl
  unfold f_T_tellInode_22 at h
  refine px_blk (i' := 12) (L' := [some (.ref 22), some (.int a0), some (.int a1), some (.int a2)]) (S' := [.int a1, .int ((8 : Int32) * (a0 - a0 / (2 : Int32) * (2 : Int32))), .int ((30 : Int32) + (a0 / (2 : Int32))), .ref 22]) (w' := px_w K s t) (q := [¬ (2 : Int32) = 0, ¬ (2 : Int32) = 0]) 12 hM rfl (show (¬ (2 : Int32) = 0) ∧ (¬ (2 : Int32) = 0) from ⟨(by decide), (by decide)⟩) ?_
  refine px_blk (i' := 14) (L' := [some (.ref 22), some (.int a0), some (.int a1), some (.int a2)]) (S' := [.int a2, .int (((8 : Int32) * (a0 - a0 / (2 : Int32) * (2 : Int32))) + a1), .int ((30 : Int32) + (a0 / (2 : Int32))), .ref 22]) (w' := px_w K s t) (q := []) 2 hM rfl trivial ?_
  rcases px_bv_some h with ⟨s1, t2, hk3, h⟩ | ⟨x5, s1, t2, hk3, h⟩
  · refine px_E_call hM rfl rfl rfl rfl (px_E_mono (by decide) (e_T_tell_22 K N ((30 : Int32) + (a0 / (2 : Int32))) (((8 : Int32) * (a0 - a0 / (2 : Int32) * (2 : Int32))) + a1) a2 s t _ hk3)) ?_
    cases h
    exact px_E_ret hM rfl rfl rfl trivial
  · cases h
noncomputable def f_T_tellBlockOf_22 (K : px_K) (N : Nat) (a0 : Int32) (a1 : Int32) (a2 : Int32) (s : px_S) (t : px_W) : Option px_Res :=
  (if (4 : Int32) ≤ a1 then (px_bi (f_T_indirectOf_22 K N a0 s t) (fun v5 s2 t3 => (if v5 = 0 then (some (.inl none, s2, t3)) else (px_bi (f_T_indirectOf_22 K N a0 s2 t3) (fun v11 s8 t9 => (px_bv (f_T_tell_22 K N v11 (a1 - (4 : Int32)) a2 s8 t9) (fun s13 t14 => (some (.inl none, s13, t14))) (fun x17 s13 t14 => none))) (fun x12 s8 t9 => none)))) (fun x6 s2 t3 => none)) else (px_bv (f_T_tellInode_22 K N a0 ((2 : Int32) + a1) a2 s t) (fun s18 t19 => (some (.inl none, s18, t19))) (fun x22 s18 t19 => none)))
set_option maxRecDepth 100000 in
theorem e_T_tellBlockOf_22 (K : px_K) (N : Nat) (a0 : Int32) (a1 : Int32) (a2 : Int32) (s : px_S) (t : px_W) (r : px_Res) (h : f_T_tellBlockOf_22 K N a0 a1 a2 s t = some r) : px_E px_ET px_P 4 146 0 (px_ent 4 [.ref 22, .int a0, .int a1, .int a2]) [] (px_w K s t) r.1 (px_w K r.2.1 r.2.2) := by
  have hM : px_P[146]? = some pm_T_tellBlockOf := rfl
  unfold f_T_tellBlockOf_22 at h
  refine px_blkif (c := (4 : Int32) ≤ a1) (t := 11) (e := 3) (L' := [some (.ref 22), some (.int a0), some (.int a1), some (.int a2)]) (S' := []) (w' := px_w K s t) (q := []) 3 hM rfl trivial (fun hc1 => ?_) (fun hc1 => ?_)
  · rw [if_pos hc1] at h
    refine px_blk (i' := 13) (L' := [some (.ref 22), some (.int a0), some (.int a1), some (.int a2)]) (S' := [.int a0, .ref 22]) (w' := px_w K s t) (q := []) 2 hM rfl trivial ?_
    rcases px_bi_some h with ⟨v5, s2, t3, hk4, h⟩ | ⟨x6, s2, t3, hk4, h⟩
    · refine px_E_call hM rfl rfl rfl rfl (px_E_mono (by decide) (e_T_indirectOf_22 K N a0 s t _ hk4)) ?_
      refine px_blkif (c := v5 = 0) (t := 24) (e := 15) (L' := [some (.ref 22), some (.int a0), some (.int a1), some (.int a2)]) (S' := []) (w' := px_w K s2 t3) (q := []) 1 hM rfl trivial (fun hc7 => ?_) (fun hc7 => ?_)
      · rw [if_pos hc7] at h
        cases h
        exact px_E_ret hM rfl rfl rfl trivial
      · rw [if_neg hc7] at h
        refine px_blk (i' := 18) (L' := [some (.ref 22), some (.int a0), some (.int a1), some (.int a2)]) (S' := [.int a0, .ref 22, .ref 22]) (w' := px_w K s2 t3) (q := []) 3 hM rfl trivial ?_
        rcases px_bi_some h with ⟨v11, s8, t9, hk10, h⟩ | ⟨x12, s8, t9, hk10, h⟩
        · refine px_E_call hM rfl rfl rfl rfl (px_E_mono (by decide) (e_T_indirectOf_22 K N a0 s2 t3 _ hk10)) ?_
          refine px_blk (i' := 23) (L' := [some (.ref 22), some (.int a0), some (.int a1), some (.int a2)]) (S' := [.int a2, .int (a1 - (4 : Int32)), .int v11, .ref 22]) (w' := px_w K s8 t9) (q := []) 4 hM rfl trivial ?_
          rcases px_bv_some h with ⟨s13, t14, hk15, h⟩ | ⟨x17, s13, t14, hk15, h⟩
          · refine px_E_call hM rfl rfl rfl rfl (px_E_mono (by decide) (e_T_tell_22 K N v11 (a1 - (4 : Int32)) a2 s8 t9 _ hk15)) ?_
            cases h
            exact px_E_ret hM rfl rfl rfl trivial
          · cases h
        · cases h
    · cases h
  · rw [if_neg hc1] at h
    refine px_blk (i' := 9) (L' := [some (.ref 22), some (.int a0), some (.int a1), some (.int a2)]) (S' := [.int a2, .int ((2 : Int32) + a1), .int a0, .ref 22]) (w' := px_w K s t) (q := []) 6 hM rfl trivial ?_
    rcases px_bv_some h with ⟨s18, t19, hk20, h⟩ | ⟨x22, s18, t19, hk20, h⟩
    · refine px_E_call hM rfl rfl rfl rfl (px_E_mono (by decide) (e_T_tellInode_22 K N a0 ((2 : Int32) + a1) a2 s t _ hk20)) ?_
      refine px_blk (i' := 24) (L' := [some (.ref 22), some (.int a0), some (.int a1), some (.int a2)]) (S' := []) (w' := px_w K s18 t19) (q := []) 1 hM rfl trivial ?_
      cases h
      exact px_E_ret hM rfl rfl rfl trivial
    · cases h
noncomputable def f_T_addBlock_22 (K : px_K) (N : Nat) (a0 : Int32) (a1 : Int32) (s : px_S) (t : px_W) : Option px_Res :=
  (if a1 < (4 : Int32) then (px_bi (f_T_usedBlocks_22 K N s t) (fun v5 s2 t3 => (px_let ((64 : Int32) - v5) (fun v7 => (if a1 < 0 then (some (.inl (some (.int (0 : Int32))), s2, t3)) else (if (20 : Int32) ≤ a1 then (some (.inl (some (.int (0 : Int32))), s2, t3)) else (if (if (0 : Int32) = 0 then (1 : Int32) else (2 : Int32)) ≤ v7 then (if (0 : Int32) = 0 then (px_bi (f_T_take_22 K N s2 t3) (fun v16 s13 t14 => (px_bv (f_T_tellBlockOf_22 K N a0 a1 v16 s13 t14) (fun s18 t19 => (some (.inl (some (.int v16)), s18, t19))) (fun x22 s18 t19 => none))) (fun x17 s13 t14 => none)) else (px_bi (f_T_take_22 K N s2 t3) (fun v26 s23 t24 => (px_bv (f_T_tellInode_22 K N a0 (6 : Int32) v26 s23 t24) (fun s28 t29 => (px_bi (f_T_take_22 K N s28 t29) (fun v36 s33 t34 => (px_bv (f_T_tellBlockOf_22 K N a0 a1 v36 s33 t34) (fun s38 t39 => (some (.inl (some (.int v36)), s38, t39))) (fun x42 s38 t39 => none))) (fun x37 s33 t34 => none))) (fun x32 s28 t29 => none))) (fun x27 s23 t24 => none))) else (some (.inl (some (.int (0 : Int32))), s2, t3)))))))) (fun x6 s2 t3 => none)) else (px_bi (f_T_indirectOf_22 K N a0 s t) (fun v47 s44 t45 => (px_let (if ¬ v47 = 0 then (0 : Int32) else (1 : Int32)) (fun v49 => (px_bi (f_T_usedBlocks_22 K N s44 t45) (fun v54 s51 t52 => (px_let ((64 : Int32) - v54) (fun v56 => (if a1 < 0 then (some (.inl (some (.int (0 : Int32))), s51, t52)) else (if (20 : Int32) ≤ a1 then (some (.inl (some (.int (0 : Int32))), s51, t52)) else (if (if v49 = 0 then (1 : Int32) else (2 : Int32)) ≤ v56 then (if v49 = 0 then (px_bi (f_T_take_22 K N s51 t52) (fun v65 s62 t63 => (px_bv (f_T_tellBlockOf_22 K N a0 a1 v65 s62 t63) (fun s67 t68 => (some (.inl (some (.int v65)), s67, t68))) (fun x71 s67 t68 => none))) (fun x66 s62 t63 => none)) else (px_bi (f_T_take_22 K N s51 t52) (fun v75 s72 t73 => (px_bv (f_T_tellInode_22 K N a0 (6 : Int32) v75 s72 t73) (fun s77 t78 => (px_bi (f_T_take_22 K N s77 t78) (fun v85 s82 t83 => (px_bv (f_T_tellBlockOf_22 K N a0 a1 v85 s82 t83) (fun s87 t88 => (some (.inl (some (.int v85)), s87, t88))) (fun x91 s87 t88 => none))) (fun x86 s82 t83 => none))) (fun x81 s77 t78 => none))) (fun x76 s72 t73 => none))) else (some (.inl (some (.int (0 : Int32))), s51, t52)))))))) (fun x55 s51 t52 => none))))) (fun x48 s44 t45 => none)))
set_option maxRecDepth 100000 in
theorem e_T_addBlock_22 (K : px_K) (N : Nat) (a0 : Int32) (a1 : Int32) (s : px_S) (t : px_W) (r : px_Res) (h : f_T_addBlock_22 K N a0 a1 s t = some r) : px_E px_ET px_P 5 150 0 (px_ent 6 [.ref 22, .int a0, .int a1]) [] (px_w K s t) r.1 (px_w K r.2.1 r.2.2) := by
  have hM : px_P[150]? = some pm_T_addBlock := rfl
  unfold f_T_addBlock_22 at h
  refine px_blkif (c := a1 < (4 : Int32)) (t := 9) (e := 3) (L' := [some (.ref 22), some (.int a0), some (.int a1), none, none, none]) (S' := []) (w' := px_w K s t) (q := []) 3 hM rfl trivial (fun hc1 => ?_) (fun hc1 => ?_)
  · rw [if_pos hc1] at h
    refine px_blk (i' := 13) (L' := [some (.ref 22), some (.int a0), some (.int a1), some (.int (0 : Int32)), none, none]) (S' := [.ref 22, .int (64 : Int32)]) (w' := px_w K s t) (q := []) 4 hM rfl trivial ?_
    rcases px_bi_some h with ⟨v5, s2, t3, hk4, h⟩ | ⟨x6, s2, t3, hk4, h⟩
    · refine px_E_call hM rfl rfl rfl rfl (px_E_mono (by decide) (e_T_usedBlocks_22 K N s t _ hk4)) ?_
      refine px_blk (i' := 16) (L' := [some (.ref 22), some (.int a0), some (.int a1), some (.int (0 : Int32)), some (.int ((64 : Int32) - v5)), none]) (S' := []) (w' := px_w K s2 t3) (q := []) 2 hM rfl trivial ?_
      obtain ⟨v7, hv8, h⟩ := px_let_some h
      rw [← hv8]
      refine px_blkif (c := a1 < 0) (t := 28) (e := 18) (L' := [some (.ref 22), some (.int a0), some (.int a1), some (.int (0 : Int32)), some (.int v7), none]) (S' := []) (w' := px_w K s2 t3) (q := []) 2 hM rfl trivial (fun hc9 => ?_) (fun hc9 => ?_)
      · rw [if_pos hc9] at h
        refine px_blk (i' := 29) (L' := [some (.ref 22), some (.int a0), some (.int a1), some (.int (0 : Int32)), some (.int v7), none]) (S' := [.int (0 : Int32)]) (w' := px_w K s2 t3) (q := []) 1 hM rfl trivial ?_
        cases h
        exact px_E_ret hM rfl rfl rfl trivial
      · rw [if_neg hc9] at h
        refine px_blkif (c := (20 : Int32) ≤ a1) (t := 28) (e := 21) (L' := [some (.ref 22), some (.int a0), some (.int a1), some (.int (0 : Int32)), some (.int v7), none]) (S' := []) (w' := px_w K s2 t3) (q := []) 3 hM rfl trivial (fun hc10 => ?_) (fun hc10 => ?_)
        · rw [if_pos hc10] at h
          refine px_blk (i' := 29) (L' := [some (.ref 22), some (.int a0), some (.int a1), some (.int (0 : Int32)), some (.int v7), none]) (S' := [.int (0 : Int32)]) (w' := px_w K s2 t3) (q := []) 1 hM rfl trivial ?_
          cases h
          exact px_E_ret hM rfl rfl rfl trivial
        · rw [if_neg hc10] at h
          refine px_blk (i' := 23) (L' := [some (.ref 22), some (.int a0), some (.int a1), some (.int (0 : Int32)), some (.int v7), none]) (S' := [.int (0 : Int32), .int v7]) (w' := px_w K s2 t3) (q := []) 2 hM rfl trivial ?_
          have hK : px_E px_ET px_P 5 150 27 [some (.ref 22), some (.int a0), some (.int a1), some (.int (0 : Int32)), some (.int v7), none] [.int (if (0 : Int32) = 0 then (1 : Int32) else (2 : Int32)), .int v7] (px_w K s2 t3) r.1 (px_w K r.2.1 r.2.2) := by
            refine px_blkif (c := (if (0 : Int32) = 0 then (1 : Int32) else (2 : Int32)) ≤ v7) (t := 30) (e := 28) (L' := [some (.ref 22), some (.int a0), some (.int a1), some (.int (0 : Int32)), some (.int v7), none]) (S' := []) (w' := px_w K s2 t3) (q := []) 1 hM rfl trivial (fun hc11 => ?_) (fun hc11 => ?_)
            · rw [if_pos hc11] at h
              refine px_blkif (c := (0 : Int32) = 0) (t := 38) (e := 32) (L' := [some (.ref 22), some (.int a0), some (.int a1), some (.int (0 : Int32)), some (.int v7), none]) (S' := []) (w' := px_w K s2 t3) (q := []) 2 hM rfl trivial (fun hc12 => ?_) (fun hc12 => ?_)
              · rw [if_pos hc12] at h
                refine px_blk (i' := 39) (L' := [some (.ref 22), some (.int a0), some (.int a1), some (.int (0 : Int32)), some (.int v7), none]) (S' := [.ref 22]) (w' := px_w K s2 t3) (q := []) 1 hM rfl trivial ?_
                rcases px_bi_some h with ⟨v16, s13, t14, hk15, h⟩ | ⟨x17, s13, t14, hk15, h⟩
                · refine px_E_call hM rfl rfl rfl rfl (px_E_mono (by decide) (e_T_take_22 K N s2 t3 _ hk15)) ?_
                  refine px_blk (i' := 45) (L' := [some (.ref 22), some (.int a0), some (.int a1), some (.int (0 : Int32)), some (.int v7), some (.int v16)]) (S' := [.int v16, .int a1, .int a0, .ref 22]) (w' := px_w K s13 t14) (q := []) 5 hM rfl trivial ?_
                  rcases px_bv_some h with ⟨s18, t19, hk20, h⟩ | ⟨x22, s18, t19, hk20, h⟩
                  · refine px_E_call hM rfl rfl rfl rfl (px_E_mono (by decide) (e_T_tellBlockOf_22 K N a0 a1 v16 s13 t14 _ hk20)) ?_
                    refine px_blk (i' := 47) (L' := [some (.ref 22), some (.int a0), some (.int a1), some (.int (0 : Int32)), some (.int v7), some (.int v16)]) (S' := [.int v16]) (w' := px_w K s18 t19) (q := []) 1 hM rfl trivial ?_
                    cases h
                    exact px_E_ret hM rfl rfl rfl trivial
                  · cases h
                · cases h
              · rw [if_neg hc12] at h
                refine px_blk (i' := 36) (L' := [some (.ref 22), some (.int a0), some (.int a1), some (.int (0 : Int32)), some (.int v7), none]) (S' := [.ref 22, .int (6 : Int32), .int a0, .ref 22]) (w' := px_w K s2 t3) (q := []) 4 hM rfl trivial ?_
                rcases px_bi_some h with ⟨v26, s23, t24, hk25, h⟩ | ⟨x27, s23, t24, hk25, h⟩
                · refine px_E_call hM rfl rfl rfl rfl (px_E_mono (by decide) (e_T_take_22 K N s2 t3 _ hk25)) ?_
                  rcases px_bv_some h with ⟨s28, t29, hk30, h⟩ | ⟨x32, s28, t29, hk30, h⟩
                  · refine px_E_call hM rfl rfl rfl rfl (px_E_mono (by decide) (e_T_tellInode_22 K N a0 (6 : Int32) v26 s23 t24 _ hk30)) ?_
                    refine px_blk (i' := 39) (L' := [some (.ref 22), some (.int a0), some (.int a1), some (.int (0 : Int32)), some (.int v7), none]) (S' := [.ref 22]) (w' := px_w K s28 t29) (q := []) 1 hM rfl trivial ?_
                    rcases px_bi_some h with ⟨v36, s33, t34, hk35, h⟩ | ⟨x37, s33, t34, hk35, h⟩
                    · refine px_E_call hM rfl rfl rfl rfl (px_E_mono (by decide) (e_T_take_22 K N s28 t29 _ hk35)) ?_
                      refine px_blk (i' := 45) (L' := [some (.ref 22), some (.int a0), some (.int a1), some (.int (0 : Int32)), some (.int v7), some (.int v36)]) (S' := [.int v36, .int a1, .int a0, .ref 22]) (w' := px_w K s33 t34) (q := []) 5 hM rfl trivial ?_
                      rcases px_bv_some h with ⟨s38, t39, hk40, h⟩ | ⟨x42, s38, t39, hk40, h⟩
                      · refine px_E_call hM rfl rfl rfl rfl (px_E_mono (by decide) (e_T_tellBlockOf_22 K N a0 a1 v36 s33 t34 _ hk40)) ?_
                        refine px_blk (i' := 47) (L' := [some (.ref 22), some (.int a0), some (.int a1), some (.int (0 : Int32)), some (.int v7), some (.int v36)]) (S' := [.int v36]) (w' := px_w K s38 t39) (q := []) 1 hM rfl trivial ?_
                        cases h
                        exact px_E_ret hM rfl rfl rfl trivial
                      · cases h
                    · cases h
                  · cases h
                · cases h
            · rw [if_neg hc11] at h
              refine px_blk (i' := 29) (L' := [some (.ref 22), some (.int a0), some (.int a1), some (.int (0 : Int32)), some (.int v7), none]) (S' := [.int (0 : Int32)]) (w' := px_w K s2 t3) (q := []) 1 hM rfl trivial ?_
              cases h
              exact px_E_ret hM rfl rfl rfl trivial
          clear h
          refine px_blkif (c := (0 : Int32) = 0) (t := 26) (e := 24) (L' := [some (.ref 22), some (.int a0), some (.int a1), some (.int (0 : Int32)), some (.int v7), none]) (S' := [.int v7]) (w' := px_w K s2 t3) (q := []) 1 hM rfl trivial (fun hc43 => ?_) (fun hc43 => ?_)
          · rw [if_pos hc43] at hK
            exact px_blk (i' := 27) (L' := [some (.ref 22), some (.int a0), some (.int a1), some (.int (0 : Int32)), some (.int v7), none]) (S' := [.int (1 : Int32), .int v7]) (w' := px_w K s2 t3) (q := []) 1 hM rfl trivial hK
          · rw [if_neg hc43] at hK
            exact px_blk (i' := 27) (L' := [some (.ref 22), some (.int a0), some (.int a1), some (.int (0 : Int32)), some (.int v7), none]) (S' := [.int (2 : Int32), .int v7]) (w' := px_w K s2 t3) (q := []) 2 hM rfl trivial hK
    · cases h
  · rw [if_neg hc1] at h
    refine px_blk (i' := 5) (L' := [some (.ref 22), some (.int a0), some (.int a1), none, none, none]) (S' := [.int a0, .ref 22]) (w' := px_w K s t) (q := []) 2 hM rfl trivial ?_
    rcases px_bi_some h with ⟨v47, s44, t45, hk46, h⟩ | ⟨x48, s44, t45, hk46, h⟩
    · refine px_E_call hM rfl rfl rfl rfl (px_E_mono (by decide) (e_T_indirectOf_22 K N a0 s t _ hk46)) ?_
      have hK : px_E px_ET px_P 5 150 10 [some (.ref 22), some (.int a0), some (.int a1), none, none, none] [.int (if ¬ v47 = 0 then (0 : Int32) else (1 : Int32))] (px_w K s44 t45) r.1 (px_w K r.2.1 r.2.2) := by
        refine px_blk (i' := 11) (L' := [some (.ref 22), some (.int a0), some (.int a1), some (.int (if ¬ v47 = 0 then (0 : Int32) else (1 : Int32))), none, none]) (S' := []) (w' := px_w K s44 t45) (q := []) 1 hM rfl trivial ?_
        obtain ⟨v49, hv50, h⟩ := px_let_some h
        rw [← hv50]
        refine px_blk (i' := 13) (L' := [some (.ref 22), some (.int a0), some (.int a1), some (.int v49), none, none]) (S' := [.ref 22, .int (64 : Int32)]) (w' := px_w K s44 t45) (q := []) 2 hM rfl trivial ?_
        rcases px_bi_some h with ⟨v54, s51, t52, hk53, h⟩ | ⟨x55, s51, t52, hk53, h⟩
        · refine px_E_call hM rfl rfl rfl rfl (px_E_mono (by decide) (e_T_usedBlocks_22 K N s44 t45 _ hk53)) ?_
          refine px_blk (i' := 16) (L' := [some (.ref 22), some (.int a0), some (.int a1), some (.int v49), some (.int ((64 : Int32) - v54)), none]) (S' := []) (w' := px_w K s51 t52) (q := []) 2 hM rfl trivial ?_
          obtain ⟨v56, hv57, h⟩ := px_let_some h
          rw [← hv57]
          refine px_blkif (c := a1 < 0) (t := 28) (e := 18) (L' := [some (.ref 22), some (.int a0), some (.int a1), some (.int v49), some (.int v56), none]) (S' := []) (w' := px_w K s51 t52) (q := []) 2 hM rfl trivial (fun hc58 => ?_) (fun hc58 => ?_)
          · rw [if_pos hc58] at h
            refine px_blk (i' := 29) (L' := [some (.ref 22), some (.int a0), some (.int a1), some (.int v49), some (.int v56), none]) (S' := [.int (0 : Int32)]) (w' := px_w K s51 t52) (q := []) 1 hM rfl trivial ?_
            cases h
            exact px_E_ret hM rfl rfl rfl trivial
          · rw [if_neg hc58] at h
            refine px_blkif (c := (20 : Int32) ≤ a1) (t := 28) (e := 21) (L' := [some (.ref 22), some (.int a0), some (.int a1), some (.int v49), some (.int v56), none]) (S' := []) (w' := px_w K s51 t52) (q := []) 3 hM rfl trivial (fun hc59 => ?_) (fun hc59 => ?_)
            · rw [if_pos hc59] at h
              refine px_blk (i' := 29) (L' := [some (.ref 22), some (.int a0), some (.int a1), some (.int v49), some (.int v56), none]) (S' := [.int (0 : Int32)]) (w' := px_w K s51 t52) (q := []) 1 hM rfl trivial ?_
              cases h
              exact px_E_ret hM rfl rfl rfl trivial
            · rw [if_neg hc59] at h
              refine px_blk (i' := 23) (L' := [some (.ref 22), some (.int a0), some (.int a1), some (.int v49), some (.int v56), none]) (S' := [.int v49, .int v56]) (w' := px_w K s51 t52) (q := []) 2 hM rfl trivial ?_
              have hK : px_E px_ET px_P 5 150 27 [some (.ref 22), some (.int a0), some (.int a1), some (.int v49), some (.int v56), none] [.int (if v49 = 0 then (1 : Int32) else (2 : Int32)), .int v56] (px_w K s51 t52) r.1 (px_w K r.2.1 r.2.2) := by
                refine px_blkif (c := (if v49 = 0 then (1 : Int32) else (2 : Int32)) ≤ v56) (t := 30) (e := 28) (L' := [some (.ref 22), some (.int a0), some (.int a1), some (.int v49), some (.int v56), none]) (S' := []) (w' := px_w K s51 t52) (q := []) 1 hM rfl trivial (fun hc60 => ?_) (fun hc60 => ?_)
                · rw [if_pos hc60] at h
                  refine px_blkif (c := v49 = 0) (t := 38) (e := 32) (L' := [some (.ref 22), some (.int a0), some (.int a1), some (.int v49), some (.int v56), none]) (S' := []) (w' := px_w K s51 t52) (q := []) 2 hM rfl trivial (fun hc61 => ?_) (fun hc61 => ?_)
                  · rw [if_pos hc61] at h
                    refine px_blk (i' := 39) (L' := [some (.ref 22), some (.int a0), some (.int a1), some (.int v49), some (.int v56), none]) (S' := [.ref 22]) (w' := px_w K s51 t52) (q := []) 1 hM rfl trivial ?_
                    rcases px_bi_some h with ⟨v65, s62, t63, hk64, h⟩ | ⟨x66, s62, t63, hk64, h⟩
                    · refine px_E_call hM rfl rfl rfl rfl (px_E_mono (by decide) (e_T_take_22 K N s51 t52 _ hk64)) ?_
                      refine px_blk (i' := 45) (L' := [some (.ref 22), some (.int a0), some (.int a1), some (.int v49), some (.int v56), some (.int v65)]) (S' := [.int v65, .int a1, .int a0, .ref 22]) (w' := px_w K s62 t63) (q := []) 5 hM rfl trivial ?_
                      rcases px_bv_some h with ⟨s67, t68, hk69, h⟩ | ⟨x71, s67, t68, hk69, h⟩
                      · refine px_E_call hM rfl rfl rfl rfl (px_E_mono (by decide) (e_T_tellBlockOf_22 K N a0 a1 v65 s62 t63 _ hk69)) ?_
                        refine px_blk (i' := 47) (L' := [some (.ref 22), some (.int a0), some (.int a1), some (.int v49), some (.int v56), some (.int v65)]) (S' := [.int v65]) (w' := px_w K s67 t68) (q := []) 1 hM rfl trivial ?_
                        cases h
                        exact px_E_ret hM rfl rfl rfl trivial
                      · cases h
                    · cases h
                  · rw [if_neg hc61] at h
                    refine px_blk (i' := 36) (L' := [some (.ref 22), some (.int a0), some (.int a1), some (.int v49), some (.int v56), none]) (S' := [.ref 22, .int (6 : Int32), .int a0, .ref 22]) (w' := px_w K s51 t52) (q := []) 4 hM rfl trivial ?_
                    rcases px_bi_some h with ⟨v75, s72, t73, hk74, h⟩ | ⟨x76, s72, t73, hk74, h⟩
                    · refine px_E_call hM rfl rfl rfl rfl (px_E_mono (by decide) (e_T_take_22 K N s51 t52 _ hk74)) ?_
                      rcases px_bv_some h with ⟨s77, t78, hk79, h⟩ | ⟨x81, s77, t78, hk79, h⟩
                      · refine px_E_call hM rfl rfl rfl rfl (px_E_mono (by decide) (e_T_tellInode_22 K N a0 (6 : Int32) v75 s72 t73 _ hk79)) ?_
                        refine px_blk (i' := 39) (L' := [some (.ref 22), some (.int a0), some (.int a1), some (.int v49), some (.int v56), none]) (S' := [.ref 22]) (w' := px_w K s77 t78) (q := []) 1 hM rfl trivial ?_
                        rcases px_bi_some h with ⟨v85, s82, t83, hk84, h⟩ | ⟨x86, s82, t83, hk84, h⟩
                        · refine px_E_call hM rfl rfl rfl rfl (px_E_mono (by decide) (e_T_take_22 K N s77 t78 _ hk84)) ?_
                          refine px_blk (i' := 45) (L' := [some (.ref 22), some (.int a0), some (.int a1), some (.int v49), some (.int v56), some (.int v85)]) (S' := [.int v85, .int a1, .int a0, .ref 22]) (w' := px_w K s82 t83) (q := []) 5 hM rfl trivial ?_
                          rcases px_bv_some h with ⟨s87, t88, hk89, h⟩ | ⟨x91, s87, t88, hk89, h⟩
                          · refine px_E_call hM rfl rfl rfl rfl (px_E_mono (by decide) (e_T_tellBlockOf_22 K N a0 a1 v85 s82 t83 _ hk89)) ?_
                            refine px_blk (i' := 47) (L' := [some (.ref 22), some (.int a0), some (.int a1), some (.int v49), some (.int v56), some (.int v85)]) (S' := [.int v85]) (w' := px_w K s87 t88) (q := []) 1 hM rfl trivial ?_
                            cases h
                            exact px_E_ret hM rfl rfl rfl trivial
                          · cases h
                        · cases h
                      · cases h
                    · cases h
                · rw [if_neg hc60] at h
                  refine px_blk (i' := 29) (L' := [some (.ref 22), some (.int a0), some (.int a1), some (.int v49), some (.int v56), none]) (S' := [.int (0 : Int32)]) (w' := px_w K s51 t52) (q := []) 1 hM rfl trivial ?_
                  cases h
                  exact px_E_ret hM rfl rfl rfl trivial
              clear h
              refine px_blkif (c := v49 = 0) (t := 26) (e := 24) (L' := [some (.ref 22), some (.int a0), some (.int a1), some (.int v49), some (.int v56), none]) (S' := [.int v56]) (w' := px_w K s51 t52) (q := []) 1 hM rfl trivial (fun hc92 => ?_) (fun hc92 => ?_)
              · rw [if_pos hc92] at hK
                exact px_blk (i' := 27) (L' := [some (.ref 22), some (.int a0), some (.int a1), some (.int v49), some (.int v56), none]) (S' := [.int (1 : Int32), .int v56]) (w' := px_w K s51 t52) (q := []) 1 hM rfl trivial hK
              · rw [if_neg hc92] at hK
                exact px_blk (i' := 27) (L' := [some (.ref 22), some (.int a0), some (.int a1), some (.int v49), some (.int v56), none]) (S' := [.int (2 : Int32), .int v56]) (w' := px_w K s51 t52) (q := []) 2 hM rfl trivial hK
        · cases h
      clear h
      refine px_blkif (c := ¬ v47 = 0) (t := 9) (e := 7) (L' := [some (.ref 22), some (.int a0), some (.int a1), none, none, none]) (S' := []) (w' := px_w K s44 t45) (q := []) 1 hM rfl trivial (fun hc93 => ?_) (fun hc93 => ?_)
      · rw [if_pos hc93] at hK
        exact px_blk (i' := 10) (L' := [some (.ref 22), some (.int a0), some (.int a1), none, none, none]) (S' := [.int (0 : Int32)]) (w' := px_w K s44 t45) (q := []) 1 hM rfl trivial hK
      · rw [if_neg hc93] at hK
        exact px_blk (i' := 10) (L' := [some (.ref 22), some (.int a0), some (.int a1), none, none, none]) (S' := [.int (1 : Int32)]) (w' := px_w K s44 t45) (q := []) 2 hM rfl trivial hK
    · cases h
noncomputable def f_T_placeForNew_22 (K : px_K) (N : Nat) (a0 : Int32) (s : px_S) (t : px_W) : Option px_Res :=
  (px_bi (f_T_placeOf_22 K N a0 (0 : Int32) s t) (fun v4 s1 t2 => (if v4 < 0 then (px_bi (f_T_placesOf_22 K N a0 s1 t2) (fun v10 s7 t8 => (px_bi (f_T_addBlock_22 K N a0 (v10 / (8 : Int32)) s7 t8) (fun v15 s12 t13 => (if ¬ v15 = 0 then (px_bv (f_T_tellInode_22 K N a0 (1 : Int32) (v10 + (8 : Int32)) s12 t13) (fun s18 t19 => (some (.inl (some (.int v10)), s18, t19))) (fun x22 s18 t19 => none)) else (some (.inl (some (.int (-1 : Int32))), s12, t13)))) (fun x16 s12 t13 => none))) (fun x11 s7 t8 => none)) else (some (.inl (some (.int v4)), s1, t2)))) (fun x5 s1 t2 => none))
set_option maxRecDepth 100000 in
theorem e_T_placeForNew_22 (K : px_K) (N : Nat) (a0 : Int32) (s : px_S) (t : px_W) (r : px_Res) (h : f_T_placeForNew_22 K N a0 s t = some r) : px_E px_ET px_P 6 156 0 (px_ent 4 [.ref 22, .int a0]) [] (px_w K s t) r.1 (px_w K r.2.1 r.2.2) := by
  have hM : px_P[156]? = some pm_T_placeForNew := rfl
  unfold f_T_placeForNew_22 at h
  refine px_blk (i' := 3) (L' := [some (.ref 22), some (.int a0), none, none]) (S' := [.int (0 : Int32), .int a0, .ref 22]) (w' := px_w K s t) (q := []) 3 hM rfl trivial ?_
  rcases px_bi_some h with ⟨v4, s1, t2, hk3, h⟩ | ⟨x5, s1, t2, hk3, h⟩
  · refine px_E_call hM rfl rfl rfl rfl (px_E_mono (by decide) (e_T_placeOf_22 K N a0 (0 : Int32) s t _ hk3)) ?_
    refine px_blkif (c := v4 < 0) (t := 9) (e := 7) (L' := [some (.ref 22), some (.int a0), some (.int v4), none]) (S' := []) (w' := px_w K s1 t2) (q := []) 3 hM rfl trivial (fun hc6 => ?_) (fun hc6 => ?_)
    · rw [if_pos hc6] at h
      refine px_blk (i' := 11) (L' := [some (.ref 22), some (.int a0), some (.int v4), none]) (S' := [.int a0, .ref 22]) (w' := px_w K s1 t2) (q := []) 2 hM rfl trivial ?_
      rcases px_bi_some h with ⟨v10, s7, t8, hk9, h⟩ | ⟨x11, s7, t8, hk9, h⟩
      · refine px_E_call hM rfl rfl rfl rfl (px_E_mono (by decide) (e_T_placesOf_22 K N a0 s1 t2 _ hk9)) ?_
        refine px_blk (i' := 18) (L' := [some (.ref 22), some (.int a0), some (.int v4), some (.int v10)]) (S' := [.int (v10 / (8 : Int32)), .int a0, .ref 22]) (w' := px_w K s7 t8) (q := [¬ (8 : Int32) = 0]) 6 hM rfl (show ¬ (8 : Int32) = 0 from (by decide)) ?_
        rcases px_bi_some h with ⟨v15, s12, t13, hk14, h⟩ | ⟨x16, s12, t13, hk14, h⟩
        · refine px_E_call hM rfl rfl rfl rfl (px_E_mono (by decide) (e_T_addBlock_22 K N a0 (v10 / (8 : Int32)) s7 t8 _ hk14)) ?_
          refine px_blkif (c := ¬ v15 = 0) (t := 22) (e := 20) (L' := [some (.ref 22), some (.int a0), some (.int v4), some (.int v10)]) (S' := []) (w' := px_w K s12 t13) (q := []) 1 hM rfl trivial (fun hc17 => ?_) (fun hc17 => ?_)
          · rw [if_pos hc17] at h
            refine px_blk (i' := 28) (L' := [some (.ref 22), some (.int a0), some (.int v4), some (.int v10)]) (S' := [.int (v10 + (8 : Int32)), .int (1 : Int32), .int a0, .ref 22]) (w' := px_w K s12 t13) (q := []) 6 hM rfl trivial ?_
            rcases px_bv_some h with ⟨s18, t19, hk20, h⟩ | ⟨x22, s18, t19, hk20, h⟩
            · refine px_E_call hM rfl rfl rfl rfl (px_E_mono (by decide) (e_T_tellInode_22 K N a0 (1 : Int32) (v10 + (8 : Int32)) s12 t13 _ hk20)) ?_
              refine px_blk (i' := 30) (L' := [some (.ref 22), some (.int a0), some (.int v4), some (.int v10)]) (S' := [.int v10]) (w' := px_w K s18 t19) (q := []) 1 hM rfl trivial ?_
              cases h
              exact px_E_ret hM rfl rfl rfl trivial
            · cases h
          · rw [if_neg hc17] at h
            refine px_blk (i' := 21) (L' := [some (.ref 22), some (.int a0), some (.int v4), some (.int v10)]) (S' := [.int (-1 : Int32)]) (w' := px_w K s12 t13) (q := []) 1 hM rfl trivial ?_
            cases h
            exact px_E_ret hM rfl rfl rfl trivial
        · cases h
      · cases h
    · rw [if_neg hc6] at h
      refine px_blk (i' := 8) (L' := [some (.ref 22), some (.int a0), some (.int v4), none]) (S' := [.int v4]) (w' := px_w K s1 t2) (q := []) 1 hM rfl trivial ?_
      cases h
      exact px_E_ret hM rfl rfl rfl trivial
  · cases h
noncomputable def f_T_tellEntry_22 (K : px_K) (N : Nat) (a0 : Int32) (a1 : Int32) (a2 : Int32) (a3 : Int32) (s : px_S) (t : px_W) : Option px_Res :=
  (px_bi (f_T_blockOf_22 K N a0 (a1 / (8 : Int32)) s t) (fun v4 s1 t2 => (px_bv (f_T_tell_22 K N v4 ((2 : Int32) * (a1 - a1 / (8 : Int32) * (8 : Int32))) a2 s1 t2) (fun s6 t7 => (px_bv (f_T_tell_22 K N v4 (((2 : Int32) * (a1 - a1 / (8 : Int32) * (8 : Int32))) + (1 : Int32)) a3 s6 t7) (fun s11 t12 => (some (.inl none, s11, t12))) (fun x15 s11 t12 => none))) (fun x10 s6 t7 => none))) (fun x5 s1 t2 => none))
set_option maxRecDepth 100000 in
theorem e_T_tellEntry_22 (K : px_K) (N : Nat) (a0 : Int32) (a1 : Int32) (a2 : Int32) (a3 : Int32) (s : px_S) (t : px_W) (r : px_Res) (h : f_T_tellEntry_22 K N a0 a1 a2 a3 s t = some r) : px_E px_ET px_P 4 152 0 (px_ent 6 [.ref 22, .int a0, .int a1, .int a2, .int a3]) [] (px_w K s t) r.1 (px_w K r.2.1 r.2.2) := by
  have hM : px_P[152]? = some pm_T_tellEntry := rfl
  unfold f_T_tellEntry_22 at h
  refine px_blk (i' := 5) (L' := [some (.ref 22), some (.int a0), some (.int a1), some (.int a2), some (.int a3), none]) (S' := [.int (a1 / (8 : Int32)), .int a0, .ref 22]) (w' := px_w K s t) (q := [¬ (8 : Int32) = 0]) 5 hM rfl (show ¬ (8 : Int32) = 0 from (by decide)) ?_
  rcases px_bi_some h with ⟨v4, s1, t2, hk3, h⟩ | ⟨x5, s1, t2, hk3, h⟩
  · refine px_E_call hM rfl rfl rfl rfl (px_E_mono (by decide) (e_T_blockOf_22 K N a0 (a1 / (8 : Int32)) s t _ hk3)) ?_
    refine px_blk (i' := 15) (L' := [some (.ref 22), some (.int a0), some (.int a1), some (.int a2), some (.int a3), some (.int v4)]) (S' := [.int a2, .int ((2 : Int32) * (a1 - a1 / (8 : Int32) * (8 : Int32))), .int v4, .ref 22]) (w' := px_w K s1 t2) (q := [¬ (8 : Int32) = 0]) 9 hM rfl (show ¬ (8 : Int32) = 0 from (by decide)) ?_
    rcases px_bv_some h with ⟨s6, t7, hk8, h⟩ | ⟨x10, s6, t7, hk8, h⟩
    · refine px_E_call hM rfl rfl rfl rfl (px_E_mono (by decide) (e_T_tell_22 K N v4 ((2 : Int32) * (a1 - a1 / (8 : Int32) * (8 : Int32))) a2 s1 t2 _ hk8)) ?_
      refine px_blk (i' := 26) (L' := [some (.ref 22), some (.int a0), some (.int a1), some (.int a2), some (.int a3), some (.int v4)]) (S' := [.int a3, .int (((2 : Int32) * (a1 - a1 / (8 : Int32) * (8 : Int32))) + (1 : Int32)), .int v4, .ref 22]) (w' := px_w K s6 t7) (q := [¬ (8 : Int32) = 0]) 10 hM rfl (show ¬ (8 : Int32) = 0 from (by decide)) ?_
      rcases px_bv_some h with ⟨s11, t12, hk13, h⟩ | ⟨x15, s11, t12, hk13, h⟩
      · refine px_E_call hM rfl rfl rfl rfl (px_E_mono (by decide) (e_T_tell_22 K N v4 (((2 : Int32) * (a1 - a1 / (8 : Int32) * (8 : Int32))) + (1 : Int32)) a3 s6 t7 _ hk13)) ?_
        cases h
        exact px_E_ret hM rfl rfl rfl trivial
      · cases h
    · cases h
  · cases h
noncomputable def f_T_create_22 (K : px_K) (N : Nat) (a0 : Int32) (a1 : Int32) (a2 : Int32) (s : px_S) (t : px_W) : Option px_Res :=
  (px_bi (f_T_isDirectory_22 K N a0 s t) (fun v4 s1 t2 => (if v4 = 0 then (some (.inl (some (.int (-4 : Int32))), s1, t2)) else (if (1 : Int32) ≤ a1 then (px_bi (f_T_placeOf_22 K N a0 a1 s1 t2) (fun v11 s8 t9 => (if v11 < 0 then (px_bi (f_T_freeInode_22 K N s8 t9) (fun v17 s14 t15 => (if 0 ≤ v17 then (px_bi (f_T_placeForNew_22 K N a0 s14 t15) (fun v23 s20 t21 => (if 0 ≤ v23 then (px_bv (f_T_tellInode_22 K N v17 (0 : Int32) a2 s20 t21) (fun s26 t27 => (px_bv (f_T_tellEntry_22 K N a0 v23 a1 v17 s26 t27) (fun s31 t32 => (some (.inl (some (.int v17)), s31, t32))) (fun x35 s31 t32 => none))) (fun x30 s26 t27 => none)) else (some (.inl (some (.int (-3 : Int32))), s20, t21)))) (fun x24 s20 t21 => none)) else (if 0 ≤ (-1 : Int32) then (px_bv (f_T_tellInode_22 K N v17 (0 : Int32) a2 s14 t15) (fun s37 t38 => (px_bv (f_T_tellEntry_22 K N a0 (-1 : Int32) a1 v17 s37 t38) (fun s42 t43 => (some (.inl (some (.int v17)), s42, t43))) (fun x46 s42 t43 => none))) (fun x41 s37 t38 => none)) else (some (.inl (some (.int (-3 : Int32))), s14, t15))))) (fun x18 s14 t15 => none)) else (some (.inl (some (.int (-2 : Int32))), s8, t9)))) (fun x12 s8 t9 => none)) else (some (.inl (some (.int (-4 : Int32))), s1, t2))))) (fun x5 s1 t2 => none))
set_option maxRecDepth 100000 in
theorem e_T_create_22 (K : px_K) (N : Nat) (a0 : Int32) (a1 : Int32) (a2 : Int32) (s : px_S) (t : px_W) (r : px_Res) (h : f_T_create_22 K N a0 a1 a2 s t = some r) : px_E px_ET px_P 7 159 0 (px_ent 6 [.ref 22, .int a0, .int a1, .int a2]) [] (px_w K s t) r.1 (px_w K r.2.1 r.2.2) := by
  have hM : px_P[159]? = some pm_T_create := rfl
  unfold f_T_create_22 at h
  refine px_blk (i' := 2) (L' := [some (.ref 22), some (.int a0), some (.int a1), some (.int a2), none, none]) (S' := [.int a0, .ref 22]) (w' := px_w K s t) (q := []) 2 hM rfl trivial ?_
  rcases px_bi_some h with ⟨v4, s1, t2, hk3, h⟩ | ⟨x5, s1, t2, hk3, h⟩
  · refine px_E_call hM rfl rfl rfl rfl (px_E_mono (by decide) (e_T_isDirectory_22 K N a0 s t _ hk3)) ?_
    refine px_blkif (c := v4 = 0) (t := 7) (e := 4) (L' := [some (.ref 22), some (.int a0), some (.int a1), some (.int a2), none, none]) (S' := []) (w' := px_w K s1 t2) (q := []) 1 hM rfl trivial (fun hc6 => ?_) (fun hc6 => ?_)
    · rw [if_pos hc6] at h
      refine px_blk (i' := 8) (L' := [some (.ref 22), some (.int a0), some (.int a1), some (.int a2), none, none]) (S' := [.int (-4 : Int32)]) (w' := px_w K s1 t2) (q := []) 1 hM rfl trivial ?_
      cases h
      exact px_E_ret hM rfl rfl rfl trivial
    · rw [if_neg hc6] at h
      refine px_blkif (c := (1 : Int32) ≤ a1) (t := 9) (e := 7) (L' := [some (.ref 22), some (.int a0), some (.int a1), some (.int a2), none, none]) (S' := []) (w' := px_w K s1 t2) (q := []) 3 hM rfl trivial (fun hc7 => ?_) (fun hc7 => ?_)
      · rw [if_pos hc7] at h
        refine px_blk (i' := 12) (L' := [some (.ref 22), some (.int a0), some (.int a1), some (.int a2), none, none]) (S' := [.int a1, .int a0, .ref 22]) (w' := px_w K s1 t2) (q := []) 3 hM rfl trivial ?_
        rcases px_bi_some h with ⟨v11, s8, t9, hk10, h⟩ | ⟨x12, s8, t9, hk10, h⟩
        · refine px_E_call hM rfl rfl rfl rfl (px_E_mono (by decide) (e_T_placeOf_22 K N a0 a1 s1 t2 _ hk10)) ?_
          refine px_blkif (c := v11 < 0) (t := 16) (e := 14) (L' := [some (.ref 22), some (.int a0), some (.int a1), some (.int a2), none, none]) (S' := []) (w' := px_w K s8 t9) (q := []) 1 hM rfl trivial (fun hc13 => ?_) (fun hc13 => ?_)
          · rw [if_pos hc13] at h
            refine px_blk (i' := 17) (L' := [some (.ref 22), some (.int a0), some (.int a1), some (.int a2), none, none]) (S' := [.ref 22]) (w' := px_w K s8 t9) (q := []) 1 hM rfl trivial ?_
            rcases px_bi_some h with ⟨v17, s14, t15, hk16, h⟩ | ⟨x18, s14, t15, hk16, h⟩
            · refine px_E_call hM rfl rfl rfl rfl (px_E_mono (by decide) (e_T_freeInode_22 K N s8 t9 _ hk16)) ?_
              refine px_blkif (c := 0 ≤ v17) (t := 23) (e := 21) (L' := [some (.ref 22), some (.int a0), some (.int a1), some (.int a2), some (.int v17), none]) (S' := []) (w' := px_w K s14 t15) (q := []) 3 hM rfl trivial (fun hc19 => ?_) (fun hc19 => ?_)
              · rw [if_pos hc19] at h
                refine px_blk (i' := 25) (L' := [some (.ref 22), some (.int a0), some (.int a1), some (.int a2), some (.int v17), none]) (S' := [.int a0, .ref 22]) (w' := px_w K s14 t15) (q := []) 2 hM rfl trivial ?_
                rcases px_bi_some h with ⟨v23, s20, t21, hk22, h⟩ | ⟨x24, s20, t21, hk22, h⟩
                · refine px_E_call hM rfl rfl rfl rfl (px_E_mono (by decide) (e_T_placeForNew_22 K N a0 s14 t15 _ hk22)) ?_
                  refine px_blkif (c := 0 ≤ v23) (t := 31) (e := 29) (L' := [some (.ref 22), some (.int a0), some (.int a1), some (.int a2), some (.int v17), some (.int v23)]) (S' := []) (w' := px_w K s20 t21) (q := []) 3 hM rfl trivial (fun hc25 => ?_) (fun hc25 => ?_)
                  · rw [if_pos hc25] at h
                    refine px_blk (i' := 35) (L' := [some (.ref 22), some (.int a0), some (.int a1), some (.int a2), some (.int v17), some (.int v23)]) (S' := [.int a2, .int (0 : Int32), .int v17, .ref 22]) (w' := px_w K s20 t21) (q := []) 4 hM rfl trivial ?_
                    rcases px_bv_some h with ⟨s26, t27, hk28, h⟩ | ⟨x30, s26, t27, hk28, h⟩
                    · refine px_E_call hM rfl rfl rfl rfl (px_E_mono (by decide) (e_T_tellInode_22 K N v17 (0 : Int32) a2 s20 t21 _ hk28)) ?_
                      refine px_blk (i' := 41) (L' := [some (.ref 22), some (.int a0), some (.int a1), some (.int a2), some (.int v17), some (.int v23)]) (S' := [.int v17, .int a1, .int v23, .int a0, .ref 22]) (w' := px_w K s26 t27) (q := []) 5 hM rfl trivial ?_
                      rcases px_bv_some h with ⟨s31, t32, hk33, h⟩ | ⟨x35, s31, t32, hk33, h⟩
                      · refine px_E_call hM rfl rfl rfl rfl (px_E_mono (by decide) (e_T_tellEntry_22 K N a0 v23 a1 v17 s26 t27 _ hk33)) ?_
                        refine px_blk (i' := 43) (L' := [some (.ref 22), some (.int a0), some (.int a1), some (.int a2), some (.int v17), some (.int v23)]) (S' := [.int v17]) (w' := px_w K s31 t32) (q := []) 1 hM rfl trivial ?_
                        cases h
                        exact px_E_ret hM rfl rfl rfl trivial
                      · cases h
                    · cases h
                  · rw [if_neg hc25] at h
                    refine px_blk (i' := 30) (L' := [some (.ref 22), some (.int a0), some (.int a1), some (.int a2), some (.int v17), some (.int v23)]) (S' := [.int (-3 : Int32)]) (w' := px_w K s20 t21) (q := []) 1 hM rfl trivial ?_
                    cases h
                    exact px_E_ret hM rfl rfl rfl trivial
                · cases h
              · rw [if_neg hc19] at h
                refine px_blkif (c := 0 ≤ (-1 : Int32)) (t := 31) (e := 29) (L' := [some (.ref 22), some (.int a0), some (.int a1), some (.int a2), some (.int v17), some (.int (-1 : Int32))]) (S' := []) (w' := px_w K s14 t15) (q := []) 5 hM rfl trivial (fun hc36 => ?_) (fun hc36 => ?_)
                · rw [if_pos hc36] at h
                  refine px_blk (i' := 35) (L' := [some (.ref 22), some (.int a0), some (.int a1), some (.int a2), some (.int v17), some (.int (-1 : Int32))]) (S' := [.int a2, .int (0 : Int32), .int v17, .ref 22]) (w' := px_w K s14 t15) (q := []) 4 hM rfl trivial ?_
                  rcases px_bv_some h with ⟨s37, t38, hk39, h⟩ | ⟨x41, s37, t38, hk39, h⟩
                  · refine px_E_call hM rfl rfl rfl rfl (px_E_mono (by decide) (e_T_tellInode_22 K N v17 (0 : Int32) a2 s14 t15 _ hk39)) ?_
                    refine px_blk (i' := 41) (L' := [some (.ref 22), some (.int a0), some (.int a1), some (.int a2), some (.int v17), some (.int (-1 : Int32))]) (S' := [.int v17, .int a1, .int (-1 : Int32), .int a0, .ref 22]) (w' := px_w K s37 t38) (q := []) 5 hM rfl trivial ?_
                    rcases px_bv_some h with ⟨s42, t43, hk44, h⟩ | ⟨x46, s42, t43, hk44, h⟩
                    · refine px_E_call hM rfl rfl rfl rfl (px_E_mono (by decide) (e_T_tellEntry_22 K N a0 (-1 : Int32) a1 v17 s37 t38 _ hk44)) ?_
                      refine px_blk (i' := 43) (L' := [some (.ref 22), some (.int a0), some (.int a1), some (.int a2), some (.int v17), some (.int (-1 : Int32))]) (S' := [.int v17]) (w' := px_w K s42 t43) (q := []) 1 hM rfl trivial ?_
                      cases h
                      exact px_E_ret hM rfl rfl rfl trivial
                    · cases h
                  · cases h
                · rw [if_neg hc36] at h
                  refine px_blk (i' := 30) (L' := [some (.ref 22), some (.int a0), some (.int a1), some (.int a2), some (.int v17), some (.int (-1 : Int32))]) (S' := [.int (-3 : Int32)]) (w' := px_w K s14 t15) (q := []) 1 hM rfl trivial ?_
                  cases h
                  exact px_E_ret hM rfl rfl rfl trivial
            · cases h
          · rw [if_neg hc13] at h
            refine px_blk (i' := 15) (L' := [some (.ref 22), some (.int a0), some (.int a1), some (.int a2), none, none]) (S' := [.int (-2 : Int32)]) (w' := px_w K s8 t9) (q := []) 1 hM rfl trivial ?_
            cases h
            exact px_E_ret hM rfl rfl rfl trivial
        · cases h
      · rw [if_neg hc7] at h
        refine px_blk (i' := 8) (L' := [some (.ref 22), some (.int a0), some (.int a1), some (.int a2), none, none]) (S' := [.int (-4 : Int32)]) (w' := px_w K s1 t2) (q := []) 1 hM rfl trivial ?_
        cases h
        exact px_E_ret hM rfl rfl rfl trivial
  · cases h
noncomputable def l_D_losePending_3_2 (K : px_K) (N : Nat) (n : Nat) (u1 : Int64) (m3 : Int32) (s : px_S) (t : px_W) : Option px_LO := match n with
  | 0 => none
  | n + 1 => (if (s.1 3) ≤ m3 then (some (.inl (38, [], s, t))) else (px_let (((s.1 2) + m3) - ((s.1 2) + m3) / (64 : Int32) * (64 : Int32)) (fun v2 => (if (lg_cmp (((u1.toUInt64 >>> (m3.toInt64.toUInt64 &&& Int64.toUInt64 63)).toInt64) &&& (1 : Int64)) (0 : Int64)) = 0 then (l_D_losePending_3_2 K N n u1 (m3 + (1 : Int32)) s t) else (px_gd (vp_in v2 (K.2.2 4)) (px_gd (¬ (v2 * (16 : Int32)) < 0 ∧ ¬ (((s.2.2.1 4) v2.toNatClampNeg) * (16 : Int32)) < 0 ∧ ¬ (16 : Int32) < 0 ∧ (v2 * (16 : Int32)).toNatClampNeg + (16 : Int32).toNatClampNeg ≤ K.2.2 5 ∧ (((s.2.2.1 4) v2.toNatClampNeg) * (16 : Int32)).toNatClampNeg + (16 : Int32).toNatClampNeg ≤ K.2.2 7) (px_let (sF s 7 (va_cpy (s.2.2.1 5) (s.2.2.1 7) (v2 * (16 : Int32)).toNatClampNeg (((s.2.2.1 4) v2.toNatClampNeg) * (16 : Int32)).toNatClampNeg (16 : Int32).toNatClampNeg)) (fun s7 => (l_D_losePending_3_2 K N n u1 (m3 + (1 : Int32)) s7 t)))))))))
def a_l_D_losePending_3_2 (K : px_K) (u1 : Int64) (z : px_LO) (o : Option Value ⊕ Nat) (w2 : px_W) : Prop := match z with
  | .inr (o', s', t') => o = o' ∧ w2 = px_w K s' t'
  | .inl (38, [], s', t') => px_E px_ET px_P 1 115 38 [some (.ref 3), some (.long u1), none, none, none] [] (px_w K s' t') o w2
  | _ => False
noncomputable def l_D_losePending_3_40 (K : px_K) (N : Nat) (n : Nat) (u1 : Int64) (m3 : Int32) (s : px_S) (t : px_W) : Option px_LO := match n with
  | 0 => none
  | n + 1 => (if (s.1 3) ≤ m3 then (some (.inl (66, [], s, t))) else (px_gd (vp_in (((s.1 2) + m3) - ((s.1 2) + m3) / (64 : Int32) * (64 : Int32)) (K.2.2 4)) (px_let (((s.2.2.1 4) (((s.1 2) + m3) - ((s.1 2) + m3) / (64 : Int32) * (64 : Int32)).toNatClampNeg) * (16 : Int32)) (fun v3 => (px_gd (¬ v3 < 0 ∧ ¬ v3 < 0 ∧ ¬ (16 : Int32) < 0 ∧ v3.toNatClampNeg + (16 : Int32).toNatClampNeg ≤ K.2.2 7 ∧ v3.toNatClampNeg + (16 : Int32).toNatClampNeg ≤ K.2.2 6) (px_let (sF s 6 (va_cpy (s.2.2.1 7) (s.2.2.1 6) v3.toNatClampNeg v3.toNatClampNeg (16 : Int32).toNatClampNeg)) (fun s6 => (l_D_losePending_3_40 K N n u1 (m3 + (1 : Int32)) s6 t))))))))
def a_l_D_losePending_3_40 (K : px_K) (u1 : Int64) (z : px_LO) (o : Option Value ⊕ Nat) (w2 : px_W) : Prop := match z with
  | .inr (o', s', t') => o = o' ∧ w2 = px_w K s' t'
  | .inl (66, [], s', t') => px_E px_ET px_P 1 115 66 [some (.ref 3), some (.long u1), none, none, none] [] (px_w K s' t') o w2
  | _ => False
set_option maxRecDepth 100000 in
theorem e_l_D_losePending_3_2 (K : px_K) (N : Nat) (u1 : Int64) : ∀ (n : Nat) (m3 : Int32) (s : px_S) (t : px_W) (z : px_LO), l_D_losePending_3_2 K N n u1 m3 s t = some z → ∀ (o : Option Value ⊕ Nat) (w2 : px_W), a_l_D_losePending_3_2 K u1 z o w2 → px_E px_ET px_P 1 115 2 [some (.ref 3), some (.long u1), none, some (.int m3), none] [] (px_w K s t) o w2 := by
  have hM : px_P[115]? = some pm_D_losePending := rfl
  intro n
  induction n with
  | zero => intro m3 s t z h; cases h
  | succ n ih =>
    intro m3 s t z h o w2 ha
    unfold l_D_losePending_3_2 at h
    refine px_blkif (c := (s.1 3) ≤ m3) (t := 38) (e := 6) (L' := [some (.ref 3), some (.long u1), none, some (.int m3), none]) (S' := []) (w' := px_w K s t) (q := []) 4 hM rfl trivial (fun hc1 => ?_) (fun hc1 => ?_)
    · rw [if_pos hc1] at h
      cases h
      exact px_E_le (px_leC_L _ _ (by simp [px_leC, px_le1, Value.category])) ha
    · rw [if_neg hc1] at h
      refine px_blk (i' := 13) (L' := [some (.ref 3), some (.long u1), none, some (.int m3), some (.int (((s.1 2) + m3) - ((s.1 2) + m3) / (64 : Int32) * (64 : Int32)))]) (S' := []) (w' := px_w K s t) (q := [¬ (64 : Int32) = 0]) 7 hM rfl (show ¬ (64 : Int32) = 0 from (by decide)) ?_
      obtain ⟨v2, hv3, h⟩ := px_let_some h
      rw [← hv3]
      refine px_blkif (c := (lg_cmp (((u1.toUInt64 >>> (m3.toInt64.toUInt64 &&& Int64.toUInt64 63)).toInt64) &&& (1 : Int64)) (0 : Int64)) = 0) (t := 36) (e := 21) (L' := [some (.ref 3), some (.long u1), none, some (.int m3), some (.int v2)]) (S' := []) (w' := px_w K s t) (q := []) 8 hM rfl trivial (fun hc4 => ?_) (fun hc4 => ?_)
      · rw [if_pos hc4] at h
        refine px_blk (i' := 2) (L' := [some (.ref 3), some (.long u1), none, some (.int (m3 + (1 : Int32))), some (.int v2)]) (S' := []) (w' := px_w K s t) (q := []) 2 hM rfl trivial ?_
        exact px_E_le (px_leC_L _ _ (by simp [px_leC, px_le1, Value.category])) (ih (m3 + (1 : Int32)) s t z h o w2 ha)
      · rw [if_neg hc4] at h
        obtain ⟨hq5, h⟩ := px_gd_some h
        refine px_blk (i' := 33) (L' := [some (.ref 3), some (.long u1), none, some (.int m3), some (.int v2)]) (S' := [.int (16 : Int32), .int ((s.2.2.1 4) v2.toNatClampNeg), .ref 7, .int (v2 * (16 : Int32)), .ref 5]) (w' := px_w K s t) (q := [vp_in v2 (K.2.2 4)]) 12 hM rfl (show vp_in v2 (K.2.2 4) from hq5) ?_
        obtain ⟨hq6, h⟩ := px_gd_some h
        refine px_blk (i' := 36) (L' := [some (.ref 3), some (.long u1), none, some (.int m3), some (.int v2)]) (S' := []) (w' := px_w K (sF s 7 (va_cpy (s.2.2.1 5) (s.2.2.1 7) (v2 * (16 : Int32)).toNatClampNeg (((s.2.2.1 4) v2.toNatClampNeg) * (16 : Int32)).toNatClampNeg (16 : Int32).toNatClampNeg)) t) (q := [¬ (v2 * (16 : Int32)) < 0 ∧ ¬ (((s.2.2.1 4) v2.toNatClampNeg) * (16 : Int32)) < 0 ∧ ¬ (16 : Int32) < 0 ∧ (v2 * (16 : Int32)).toNatClampNeg + (16 : Int32).toNatClampNeg ≤ K.2.2 5 ∧ (((s.2.2.1 4) v2.toNatClampNeg) * (16 : Int32)).toNatClampNeg + (16 : Int32).toNatClampNeg ≤ K.2.2 7]) 3 hM rfl (show ¬ (v2 * (16 : Int32)) < 0 ∧ ¬ (((s.2.2.1 4) v2.toNatClampNeg) * (16 : Int32)) < 0 ∧ ¬ (16 : Int32) < 0 ∧ (v2 * (16 : Int32)).toNatClampNeg + (16 : Int32).toNatClampNeg ≤ K.2.2 5 ∧ (((s.2.2.1 4) v2.toNatClampNeg) * (16 : Int32)).toNatClampNeg + (16 : Int32).toNatClampNeg ≤ K.2.2 7 from hq6) ?_
        obtain ⟨s7, hs8, h⟩ := px_let_some h
        rw [← hs8]
        refine px_blk (i' := 2) (L' := [some (.ref 3), some (.long u1), none, some (.int (m3 + (1 : Int32))), some (.int v2)]) (S' := []) (w' := px_w K s7 t) (q := []) 2 hM rfl trivial ?_
        exact px_E_le (px_leC_L _ _ (by simp [px_leC, px_le1, Value.category])) (ih (m3 + (1 : Int32)) s7 t z h o w2 ha)
set_option maxRecDepth 100000 in
theorem e_l_D_losePending_3_40 (K : px_K) (N : Nat) (u1 : Int64) : ∀ (n : Nat) (m3 : Int32) (s : px_S) (t : px_W) (z : px_LO), l_D_losePending_3_40 K N n u1 m3 s t = some z → ∀ (o : Option Value ⊕ Nat) (w2 : px_W), a_l_D_losePending_3_40 K u1 z o w2 → px_E px_ET px_P 1 115 40 [some (.ref 3), some (.long u1), none, some (.int m3), none] [] (px_w K s t) o w2 := by
  have hM : px_P[115]? = some pm_D_losePending := rfl
  intro n
  induction n with
  | zero => intro m3 s t z h; cases h
  | succ n ih =>
    intro m3 s t z h o w2 ha
    unfold l_D_losePending_3_40 at h
    refine px_blkif (c := (s.1 3) ≤ m3) (t := 66) (e := 44) (L' := [some (.ref 3), some (.long u1), none, some (.int m3), none]) (S' := []) (w' := px_w K s t) (q := []) 4 hM rfl trivial (fun hc1 => ?_) (fun hc1 => ?_)
    · rw [if_pos hc1] at h
      cases h
      exact px_E_le (px_leC_L _ _ (by simp [px_leC, px_le1, Value.category])) ha
    · rw [if_neg hc1] at h
      obtain ⟨hq2, h⟩ := px_gd_some h
      refine px_blk (i' := 56) (L' := [some (.ref 3), some (.long u1), none, some (.int m3), some (.int (((s.2.2.1 4) (((s.1 2) + m3) - ((s.1 2) + m3) / (64 : Int32) * (64 : Int32)).toNatClampNeg) * (16 : Int32)))]) (S' := []) (w' := px_w K s t) (q := [¬ (64 : Int32) = 0, vp_in (((s.1 2) + m3) - ((s.1 2) + m3) / (64 : Int32) * (64 : Int32)) (K.2.2 4)]) 12 hM rfl (show (¬ (64 : Int32) = 0) ∧ (vp_in (((s.1 2) + m3) - ((s.1 2) + m3) / (64 : Int32) * (64 : Int32)) (K.2.2 4)) from ⟨(by decide), hq2⟩) ?_
      obtain ⟨v3, hv4, h⟩ := px_let_some h
      rw [← hv4]
      obtain ⟨hq5, h⟩ := px_gd_some h
      refine px_blk (i' := 64) (L' := [some (.ref 3), some (.long u1), none, some (.int m3), some (.int v3)]) (S' := []) (w' := px_w K (sF s 6 (va_cpy (s.2.2.1 7) (s.2.2.1 6) v3.toNatClampNeg v3.toNatClampNeg (16 : Int32).toNatClampNeg)) t) (q := [¬ v3 < 0 ∧ ¬ v3 < 0 ∧ ¬ (16 : Int32) < 0 ∧ v3.toNatClampNeg + (16 : Int32).toNatClampNeg ≤ K.2.2 7 ∧ v3.toNatClampNeg + (16 : Int32).toNatClampNeg ≤ K.2.2 6]) 8 hM rfl (show ¬ v3 < 0 ∧ ¬ v3 < 0 ∧ ¬ (16 : Int32) < 0 ∧ v3.toNatClampNeg + (16 : Int32).toNatClampNeg ≤ K.2.2 7 ∧ v3.toNatClampNeg + (16 : Int32).toNatClampNeg ≤ K.2.2 6 from hq5) ?_
      obtain ⟨s6, hs7, h⟩ := px_let_some h
      rw [← hs7]
      refine px_blk (i' := 40) (L' := [some (.ref 3), some (.long u1), none, some (.int (m3 + (1 : Int32))), some (.int v3)]) (S' := []) (w' := px_w K s6 t) (q := []) 2 hM rfl trivial ?_
      exact px_E_le (px_leC_L _ _ (by simp [px_leC, px_le1, Value.category])) (ih (m3 + (1 : Int32)) s6 t z h o w2 ha)
noncomputable def f_D_losePending_3 (K : px_K) (N : Nat) (a0 : Int64) (s : px_S) (t : px_W) : Option px_Res :=
  (px_lp (l_D_losePending_3_2 K N N a0 (0 : Int32) s t) (fun i1 vs2 s3 t4 => (if i1 = 38 then (px_v0 vs2 (px_lp (l_D_losePending_3_40 K N N a0 (0 : Int32) s3 t4) (fun i8 vs9 s10 t11 => (if i8 = 66 then (px_v0 vs9 (px_let (sR s10 3 (0 : Int32)) (fun s15 => (some (.inl none, s15, t11))))) else none)) (fun z13 => some z13))) else none)) (fun z6 => some z6))
set_option maxRecDepth 100000 in
theorem e_D_losePending_3 (K : px_K) (N : Nat) (a0 : Int64) (s : px_S) (t : px_W) (r : px_Res) (h : f_D_losePending_3 K N a0 s t = some r) : px_E px_ET px_P 1 115 0 (px_ent 5 [.ref 3, .long a0]) [] (px_w K s t) r.1 (px_w K r.2.1 r.2.2) := by
  have hM : px_P[115]? = some pm_D_losePending := rfl
  unfold f_D_losePending_3 at h
  refine px_blk (i' := 2) (L' := [some (.ref 3), some (.long a0), none, some (.int (0 : Int32)), none]) (S' := []) (w' := px_w K s t) (q := []) 2 hM rfl trivial ?_
  rcases px_lp_some h with ⟨i1, vs2, s3, t4, hl5, h⟩ | ⟨z6, hl5, h⟩
  · by_cases hi7 : i1 = 38
    · subst hi7
      rw [if_pos rfl] at h
      have h9 := px_v0_some h
      clear h
      obtain ⟨rfl, h⟩ := h9
      refine e_l_D_losePending_3_2 K N a0 N (0 : Int32) s t _ hl5 _ _ ?_
      show px_E px_ET px_P 1 115 38 [some (.ref 3), some (.long a0), none, none, none] [] (px_w K s3 t4) _ _
      refine px_blk (i' := 40) (L' := [some (.ref 3), some (.long a0), none, some (.int (0 : Int32)), none]) (S' := []) (w' := px_w K s3 t4) (q := []) 2 hM rfl trivial ?_
      rcases px_lp_some h with ⟨i8, vs9, s10, t11, hl12, h⟩ | ⟨z13, hl12, h⟩
      · by_cases hi14 : i8 = 66
        · subst hi14
          rw [if_pos rfl] at h
          have h9 := px_v0_some h
          clear h
          obtain ⟨rfl, h⟩ := h9
          refine e_l_D_losePending_3_40 K N a0 N (0 : Int32) s3 t4 _ hl12 _ _ ?_
          show px_E px_ET px_P 1 115 66 [some (.ref 3), some (.long a0), none, none, none] [] (px_w K s10 t11) _ _
          refine px_blk (i' := 69) (L' := [some (.ref 3), some (.long a0), none, none, none]) (S' := []) (w' := px_w K (sR s10 3 (0 : Int32)) t11) (q := []) 3 hM rfl trivial ?_
          obtain ⟨s15, hs16, h⟩ := px_let_some h
          rw [← hs16]
          cases h
          exact px_E_ret hM rfl rfl rfl trivial
        · rw [if_neg hi14] at h
          cases h
      · cases h
        exact e_l_D_losePending_3_40 K N a0 N (0 : Int32) s3 t4 _ hl12 _ _ ⟨rfl, rfl⟩
    · rw [if_neg hi7] at h
      cases h
  · cases h
    exact e_l_D_losePending_3_2 K N a0 N (0 : Int32) s t _ hl5 _ _ ⟨rfl, rfl⟩
noncomputable def l_D_losePending_8_2 (K : px_K) (N : Nat) (n : Nat) (u1 : Int64) (m3 : Int32) (s : px_S) (t : px_W) : Option px_LO := match n with
  | 0 => none
  | n + 1 => (if (s.1 8) ≤ m3 then (some (.inl (38, [], s, t))) else (px_let (((s.1 7) + m3) - ((s.1 7) + m3) / (64 : Int32) * (64 : Int32)) (fun v2 => (if (lg_cmp (((u1.toUInt64 >>> (m3.toInt64.toUInt64 &&& Int64.toUInt64 63)).toInt64) &&& (1 : Int64)) (0 : Int64)) = 0 then (l_D_losePending_8_2 K N n u1 (m3 + (1 : Int32)) s t) else (px_gd (vp_in v2 (K.2.2 9)) (px_gd (¬ (v2 * (16 : Int32)) < 0 ∧ ¬ (((s.2.2.1 9) v2.toNatClampNeg) * (16 : Int32)) < 0 ∧ ¬ (16 : Int32) < 0 ∧ (v2 * (16 : Int32)).toNatClampNeg + (16 : Int32).toNatClampNeg ≤ K.2.2 10 ∧ (((s.2.2.1 9) v2.toNatClampNeg) * (16 : Int32)).toNatClampNeg + (16 : Int32).toNatClampNeg ≤ K.2.2 12) (px_let (sF s 12 (va_cpy (s.2.2.1 10) (s.2.2.1 12) (v2 * (16 : Int32)).toNatClampNeg (((s.2.2.1 9) v2.toNatClampNeg) * (16 : Int32)).toNatClampNeg (16 : Int32).toNatClampNeg)) (fun s7 => (l_D_losePending_8_2 K N n u1 (m3 + (1 : Int32)) s7 t)))))))))
def a_l_D_losePending_8_2 (K : px_K) (u1 : Int64) (z : px_LO) (o : Option Value ⊕ Nat) (w2 : px_W) : Prop := match z with
  | .inr (o', s', t') => o = o' ∧ w2 = px_w K s' t'
  | .inl (38, [], s', t') => px_E px_ET px_P 1 115 38 [some (.ref 8), some (.long u1), none, none, none] [] (px_w K s' t') o w2
  | _ => False
noncomputable def l_D_losePending_8_40 (K : px_K) (N : Nat) (n : Nat) (u1 : Int64) (m3 : Int32) (s : px_S) (t : px_W) : Option px_LO := match n with
  | 0 => none
  | n + 1 => (if (s.1 8) ≤ m3 then (some (.inl (66, [], s, t))) else (px_gd (vp_in (((s.1 7) + m3) - ((s.1 7) + m3) / (64 : Int32) * (64 : Int32)) (K.2.2 9)) (px_let (((s.2.2.1 9) (((s.1 7) + m3) - ((s.1 7) + m3) / (64 : Int32) * (64 : Int32)).toNatClampNeg) * (16 : Int32)) (fun v3 => (px_gd (¬ v3 < 0 ∧ ¬ v3 < 0 ∧ ¬ (16 : Int32) < 0 ∧ v3.toNatClampNeg + (16 : Int32).toNatClampNeg ≤ K.2.2 12 ∧ v3.toNatClampNeg + (16 : Int32).toNatClampNeg ≤ K.2.2 11) (px_let (sF s 11 (va_cpy (s.2.2.1 12) (s.2.2.1 11) v3.toNatClampNeg v3.toNatClampNeg (16 : Int32).toNatClampNeg)) (fun s6 => (l_D_losePending_8_40 K N n u1 (m3 + (1 : Int32)) s6 t))))))))
def a_l_D_losePending_8_40 (K : px_K) (u1 : Int64) (z : px_LO) (o : Option Value ⊕ Nat) (w2 : px_W) : Prop := match z with
  | .inr (o', s', t') => o = o' ∧ w2 = px_w K s' t'
  | .inl (66, [], s', t') => px_E px_ET px_P 1 115 66 [some (.ref 8), some (.long u1), none, none, none] [] (px_w K s' t') o w2
  | _ => False
set_option maxRecDepth 100000 in
theorem e_l_D_losePending_8_2 (K : px_K) (N : Nat) (u1 : Int64) : ∀ (n : Nat) (m3 : Int32) (s : px_S) (t : px_W) (z : px_LO), l_D_losePending_8_2 K N n u1 m3 s t = some z → ∀ (o : Option Value ⊕ Nat) (w2 : px_W), a_l_D_losePending_8_2 K u1 z o w2 → px_E px_ET px_P 1 115 2 [some (.ref 8), some (.long u1), none, some (.int m3), none] [] (px_w K s t) o w2 := by
  have hM : px_P[115]? = some pm_D_losePending := rfl
  intro n
  induction n with
  | zero => intro m3 s t z h; cases h
  | succ n ih =>
    intro m3 s t z h o w2 ha
    unfold l_D_losePending_8_2 at h
    refine px_blkif (c := (s.1 8) ≤ m3) (t := 38) (e := 6) (L' := [some (.ref 8), some (.long u1), none, some (.int m3), none]) (S' := []) (w' := px_w K s t) (q := []) 4 hM rfl trivial (fun hc1 => ?_) (fun hc1 => ?_)
    · rw [if_pos hc1] at h
      cases h
      exact px_E_le (px_leC_L _ _ (by simp [px_leC, px_le1, Value.category])) ha
    · rw [if_neg hc1] at h
      refine px_blk (i' := 13) (L' := [some (.ref 8), some (.long u1), none, some (.int m3), some (.int (((s.1 7) + m3) - ((s.1 7) + m3) / (64 : Int32) * (64 : Int32)))]) (S' := []) (w' := px_w K s t) (q := [¬ (64 : Int32) = 0]) 7 hM rfl (show ¬ (64 : Int32) = 0 from (by decide)) ?_
      obtain ⟨v2, hv3, h⟩ := px_let_some h
      rw [← hv3]
      refine px_blkif (c := (lg_cmp (((u1.toUInt64 >>> (m3.toInt64.toUInt64 &&& Int64.toUInt64 63)).toInt64) &&& (1 : Int64)) (0 : Int64)) = 0) (t := 36) (e := 21) (L' := [some (.ref 8), some (.long u1), none, some (.int m3), some (.int v2)]) (S' := []) (w' := px_w K s t) (q := []) 8 hM rfl trivial (fun hc4 => ?_) (fun hc4 => ?_)
      · rw [if_pos hc4] at h
        refine px_blk (i' := 2) (L' := [some (.ref 8), some (.long u1), none, some (.int (m3 + (1 : Int32))), some (.int v2)]) (S' := []) (w' := px_w K s t) (q := []) 2 hM rfl trivial ?_
        exact px_E_le (px_leC_L _ _ (by simp [px_leC, px_le1, Value.category])) (ih (m3 + (1 : Int32)) s t z h o w2 ha)
      · rw [if_neg hc4] at h
        obtain ⟨hq5, h⟩ := px_gd_some h
        refine px_blk (i' := 33) (L' := [some (.ref 8), some (.long u1), none, some (.int m3), some (.int v2)]) (S' := [.int (16 : Int32), .int ((s.2.2.1 9) v2.toNatClampNeg), .ref 12, .int (v2 * (16 : Int32)), .ref 10]) (w' := px_w K s t) (q := [vp_in v2 (K.2.2 9)]) 12 hM rfl (show vp_in v2 (K.2.2 9) from hq5) ?_
        obtain ⟨hq6, h⟩ := px_gd_some h
        refine px_blk (i' := 36) (L' := [some (.ref 8), some (.long u1), none, some (.int m3), some (.int v2)]) (S' := []) (w' := px_w K (sF s 12 (va_cpy (s.2.2.1 10) (s.2.2.1 12) (v2 * (16 : Int32)).toNatClampNeg (((s.2.2.1 9) v2.toNatClampNeg) * (16 : Int32)).toNatClampNeg (16 : Int32).toNatClampNeg)) t) (q := [¬ (v2 * (16 : Int32)) < 0 ∧ ¬ (((s.2.2.1 9) v2.toNatClampNeg) * (16 : Int32)) < 0 ∧ ¬ (16 : Int32) < 0 ∧ (v2 * (16 : Int32)).toNatClampNeg + (16 : Int32).toNatClampNeg ≤ K.2.2 10 ∧ (((s.2.2.1 9) v2.toNatClampNeg) * (16 : Int32)).toNatClampNeg + (16 : Int32).toNatClampNeg ≤ K.2.2 12]) 3 hM rfl (show ¬ (v2 * (16 : Int32)) < 0 ∧ ¬ (((s.2.2.1 9) v2.toNatClampNeg) * (16 : Int32)) < 0 ∧ ¬ (16 : Int32) < 0 ∧ (v2 * (16 : Int32)).toNatClampNeg + (16 : Int32).toNatClampNeg ≤ K.2.2 10 ∧ (((s.2.2.1 9) v2.toNatClampNeg) * (16 : Int32)).toNatClampNeg + (16 : Int32).toNatClampNeg ≤ K.2.2 12 from hq6) ?_
        obtain ⟨s7, hs8, h⟩ := px_let_some h
        rw [← hs8]
        refine px_blk (i' := 2) (L' := [some (.ref 8), some (.long u1), none, some (.int (m3 + (1 : Int32))), some (.int v2)]) (S' := []) (w' := px_w K s7 t) (q := []) 2 hM rfl trivial ?_
        exact px_E_le (px_leC_L _ _ (by simp [px_leC, px_le1, Value.category])) (ih (m3 + (1 : Int32)) s7 t z h o w2 ha)
set_option maxRecDepth 100000 in
theorem e_l_D_losePending_8_40 (K : px_K) (N : Nat) (u1 : Int64) : ∀ (n : Nat) (m3 : Int32) (s : px_S) (t : px_W) (z : px_LO), l_D_losePending_8_40 K N n u1 m3 s t = some z → ∀ (o : Option Value ⊕ Nat) (w2 : px_W), a_l_D_losePending_8_40 K u1 z o w2 → px_E px_ET px_P 1 115 40 [some (.ref 8), some (.long u1), none, some (.int m3), none] [] (px_w K s t) o w2 := by
  have hM : px_P[115]? = some pm_D_losePending := rfl
  intro n
  induction n with
  | zero => intro m3 s t z h; cases h
  | succ n ih =>
    intro m3 s t z h o w2 ha
    unfold l_D_losePending_8_40 at h
    refine px_blkif (c := (s.1 8) ≤ m3) (t := 66) (e := 44) (L' := [some (.ref 8), some (.long u1), none, some (.int m3), none]) (S' := []) (w' := px_w K s t) (q := []) 4 hM rfl trivial (fun hc1 => ?_) (fun hc1 => ?_)
    · rw [if_pos hc1] at h
      cases h
      exact px_E_le (px_leC_L _ _ (by simp [px_leC, px_le1, Value.category])) ha
    · rw [if_neg hc1] at h
      obtain ⟨hq2, h⟩ := px_gd_some h
      refine px_blk (i' := 56) (L' := [some (.ref 8), some (.long u1), none, some (.int m3), some (.int (((s.2.2.1 9) (((s.1 7) + m3) - ((s.1 7) + m3) / (64 : Int32) * (64 : Int32)).toNatClampNeg) * (16 : Int32)))]) (S' := []) (w' := px_w K s t) (q := [¬ (64 : Int32) = 0, vp_in (((s.1 7) + m3) - ((s.1 7) + m3) / (64 : Int32) * (64 : Int32)) (K.2.2 9)]) 12 hM rfl (show (¬ (64 : Int32) = 0) ∧ (vp_in (((s.1 7) + m3) - ((s.1 7) + m3) / (64 : Int32) * (64 : Int32)) (K.2.2 9)) from ⟨(by decide), hq2⟩) ?_
      obtain ⟨v3, hv4, h⟩ := px_let_some h
      rw [← hv4]
      obtain ⟨hq5, h⟩ := px_gd_some h
      refine px_blk (i' := 64) (L' := [some (.ref 8), some (.long u1), none, some (.int m3), some (.int v3)]) (S' := []) (w' := px_w K (sF s 11 (va_cpy (s.2.2.1 12) (s.2.2.1 11) v3.toNatClampNeg v3.toNatClampNeg (16 : Int32).toNatClampNeg)) t) (q := [¬ v3 < 0 ∧ ¬ v3 < 0 ∧ ¬ (16 : Int32) < 0 ∧ v3.toNatClampNeg + (16 : Int32).toNatClampNeg ≤ K.2.2 12 ∧ v3.toNatClampNeg + (16 : Int32).toNatClampNeg ≤ K.2.2 11]) 8 hM rfl (show ¬ v3 < 0 ∧ ¬ v3 < 0 ∧ ¬ (16 : Int32) < 0 ∧ v3.toNatClampNeg + (16 : Int32).toNatClampNeg ≤ K.2.2 12 ∧ v3.toNatClampNeg + (16 : Int32).toNatClampNeg ≤ K.2.2 11 from hq5) ?_
      obtain ⟨s6, hs7, h⟩ := px_let_some h
      rw [← hs7]
      refine px_blk (i' := 40) (L' := [some (.ref 8), some (.long u1), none, some (.int (m3 + (1 : Int32))), some (.int v3)]) (S' := []) (w' := px_w K s6 t) (q := []) 2 hM rfl trivial ?_
      exact px_E_le (px_leC_L _ _ (by simp [px_leC, px_le1, Value.category])) (ih (m3 + (1 : Int32)) s6 t z h o w2 ha)
noncomputable def f_D_losePending_8 (K : px_K) (N : Nat) (a0 : Int64) (s : px_S) (t : px_W) : Option px_Res :=
  (px_lp (l_D_losePending_8_2 K N N a0 (0 : Int32) s t) (fun i1 vs2 s3 t4 => (if i1 = 38 then (px_v0 vs2 (px_lp (l_D_losePending_8_40 K N N a0 (0 : Int32) s3 t4) (fun i8 vs9 s10 t11 => (if i8 = 66 then (px_v0 vs9 (px_let (sR s10 8 (0 : Int32)) (fun s15 => (some (.inl none, s15, t11))))) else none)) (fun z13 => some z13))) else none)) (fun z6 => some z6))
set_option maxRecDepth 100000 in
theorem e_D_losePending_8 (K : px_K) (N : Nat) (a0 : Int64) (s : px_S) (t : px_W) (r : px_Res) (h : f_D_losePending_8 K N a0 s t = some r) : px_E px_ET px_P 1 115 0 (px_ent 5 [.ref 8, .long a0]) [] (px_w K s t) r.1 (px_w K r.2.1 r.2.2) := by
  have hM : px_P[115]? = some pm_D_losePending := rfl
  unfold f_D_losePending_8 at h
  refine px_blk (i' := 2) (L' := [some (.ref 8), some (.long a0), none, some (.int (0 : Int32)), none]) (S' := []) (w' := px_w K s t) (q := []) 2 hM rfl trivial ?_
  rcases px_lp_some h with ⟨i1, vs2, s3, t4, hl5, h⟩ | ⟨z6, hl5, h⟩
  · by_cases hi7 : i1 = 38
    · subst hi7
      rw [if_pos rfl] at h
      have h9 := px_v0_some h
      clear h
      obtain ⟨rfl, h⟩ := h9
      refine e_l_D_losePending_8_2 K N a0 N (0 : Int32) s t _ hl5 _ _ ?_
      show px_E px_ET px_P 1 115 38 [some (.ref 8), some (.long a0), none, none, none] [] (px_w K s3 t4) _ _
      refine px_blk (i' := 40) (L' := [some (.ref 8), some (.long a0), none, some (.int (0 : Int32)), none]) (S' := []) (w' := px_w K s3 t4) (q := []) 2 hM rfl trivial ?_
      rcases px_lp_some h with ⟨i8, vs9, s10, t11, hl12, h⟩ | ⟨z13, hl12, h⟩
      · by_cases hi14 : i8 = 66
        · subst hi14
          rw [if_pos rfl] at h
          have h9 := px_v0_some h
          clear h
          obtain ⟨rfl, h⟩ := h9
          refine e_l_D_losePending_8_40 K N a0 N (0 : Int32) s3 t4 _ hl12 _ _ ?_
          show px_E px_ET px_P 1 115 66 [some (.ref 8), some (.long a0), none, none, none] [] (px_w K s10 t11) _ _
          refine px_blk (i' := 69) (L' := [some (.ref 8), some (.long a0), none, none, none]) (S' := []) (w' := px_w K (sR s10 8 (0 : Int32)) t11) (q := []) 3 hM rfl trivial ?_
          obtain ⟨s15, hs16, h⟩ := px_let_some h
          rw [← hs16]
          cases h
          exact px_E_ret hM rfl rfl rfl trivial
        · rw [if_neg hi14] at h
          cases h
      · cases h
        exact e_l_D_losePending_8_40 K N a0 N (0 : Int32) s3 t4 _ hl12 _ _ ⟨rfl, rfl⟩
    · rw [if_neg hi7] at h
      cases h
  · cases h
    exact e_l_D_losePending_8_2 K N a0 N (0 : Int32) s t _ hl5 _ _ ⟨rfl, rfl⟩
noncomputable def f_P_limitTo_2 (K : px_K) (N : Nat) (a0 : Int32) (a1 : Int64) (s : px_S) (t : px_W) : Option px_Res :=
  (if a0 ≤ 0 then (px_let (sQ s 1 (0 : Int64)) (fun s2 => (px_let (sQ s2 2 a1) (fun s4 => (some (.inl none, s4, t)))))) else (px_let (sQ s 1 ((s.2.1 0) + a0.toInt64)) (fun s6 => (px_let (sQ s6 2 a1) (fun s8 => (some (.inl none, s8, t)))))))
set_option maxRecDepth 100000 in
theorem e_P_limitTo_2 (K : px_K) (N : Nat) (a0 : Int32) (a1 : Int64) (s : px_S) (t : px_W) (r : px_Res) (h : f_P_limitTo_2 K N a0 a1 s t = some r) : px_E px_ET px_P 1 118 0 (px_ent 4 [.ref 2, .int a0, .long a1]) [] (px_w K s t) r.1 (px_w K r.2.1 r.2.2) := by
  have hM : px_P[118]? = some pm_P_limitTo := rfl
  unfold f_P_limitTo_2 at h
  refine px_blkif (c := a0 ≤ 0) (t := 9) (e := 3) (L' := [some (.ref 2), some (.int a0), some (.long a1), none]) (S' := [.ref 2]) (w' := px_w K s t) (q := []) 3 hM rfl trivial (fun hc1 => ?_) (fun hc1 => ?_)
  · rw [if_pos hc1] at h
    refine px_blk (i' := 11) (L' := [some (.ref 2), some (.int a0), some (.long a1), none]) (S' := []) (w' := px_w K (sQ s 1 (0 : Int64)) t) (q := []) 2 hM rfl trivial ?_
    obtain ⟨s2, hs3, h⟩ := px_let_some h
    rw [← hs3]
    refine px_blk (i' := 14) (L' := [some (.ref 2), some (.int a0), some (.long a1), none]) (S' := []) (w' := px_w K (sQ s2 2 a1) t) (q := []) 3 hM rfl trivial ?_
    obtain ⟨s4, hs5, h⟩ := px_let_some h
    rw [← hs5]
    cases h
    exact px_E_ret hM rfl rfl rfl trivial
  · rw [if_neg hc1] at h
    refine px_blk (i' := 11) (L' := [some (.ref 2), some (.int a0), some (.long a1), none]) (S' := []) (w' := px_w K (sQ s 1 ((s.2.1 0) + a0.toInt64)) t) (q := []) 7 hM rfl trivial ?_
    obtain ⟨s6, hs7, h⟩ := px_let_some h
    rw [← hs7]
    refine px_blk (i' := 14) (L' := [some (.ref 2), some (.int a0), some (.long a1), none]) (S' := []) (w' := px_w K (sQ s6 2 a1) t) (q := []) 3 hM rfl trivial ?_
    obtain ⟨s8, hs9, h⟩ := px_let_some h
    rw [← hs9]
    cases h
    exact px_E_ret hM rfl rfl rfl trivial
noncomputable def f_E_goDown_1 (K : px_K) (N : Nat) (a0 : Int64) (s : px_S) (t : px_W) : Option px_Res :=
  (px_bv (f_D_losePending_3 K N a0 s t) (fun s1 t2 => (px_bv (f_D_losePending_8 K N a0 s1 t2) (fun s6 t7 => (px_let (sR s6 0 (0 : Int32)) (fun s11 => (px_bv (f_P_limitTo_2 K N (0 : Int32) (0 : Int64) s11 t7) (fun s13 t14 => (some (.inl (some (.int (-9 : Int32))), s13, t14))) (fun x17 s13 t14 => none))))) (fun x10 s6 t7 => none))) (fun x5 s1 t2 => none))
set_option maxRecDepth 100000 in
theorem e_E_goDown_1 (K : px_K) (N : Nat) (a0 : Int64) (s : px_S) (t : px_W) (r : px_Res) (h : f_E_goDown_1 K N a0 s t = some r) : px_E px_ET px_P 2 22 0 (px_ent 3 [.ref 1, .long a0]) [] (px_w K s t) r.1 (px_w K r.2.1 r.2.2) := by
  have hM : px_P[22]? = some pm_E_goDown := rfl
  unfold f_E_goDown_1 at h
  refine px_blk (i' := 3) (L' := [some (.ref 1), some (.long a0), none]) (S' := [.long a0, .ref 3]) (w' := px_w K s t) (q := []) 3 hM rfl trivial ?_
  rcases px_bv_some h with ⟨s1, t2, hk3, h⟩ | ⟨x5, s1, t2, hk3, h⟩
  · refine px_E_call hM rfl rfl rfl rfl (px_E_mono (by decide) (e_D_losePending_3 K N a0 s t _ hk3)) ?_
    refine px_blk (i' := 7) (L' := [some (.ref 1), some (.long a0), none]) (S' := [.long a0, .ref 8]) (w' := px_w K s1 t2) (q := []) 3 hM rfl trivial ?_
    rcases px_bv_some h with ⟨s6, t7, hk8, h⟩ | ⟨x10, s6, t7, hk8, h⟩
    · refine px_E_call hM rfl rfl rfl rfl (px_E_mono (by decide) (e_D_losePending_8 K N a0 s1 t2 _ hk8)) ?_
      refine px_blk (i' := 12) (L' := [some (.ref 1), some (.long a0), none]) (S' := []) (w' := px_w K (sR s6 0 (0 : Int32)) t7) (q := [(0 : Int32) = 0 ∨ (0 : Int32) = 1]) 4 hM rfl (show (0 : Int32) = 0 ∨ (0 : Int32) = 1 from Or.inl rfl) ?_
      obtain ⟨s11, hs12, h⟩ := px_let_some h
      rw [← hs12]
      refine px_blk (i' := 16) (L' := [some (.ref 1), some (.long a0), none]) (S' := [.long (0 : Int64), .int (0 : Int32), .ref 2]) (w' := px_w K s11 t7) (q := []) 4 hM rfl trivial ?_
      rcases px_bv_some h with ⟨s13, t14, hk15, h⟩ | ⟨x17, s13, t14, hk15, h⟩
      · refine px_E_call hM rfl rfl rfl rfl (px_E_mono (by decide) (e_P_limitTo_2 K N (0 : Int32) (0 : Int64) s11 t7 _ hk15)) ?_
        refine px_blk (i' := 18) (L' := [some (.ref 1), some (.long a0), none]) (S' := [.int (-9 : Int32)]) (w' := px_w K s13 t14) (q := []) 1 hM rfl trivial ?_
        cases h
        exact px_E_ret hM rfl rfl rfl trivial
      · cases h
    · cases h
  · cases h
noncomputable def f_E_make_1 (K : px_K) (N : Nat) (a0 : Int32) (a1 : Int32) (a2 : Int32) (s : px_S) (t : px_W) : Option px_Res :=
  (if ¬ (s.1 0) = 0 then (px_bv (f_T_commitAbove_22 K N (7 : Int32) s t) (fun s2 t3 => (px_bi (f_T_create_22 K N a0 a1 (if a2 = 0 then (2 : Int32) else (1 : Int32)) s2 t3) (fun v10 s7 t8 => (some (.inl (some (.int v10)), s7, t8))) (fun x11 s7 t8 => none))) (fun x6 s2 t3 => (px_gd (px_isx t3 x6 7) (px_bi (f_E_goDown_1 K N (s2.2.1 2) s2 t3) (fun v16 s13 t14 => (some (.inl (some (.int v16)), s13, t14))) (fun x17 s13 t14 => none))))) else (some (.inl (some (.int (-9 : Int32))), s, t)))
set_option maxRecDepth 100000 in
theorem e_E_make_1 (K : px_K) (N : Nat) (a0 : Int32) (a1 : Int32) (a2 : Int32) (s : px_S) (t : px_W) (r : px_Res) (h : f_E_make_1 K N a0 a1 a2 s t = some r) : px_E px_ET px_P 15 1 0 (px_ent 5 [.ref 1, .int a0, .int a1, .int a2]) [] (px_w K s t) r.1 (px_w K r.2.1 r.2.2) := by
  have hM : px_P[1]? = some pm_E_make := rfl
  unfold f_E_make_1 at h
  refine px_blkif (c := ¬ (s.1 0) = 0) (t := 6) (e := 4) (L' := [some (.ref 1), some (.int a0), some (.int a1), some (.int a2), none]) (S' := []) (w' := px_w K s t) (q := []) 4 hM rfl trivial (fun hc1 => ?_) (fun hc1 => ?_)
  · rw [if_pos hc1] at h
    refine px_blk (i' := 9) (L' := [some (.ref 1), some (.int a0), some (.int a1), some (.int a2), none]) (S' := [.int (7 : Int32), .ref 22]) (w' := px_w K s t) (q := []) 3 hM rfl trivial ?_
    rcases px_bv_some h with ⟨s2, t3, hk4, h⟩ | ⟨x6, s2, t3, hk4, h⟩
    · refine px_E_call hM rfl rfl rfl rfl (px_E_mono (by decide) (e_T_commitAbove_22 K N (7 : Int32) s t _ hk4)) ?_
      refine px_blk (i' := 15) (L' := [some (.ref 1), some (.int a0), some (.int a1), some (.int a2), none]) (S' := [.int a2, .int a1, .int a0, .ref 22]) (w' := px_w K s2 t3) (q := []) 5 hM rfl trivial ?_
      have hK : px_E px_ET px_P 15 1 19 [some (.ref 1), some (.int a0), some (.int a1), some (.int a2), none] [.int (if a2 = 0 then (2 : Int32) else (1 : Int32)), .int a1, .int a0, .ref 22] (px_w K s2 t3) r.1 (px_w K r.2.1 r.2.2) := by
        rcases px_bi_some h with ⟨v10, s7, t8, hk9, h⟩ | ⟨x11, s7, t8, hk9, h⟩
        · refine px_E_call hM rfl rfl rfl rfl (px_E_mono (by decide) (e_T_create_22 K N a0 a1 (if a2 = 0 then (2 : Int32) else (1 : Int32)) s2 t3 _ hk9)) ?_
          cases h
          exact px_E_ret hM rfl rfl rfl trivial
        · cases h
      clear h
      refine px_blkif (c := a2 = 0) (t := 18) (e := 16) (L' := [some (.ref 1), some (.int a0), some (.int a1), some (.int a2), none]) (S' := [.int a1, .int a0, .ref 22]) (w' := px_w K s2 t3) (q := []) 1 hM rfl trivial (fun hc12 => ?_) (fun hc12 => ?_)
      · rw [if_pos hc12] at hK
        exact px_blk (i' := 19) (L' := [some (.ref 1), some (.int a0), some (.int a1), some (.int a2), none]) (S' := [.int (2 : Int32), .int a1, .int a0, .ref 22]) (w' := px_w K s2 t3) (q := []) 1 hM rfl trivial hK
      · rw [if_neg hc12] at hK
        exact px_blk (i' := 19) (L' := [some (.ref 1), some (.int a0), some (.int a1), some (.int a2), none]) (S' := [.int (1 : Int32), .int a1, .int a0, .ref 22]) (w' := px_w K s2 t3) (q := []) 2 hM rfl trivial hK
    · obtain ⟨hx18, h⟩ := px_gd_some h
      refine px_E_callC hM rfl rfl rfl rfl (px_E_mono (by decide) (e_T_commitAbove_22 K N (7 : Int32) s t _ hk4)) (px_hnd_of rfl rfl hx18) ?_
      refine px_blk (i' := 26) (L' := [some (.ref 1), some (.int a0), some (.int a1), some (.int a2), some (.ref (x6))]) (S' := [.long (s2.2.1 2), .ref 1]) (w' := px_w K s2 t3) (q := []) 5 hM rfl trivial ?_
      rcases px_bi_some h with ⟨v16, s13, t14, hk15, h⟩ | ⟨x17, s13, t14, hk15, h⟩
      · refine px_E_call hM rfl rfl rfl rfl (px_E_mono (by decide) (e_E_goDown_1 K N (s2.2.1 2) s2 t3 _ hk15)) ?_
        cases h
        exact px_E_ret hM rfl rfl rfl trivial
      · cases h
  · rw [if_neg hc1] at h
    refine px_blk (i' := 5) (L' := [some (.ref 1), some (.int a0), some (.int a1), some (.int a2), none]) (S' := [.int (-9 : Int32)]) (w' := px_w K s t) (q := []) 1 hM rfl trivial ?_
    cases h
    exact px_E_ret hM rfl rfl rfl trivial
noncomputable def f_T_lookUp_22 (K : px_K) (N : Nat) (a0 : Int32) (a1 : Int32) (s : px_S) (t : px_W) : Option px_Res :=
  (px_bi (f_T_isDirectory_22 K N a0 s t) (fun v4 s1 t2 => (if ¬ v4 = 0 then (if (1 : Int32) ≤ a1 then (px_bi (f_T_placeOf_22 K N a0 a1 s1 t2) (fun v11 s8 t9 => (if 0 ≤ v11 then (px_bi (f_T_entryWord_22 K N a0 v11 (1 : Int32) s8 t9) (fun v17 s14 t15 => (some (.inl (some (.int v17)), s14, t15))) (fun x18 s14 t15 => none)) else (some (.inl (some (.int (-1 : Int32))), s8, t9)))) (fun x12 s8 t9 => none)) else (if 0 ≤ (-1 : Int32) then (px_bi (f_T_entryWord_22 K N a0 (-1 : Int32) (1 : Int32) s1 t2) (fun v23 s20 t21 => (some (.inl (some (.int v23)), s20, t21))) (fun x24 s20 t21 => none)) else (some (.inl (some (.int (-1 : Int32))), s1, t2)))) else (some (.inl (some (.int (-4 : Int32))), s1, t2)))) (fun x5 s1 t2 => none))
set_option maxRecDepth 100000 in
theorem e_T_lookUp_22 (K : px_K) (N : Nat) (a0 : Int32) (a1 : Int32) (s : px_S) (t : px_W) (r : px_Res) (h : f_T_lookUp_22 K N a0 a1 s t = some r) : px_E px_ET px_P 6 158 0 (px_ent 4 [.ref 22, .int a0, .int a1]) [] (px_w K s t) r.1 (px_w K r.2.1 r.2.2) := by
  have hM : px_P[158]? = some pm_T_lookUp := rfl
  unfold f_T_lookUp_22 at h
  refine px_blk (i' := 2) (L' := [some (.ref 22), some (.int a0), some (.int a1), none]) (S' := [.int a0, .ref 22]) (w' := px_w K s t) (q := []) 2 hM rfl trivial ?_
  rcases px_bi_some h with ⟨v4, s1, t2, hk3, h⟩ | ⟨x5, s1, t2, hk3, h⟩
  · refine px_E_call hM rfl rfl rfl rfl (px_E_mono (by decide) (e_T_isDirectory_22 K N a0 s t _ hk3)) ?_
    refine px_blkif (c := ¬ v4 = 0) (t := 6) (e := 4) (L' := [some (.ref 22), some (.int a0), some (.int a1), none]) (S' := []) (w' := px_w K s1 t2) (q := []) 1 hM rfl trivial (fun hc6 => ?_) (fun hc6 => ?_)
    · rw [if_pos hc6] at h
      refine px_blkif (c := (1 : Int32) ≤ a1) (t := 11) (e := 9) (L' := [some (.ref 22), some (.int a0), some (.int a1), none]) (S' := []) (w' := px_w K s1 t2) (q := []) 3 hM rfl trivial (fun hc7 => ?_) (fun hc7 => ?_)
      · rw [if_pos hc7] at h
        refine px_blk (i' := 14) (L' := [some (.ref 22), some (.int a0), some (.int a1), none]) (S' := [.int a1, .int a0, .ref 22]) (w' := px_w K s1 t2) (q := []) 3 hM rfl trivial ?_
        rcases px_bi_some h with ⟨v11, s8, t9, hk10, h⟩ | ⟨x12, s8, t9, hk10, h⟩
        · refine px_E_call hM rfl rfl rfl rfl (px_E_mono (by decide) (e_T_placeOf_22 K N a0 a1 s1 t2 _ hk10)) ?_
          refine px_blkif (c := 0 ≤ v11) (t := 20) (e := 18) (L' := [some (.ref 22), some (.int a0), some (.int a1), some (.int v11)]) (S' := []) (w' := px_w K s8 t9) (q := []) 3 hM rfl trivial (fun hc13 => ?_) (fun hc13 => ?_)
          · rw [if_pos hc13] at h
            refine px_blk (i' := 24) (L' := [some (.ref 22), some (.int a0), some (.int a1), some (.int v11)]) (S' := [.int (1 : Int32), .int v11, .int a0, .ref 22]) (w' := px_w K s8 t9) (q := []) 4 hM rfl trivial ?_
            rcases px_bi_some h with ⟨v17, s14, t15, hk16, h⟩ | ⟨x18, s14, t15, hk16, h⟩
            · refine px_E_call hM rfl rfl rfl rfl (px_E_mono (by decide) (e_T_entryWord_22 K N a0 v11 (1 : Int32) s8 t9 _ hk16)) ?_
              cases h
              exact px_E_ret hM rfl rfl rfl trivial
            · cases h
          · rw [if_neg hc13] at h
            refine px_blk (i' := 25) (L' := [some (.ref 22), some (.int a0), some (.int a1), some (.int v11)]) (S' := [.int (-1 : Int32)]) (w' := px_w K s8 t9) (q := []) 2 hM rfl trivial ?_
            cases h
            exact px_E_ret hM rfl rfl rfl trivial
        · cases h
      · rw [if_neg hc7] at h
        refine px_blkif (c := 0 ≤ (-1 : Int32)) (t := 20) (e := 18) (L' := [some (.ref 22), some (.int a0), some (.int a1), some (.int (-1 : Int32))]) (S' := []) (w' := px_w K s1 t2) (q := []) 5 hM rfl trivial (fun hc19 => ?_) (fun hc19 => ?_)
        · rw [if_pos hc19] at h
          refine px_blk (i' := 24) (L' := [some (.ref 22), some (.int a0), some (.int a1), some (.int (-1 : Int32))]) (S' := [.int (1 : Int32), .int (-1 : Int32), .int a0, .ref 22]) (w' := px_w K s1 t2) (q := []) 4 hM rfl trivial ?_
          rcases px_bi_some h with ⟨v23, s20, t21, hk22, h⟩ | ⟨x24, s20, t21, hk22, h⟩
          · refine px_E_call hM rfl rfl rfl rfl (px_E_mono (by decide) (e_T_entryWord_22 K N a0 (-1 : Int32) (1 : Int32) s1 t2 _ hk22)) ?_
            cases h
            exact px_E_ret hM rfl rfl rfl trivial
          · cases h
        · rw [if_neg hc19] at h
          refine px_blk (i' := 25) (L' := [some (.ref 22), some (.int a0), some (.int a1), some (.int (-1 : Int32))]) (S' := [.int (-1 : Int32)]) (w' := px_w K s1 t2) (q := []) 2 hM rfl trivial ?_
          cases h
          exact px_E_ret hM rfl rfl rfl trivial
    · rw [if_neg hc6] at h
      refine px_blk (i' := 5) (L' := [some (.ref 22), some (.int a0), some (.int a1), none]) (S' := [.int (-4 : Int32)]) (w' := px_w K s1 t2) (q := []) 1 hM rfl trivial ?_
      cases h
      exact px_E_ret hM rfl rfl rfl trivial
  · cases h
noncomputable def f_E_find_1 (K : px_K) (N : Nat) (a0 : Int32) (a1 : Int32) (s : px_S) (t : px_W) : Option px_Res :=
  (if ¬ (s.1 0) = 0 then (px_bi (f_T_lookUp_22 K N a0 a1 s t) (fun v5 s2 t3 => (some (.inl (some (.int v5)), s2, t3))) (fun x6 s2 t3 => none)) else (some (.inl (some (.int (-9 : Int32))), s, t)))
set_option maxRecDepth 100000 in
theorem e_E_find_1 (K : px_K) (N : Nat) (a0 : Int32) (a1 : Int32) (s : px_S) (t : px_W) (r : px_Res) (h : f_E_find_1 K N a0 a1 s t = some r) : px_E px_ET px_P 7 2 0 (px_ent 3 [.ref 1, .int a0, .int a1]) [] (px_w K s t) r.1 (px_w K r.2.1 r.2.2) := by
  have hM : px_P[2]? = some pm_E_find := rfl
  unfold f_E_find_1 at h
  refine px_blkif (c := ¬ (s.1 0) = 0) (t := 6) (e := 4) (L' := [some (.ref 1), some (.int a0), some (.int a1)]) (S' := []) (w' := px_w K s t) (q := []) 4 hM rfl trivial (fun hc1 => ?_) (fun hc1 => ?_)
  · rw [if_pos hc1] at h
    refine px_blk (i' := 10) (L' := [some (.ref 1), some (.int a0), some (.int a1)]) (S' := [.int a1, .int a0, .ref 22]) (w' := px_w K s t) (q := []) 4 hM rfl trivial ?_
    rcases px_bi_some h with ⟨v5, s2, t3, hk4, h⟩ | ⟨x6, s2, t3, hk4, h⟩
    · refine px_E_call hM rfl rfl rfl rfl (px_E_mono (by decide) (e_T_lookUp_22 K N a0 a1 s t _ hk4)) ?_
      cases h
      exact px_E_ret hM rfl rfl rfl trivial
    · cases h
  · rw [if_neg hc1] at h
    refine px_blk (i' := 5) (L' := [some (.ref 1), some (.int a0), some (.int a1)]) (S' := [.int (-9 : Int32)]) (w' := px_w K s t) (q := []) 1 hM rfl trivial ?_
    cases h
    exact px_E_ret hM rfl rfl rfl trivial
noncomputable def f_T_isFile_22 (K : px_K) (N : Nat) (a0 : Int32) (s : px_S) (t : px_W) : Option px_Res :=
  (px_bi (f_T_inodeWord_22 K N a0 (0 : Int32) s t) (fun v4 s1 t2 => (some (.inl (some (.int (if ¬ v4 = (2 : Int32) then (0 : Int32) else (1 : Int32)))), s1, t2))) (fun x5 s1 t2 => none))
set_option maxRecDepth 100000 in
theorem e_T_isFile_22 (K : px_K) (N : Nat) (a0 : Int32) (s : px_S) (t : px_W) (r : px_Res) (h : f_T_isFile_22 K N a0 s t = some r) : px_E px_ET px_P 2 142 0 (px_ent 2 [.ref 22, .int a0]) [] (px_w K s t) r.1 (px_w K r.2.1 r.2.2) := by
  have hM : px_P[142]? = some pm_T_isFile := rfl
  unfold f_T_isFile_22 at h
  refine px_blk (i' := 3) (L' := [some (.ref 22), some (.int a0)]) (S' := [.int (0 : Int32), .int a0, .ref 22]) (w' := px_w K s t) (q := []) 3 hM rfl trivial ?_
  rcases px_bi_some h with ⟨v4, s1, t2, hk3, h⟩ | ⟨x5, s1, t2, hk3, h⟩
  · refine px_E_call hM rfl rfl rfl rfl (px_E_mono (by decide) (e_T_inodeWord_22 K N a0 (0 : Int32) s t _ hk3)) ?_
    refine px_blk (i' := 5) (L' := [some (.ref 22), some (.int a0)]) (S' := [.int (2 : Int32), .int v4]) (w' := px_w K s1 t2) (q := []) 1 hM rfl trivial ?_
    have hK : px_E px_ET px_P 2 142 9 [some (.ref 22), some (.int a0)] [.int (if ¬ v4 = (2 : Int32) then (0 : Int32) else (1 : Int32))] (px_w K s1 t2) r.1 (px_w K r.2.1 r.2.2) := by
      cases h
      exact px_E_ret hM rfl rfl rfl (show (if ¬ v4 = (2 : Int32) then (0 : Int32) else (1 : Int32)) = 0 ∨ (if ¬ v4 = (2 : Int32) then (0 : Int32) else (1 : Int32)) = 1 from (by split <;> simp))
    clear h
    refine px_blkif (c := ¬ v4 = (2 : Int32)) (t := 8) (e := 6) (L' := [some (.ref 22), some (.int a0)]) (S' := []) (w' := px_w K s1 t2) (q := []) 1 hM rfl trivial (fun hc6 => ?_) (fun hc6 => ?_)
    · rw [if_pos hc6] at hK
      exact px_blk (i' := 9) (L' := [some (.ref 22), some (.int a0)]) (S' := [.int (0 : Int32)]) (w' := px_w K s1 t2) (q := []) 1 hM rfl trivial hK
    · rw [if_neg hc6] at hK
      exact px_blk (i' := 9) (L' := [some (.ref 22), some (.int a0)]) (S' := [.int (1 : Int32)]) (w' := px_w K s1 t2) (q := []) 2 hM rfl trivial hK
  · cases h
noncomputable def f_V_peek_13_23 (K : px_K) (N : Nat) (a0 : Int32) (s : px_S) (t : px_W) : Option px_Res :=
  (if a0 < 0 then (some (.inl none, s, t)) else (if (106 : Int32) ≤ a0 then (some (.inl none, s, t)) else (if (1696 : Int32) ≤ (Int32.ofNat (K.2.2 23)) then (if (s.1 12) = 0 then (if (-1 : Int32) < 0 then (px_gd (¬ (((19 : Int32) + a0) * (16 : Int32)) < 0 ∧ ¬ (a0 * (16 : Int32)) < 0 ∧ ¬ (16 : Int32) < 0 ∧ (((19 : Int32) + a0) * (16 : Int32)).toNatClampNeg + (16 : Int32).toNatClampNeg ≤ K.2.2 6 ∧ (a0 * (16 : Int32)).toNatClampNeg + (16 : Int32).toNatClampNeg ≤ K.2.2 23) (px_let (sF s 23 (va_cpy (s.2.2.1 6) (s.2.2.1 23) (((19 : Int32) + a0) * (16 : Int32)).toNatClampNeg (a0 * (16 : Int32)).toNatClampNeg (16 : Int32).toNatClampNeg)) (fun s7 => (some (.inl none, s7, t))))) else (px_gd (¬ (((50 : Int32) + (-1 : Int32)) * (16 : Int32)) < 0 ∧ ¬ (a0 * (16 : Int32)) < 0 ∧ ¬ (16 : Int32) < 0 ∧ (((50 : Int32) + (-1 : Int32)) * (16 : Int32)).toNatClampNeg + (16 : Int32).toNatClampNeg ≤ K.2.2 11 ∧ (a0 * (16 : Int32)).toNatClampNeg + (16 : Int32).toNatClampNeg ≤ K.2.2 23) (px_let (sF s 23 (va_cpy (s.2.2.1 11) (s.2.2.1 23) (((50 : Int32) + (-1 : Int32)) * (16 : Int32)).toNatClampNeg (a0 * (16 : Int32)).toNatClampNeg (16 : Int32).toNatClampNeg)) (fun s10 => (some (.inl none, s10, t)))))) else (px_bi (f_S_newest_14 K N a0 s t) (fun v15 s12 t13 => (if v15 < 0 then (px_gd (¬ (((19 : Int32) + a0) * (16 : Int32)) < 0 ∧ ¬ (a0 * (16 : Int32)) < 0 ∧ ¬ (16 : Int32) < 0 ∧ (((19 : Int32) + a0) * (16 : Int32)).toNatClampNeg + (16 : Int32).toNatClampNeg ≤ K.2.2 6 ∧ (a0 * (16 : Int32)).toNatClampNeg + (16 : Int32).toNatClampNeg ≤ K.2.2 23) (px_let (sF s12 23 (va_cpy (s12.2.2.1 6) (s12.2.2.1 23) (((19 : Int32) + a0) * (16 : Int32)).toNatClampNeg (a0 * (16 : Int32)).toNatClampNeg (16 : Int32).toNatClampNeg)) (fun s19 => (some (.inl none, s19, t13))))) else (px_gd (¬ (((50 : Int32) + v15) * (16 : Int32)) < 0 ∧ ¬ (a0 * (16 : Int32)) < 0 ∧ ¬ (16 : Int32) < 0 ∧ (((50 : Int32) + v15) * (16 : Int32)).toNatClampNeg + (16 : Int32).toNatClampNeg ≤ K.2.2 11 ∧ (a0 * (16 : Int32)).toNatClampNeg + (16 : Int32).toNatClampNeg ≤ K.2.2 23) (px_let (sF s12 23 (va_cpy (s12.2.2.1 11) (s12.2.2.1 23) (((50 : Int32) + v15) * (16 : Int32)).toNatClampNeg (a0 * (16 : Int32)).toNatClampNeg (16 : Int32).toNatClampNeg)) (fun s22 => (some (.inl none, s22, t13))))))) (fun x16 s12 t13 => none))) else (some (.inl none, s, t)))))
set_option maxRecDepth 100000 in
theorem e_V_peek_13_23 (K : px_K) (N : Nat) (a0 : Int32) (s : px_S) (t : px_W) (r : px_Res) (h : f_V_peek_13_23 K N a0 s t = some r) : px_E px_ET px_P 2 186 0 (px_ent 4 [.ref 13, .int a0, .ref 23]) [] (px_w K s t) r.1 (px_w K r.2.1 r.2.2) := by
  have hM : px_P[186]? = some pm_V_peek := rfl
  unfold f_V_peek_13_23 at h
  refine px_blkif (c := a0 < 0) (t := 9) (e := 2) (L' := [some (.ref 13), some (.int a0), some (.ref 23), none]) (S' := []) (w' := px_w K s t) (q := []) 2 hM rfl trivial (fun hc1 => ?_) (fun hc1 => ?_)
  · rw [if_pos hc1] at h
    cases h
    exact px_E_ret hM rfl rfl rfl trivial
  · rw [if_neg hc1] at h
    refine px_blkif (c := (106 : Int32) ≤ a0) (t := 9) (e := 5) (L' := [some (.ref 13), some (.int a0), some (.ref 23), none]) (S' := []) (w' := px_w K s t) (q := []) 3 hM rfl trivial (fun hc2 => ?_) (fun hc2 => ?_)
    · rw [if_pos hc2] at h
      cases h
      exact px_E_ret hM rfl rfl rfl trivial
    · rw [if_neg hc2] at h
      refine px_blkif (c := (1696 : Int32) ≤ (Int32.ofNat (K.2.2 23))) (t := 10) (e := 9) (L' := [some (.ref 13), some (.int a0), some (.ref 23), none]) (S' := []) (w' := px_w K s t) (q := []) 4 hM rfl trivial (fun hc3 => ?_) (fun hc3 => ?_)
      · rw [if_pos hc3] at h
        refine px_blkif (c := (s.1 12) = 0) (t := 18) (e := 13) (L' := [some (.ref 13), some (.int a0), some (.ref 23), none]) (S' := []) (w' := px_w K s t) (q := []) 3 hM rfl trivial (fun hc4 => ?_) (fun hc4 => ?_)
        · rw [if_pos hc4] at h
          refine px_blkif (c := (-1 : Int32) < 0) (t := 37) (e := 22) (L' := [some (.ref 13), some (.int a0), some (.ref 23), some (.int (-1 : Int32))]) (S' := []) (w' := px_w K s t) (q := []) 4 hM rfl trivial (fun hc5 => ?_) (fun hc5 => ?_)
          · rw [if_pos hc5] at h
            refine px_blk (i' := 49) (L' := [some (.ref 13), some (.int a0), some (.ref 23), some (.int (-1 : Int32))]) (S' := [.int (a0 * (16 : Int32)), .ref 23, .int (((19 : Int32) + a0) * (16 : Int32)), .ref 6]) (w' := px_w K s t) (q := []) 12 hM rfl trivial ?_
            obtain ⟨hq6, h⟩ := px_gd_some h
            refine px_blk (i' := 51) (L' := [some (.ref 13), some (.int a0), some (.ref 23), some (.int (-1 : Int32))]) (S' := []) (w' := px_w K (sF s 23 (va_cpy (s.2.2.1 6) (s.2.2.1 23) (((19 : Int32) + a0) * (16 : Int32)).toNatClampNeg (a0 * (16 : Int32)).toNatClampNeg (16 : Int32).toNatClampNeg)) t) (q := [¬ (((19 : Int32) + a0) * (16 : Int32)) < 0 ∧ ¬ (a0 * (16 : Int32)) < 0 ∧ ¬ (16 : Int32) < 0 ∧ (((19 : Int32) + a0) * (16 : Int32)).toNatClampNeg + (16 : Int32).toNatClampNeg ≤ K.2.2 6 ∧ (a0 * (16 : Int32)).toNatClampNeg + (16 : Int32).toNatClampNeg ≤ K.2.2 23]) 2 hM rfl (show ¬ (((19 : Int32) + a0) * (16 : Int32)) < 0 ∧ ¬ (a0 * (16 : Int32)) < 0 ∧ ¬ (16 : Int32) < 0 ∧ (((19 : Int32) + a0) * (16 : Int32)).toNatClampNeg + (16 : Int32).toNatClampNeg ≤ K.2.2 6 ∧ (a0 * (16 : Int32)).toNatClampNeg + (16 : Int32).toNatClampNeg ≤ K.2.2 23 from hq6) ?_
            obtain ⟨s7, hs8, h⟩ := px_let_some h
            rw [← hs8]
            cases h
            exact px_E_ret hM rfl rfl rfl trivial
          · rw [if_neg hc5] at h
            refine px_blk (i' := 34) (L' := [some (.ref 13), some (.int a0), some (.ref 23), some (.int (-1 : Int32))]) (S' := [.int (a0 * (16 : Int32)), .ref 23, .int (((50 : Int32) + (-1 : Int32)) * (16 : Int32)), .ref 11]) (w' := px_w K s t) (q := []) 12 hM rfl trivial ?_
            obtain ⟨hq9, h⟩ := px_gd_some h
            refine px_blk (i' := 36) (L' := [some (.ref 13), some (.int a0), some (.ref 23), some (.int (-1 : Int32))]) (S' := []) (w' := px_w K (sF s 23 (va_cpy (s.2.2.1 11) (s.2.2.1 23) (((50 : Int32) + (-1 : Int32)) * (16 : Int32)).toNatClampNeg (a0 * (16 : Int32)).toNatClampNeg (16 : Int32).toNatClampNeg)) t) (q := [¬ (((50 : Int32) + (-1 : Int32)) * (16 : Int32)) < 0 ∧ ¬ (a0 * (16 : Int32)) < 0 ∧ ¬ (16 : Int32) < 0 ∧ (((50 : Int32) + (-1 : Int32)) * (16 : Int32)).toNatClampNeg + (16 : Int32).toNatClampNeg ≤ K.2.2 11 ∧ (a0 * (16 : Int32)).toNatClampNeg + (16 : Int32).toNatClampNeg ≤ K.2.2 23]) 2 hM rfl (show ¬ (((50 : Int32) + (-1 : Int32)) * (16 : Int32)) < 0 ∧ ¬ (a0 * (16 : Int32)) < 0 ∧ ¬ (16 : Int32) < 0 ∧ (((50 : Int32) + (-1 : Int32)) * (16 : Int32)).toNatClampNeg + (16 : Int32).toNatClampNeg ≤ K.2.2 11 ∧ (a0 * (16 : Int32)).toNatClampNeg + (16 : Int32).toNatClampNeg ≤ K.2.2 23 from hq9) ?_
            obtain ⟨s10, hs11, h⟩ := px_let_some h
            rw [← hs11]
            refine px_blk (i' := 51) (L' := [some (.ref 13), some (.int a0), some (.ref 23), some (.int (-1 : Int32))]) (S' := []) (w' := px_w K s10 t) (q := []) 1 hM rfl trivial ?_
            cases h
            exact px_E_ret hM rfl rfl rfl trivial
        · rw [if_neg hc4] at h
          refine px_blk (i' := 16) (L' := [some (.ref 13), some (.int a0), some (.ref 23), none]) (S' := [.int a0, .ref 14]) (w' := px_w K s t) (q := []) 3 hM rfl trivial ?_
          rcases px_bi_some h with ⟨v15, s12, t13, hk14, h⟩ | ⟨x16, s12, t13, hk14, h⟩
          · refine px_E_call hM rfl rfl rfl rfl (px_E_mono (by decide) (e_S_newest_14 K N a0 s t _ hk14)) ?_
            refine px_blkif (c := v15 < 0) (t := 37) (e := 22) (L' := [some (.ref 13), some (.int a0), some (.ref 23), some (.int v15)]) (S' := []) (w' := px_w K s12 t13) (q := []) 4 hM rfl trivial (fun hc17 => ?_) (fun hc17 => ?_)
            · rw [if_pos hc17] at h
              refine px_blk (i' := 49) (L' := [some (.ref 13), some (.int a0), some (.ref 23), some (.int v15)]) (S' := [.int (a0 * (16 : Int32)), .ref 23, .int (((19 : Int32) + a0) * (16 : Int32)), .ref 6]) (w' := px_w K s12 t13) (q := []) 12 hM rfl trivial ?_
              obtain ⟨hq18, h⟩ := px_gd_some h
              refine px_blk (i' := 51) (L' := [some (.ref 13), some (.int a0), some (.ref 23), some (.int v15)]) (S' := []) (w' := px_w K (sF s12 23 (va_cpy (s12.2.2.1 6) (s12.2.2.1 23) (((19 : Int32) + a0) * (16 : Int32)).toNatClampNeg (a0 * (16 : Int32)).toNatClampNeg (16 : Int32).toNatClampNeg)) t13) (q := [¬ (((19 : Int32) + a0) * (16 : Int32)) < 0 ∧ ¬ (a0 * (16 : Int32)) < 0 ∧ ¬ (16 : Int32) < 0 ∧ (((19 : Int32) + a0) * (16 : Int32)).toNatClampNeg + (16 : Int32).toNatClampNeg ≤ K.2.2 6 ∧ (a0 * (16 : Int32)).toNatClampNeg + (16 : Int32).toNatClampNeg ≤ K.2.2 23]) 2 hM rfl (show ¬ (((19 : Int32) + a0) * (16 : Int32)) < 0 ∧ ¬ (a0 * (16 : Int32)) < 0 ∧ ¬ (16 : Int32) < 0 ∧ (((19 : Int32) + a0) * (16 : Int32)).toNatClampNeg + (16 : Int32).toNatClampNeg ≤ K.2.2 6 ∧ (a0 * (16 : Int32)).toNatClampNeg + (16 : Int32).toNatClampNeg ≤ K.2.2 23 from hq18) ?_
              obtain ⟨s19, hs20, h⟩ := px_let_some h
              rw [← hs20]
              cases h
              exact px_E_ret hM rfl rfl rfl trivial
            · rw [if_neg hc17] at h
              refine px_blk (i' := 34) (L' := [some (.ref 13), some (.int a0), some (.ref 23), some (.int v15)]) (S' := [.int (a0 * (16 : Int32)), .ref 23, .int (((50 : Int32) + v15) * (16 : Int32)), .ref 11]) (w' := px_w K s12 t13) (q := []) 12 hM rfl trivial ?_
              obtain ⟨hq21, h⟩ := px_gd_some h
              refine px_blk (i' := 36) (L' := [some (.ref 13), some (.int a0), some (.ref 23), some (.int v15)]) (S' := []) (w' := px_w K (sF s12 23 (va_cpy (s12.2.2.1 11) (s12.2.2.1 23) (((50 : Int32) + v15) * (16 : Int32)).toNatClampNeg (a0 * (16 : Int32)).toNatClampNeg (16 : Int32).toNatClampNeg)) t13) (q := [¬ (((50 : Int32) + v15) * (16 : Int32)) < 0 ∧ ¬ (a0 * (16 : Int32)) < 0 ∧ ¬ (16 : Int32) < 0 ∧ (((50 : Int32) + v15) * (16 : Int32)).toNatClampNeg + (16 : Int32).toNatClampNeg ≤ K.2.2 11 ∧ (a0 * (16 : Int32)).toNatClampNeg + (16 : Int32).toNatClampNeg ≤ K.2.2 23]) 2 hM rfl (show ¬ (((50 : Int32) + v15) * (16 : Int32)) < 0 ∧ ¬ (a0 * (16 : Int32)) < 0 ∧ ¬ (16 : Int32) < 0 ∧ (((50 : Int32) + v15) * (16 : Int32)).toNatClampNeg + (16 : Int32).toNatClampNeg ≤ K.2.2 11 ∧ (a0 * (16 : Int32)).toNatClampNeg + (16 : Int32).toNatClampNeg ≤ K.2.2 23 from hq21) ?_
              obtain ⟨s22, hs23, h⟩ := px_let_some h
              rw [← hs23]
              refine px_blk (i' := 51) (L' := [some (.ref 13), some (.int a0), some (.ref 23), some (.int v15)]) (S' := []) (w' := px_w K s22 t13) (q := []) 1 hM rfl trivial ?_
              cases h
              exact px_E_ret hM rfl rfl rfl trivial
          · cases h
      · rw [if_neg hc3] at h
        cases h
        exact px_E_ret hM rfl rfl rfl trivial
noncomputable def f_D_put_8_6 (K : px_K) (N : Nat) (a0 : Int32) (a1 : Int32) (s : px_S) (t : px_W) : Option px_Res :=
  (px_bi (f_D_has_8 K N a0 s t) (fun v4 s1 t2 => (if v4 = 0 then (some (.inl none, s1, t2)) else (if a1 < 0 then (some (.inl none, s1, t2)) else (if a1 ≤ ((Int32.ofNat (K.2.2 6)) - (16 : Int32)) then (px_let (sQ s1 0 ((s1.2.1 0) + (1 : Int64))) (fun s9 => (if ¬ (lg_cmp (s9.2.1 0) (s9.2.1 1)) = 0 then (if ¬ (s9.1 8) = (64 : Int32) then (px_let (((s9.1 7) + (s9.1 8)) - ((s9.1 7) + (s9.1 8)) / (64 : Int32) * (64 : Int32)) (fun v13 => (px_gd (vp_in v13 (K.2.2 9)) (px_let (sA s9 9 v13.toNatClampNeg a0) (fun s16 => (px_gd (¬ a1 < 0 ∧ ¬ (v13 * (16 : Int32)) < 0 ∧ ¬ (16 : Int32) < 0 ∧ a1.toNatClampNeg + (16 : Int32).toNatClampNeg ≤ K.2.2 6 ∧ (v13 * (16 : Int32)).toNatClampNeg + (16 : Int32).toNatClampNeg ≤ K.2.2 10) (px_let (sF s16 10 (va_cpy (s16.2.2.1 6) (s16.2.2.1 10) a1.toNatClampNeg (v13 * (16 : Int32)).toNatClampNeg (16 : Int32).toNatClampNeg)) (fun s19 => (px_gd (¬ a1 < 0 ∧ ¬ (a0 * (16 : Int32)) < 0 ∧ ¬ (16 : Int32) < 0 ∧ a1.toNatClampNeg + (16 : Int32).toNatClampNeg ≤ K.2.2 6 ∧ (a0 * (16 : Int32)).toNatClampNeg + (16 : Int32).toNatClampNeg ≤ K.2.2 11) (px_let (sF s19 11 (va_cpy (s19.2.2.1 6) (s19.2.2.1 11) a1.toNatClampNeg (a0 * (16 : Int32)).toNatClampNeg (16 : Int32).toNatClampNeg)) (fun s22 => (px_let (sR s22 8 ((s22.1 8) + (1 : Int32))) (fun s24 => (px_let (sR s24 9 ((s24.1 9) + (1 : Int32))) (fun s26 => (some (.inl none, s26, t2))))))))))))))))) else (px_gd ((vp_in (s9.1 7) (K.2.2 9)) ∧ (¬ ((s9.1 7) * (16 : Int32)) < 0 ∧ ¬ (((s9.2.2.1 9) (s9.1 7).toNatClampNeg) * (16 : Int32)) < 0 ∧ ¬ (16 : Int32) < 0 ∧ ((s9.1 7) * (16 : Int32)).toNatClampNeg + (16 : Int32).toNatClampNeg ≤ K.2.2 10 ∧ (((s9.2.2.1 9) (s9.1 7).toNatClampNeg) * (16 : Int32)).toNatClampNeg + (16 : Int32).toNatClampNeg ≤ K.2.2 12)) (px_let (sF s9 12 (va_cpy (s9.2.2.1 10) (s9.2.2.1 12) ((s9.1 7) * (16 : Int32)).toNatClampNeg (((s9.2.2.1 9) (s9.1 7).toNatClampNeg) * (16 : Int32)).toNatClampNeg (16 : Int32).toNatClampNeg)) (fun s30 => (px_let (sR s30 7 (((s30.1 7) + (1 : Int32)) - ((s30.1 7) + (1 : Int32)) / (64 : Int32) * (64 : Int32))) (fun s32 => (px_let (sR s32 8 ((s32.1 8) - (1 : Int32))) (fun s34 => (px_let (((s34.1 7) + (s34.1 8)) - ((s34.1 7) + (s34.1 8)) / (64 : Int32) * (64 : Int32)) (fun v36 => (px_gd (vp_in v36 (K.2.2 9)) (px_let (sA s34 9 v36.toNatClampNeg a0) (fun s39 => (px_gd (¬ a1 < 0 ∧ ¬ (v36 * (16 : Int32)) < 0 ∧ ¬ (16 : Int32) < 0 ∧ a1.toNatClampNeg + (16 : Int32).toNatClampNeg ≤ K.2.2 6 ∧ (v36 * (16 : Int32)).toNatClampNeg + (16 : Int32).toNatClampNeg ≤ K.2.2 10) (px_let (sF s39 10 (va_cpy (s39.2.2.1 6) (s39.2.2.1 10) a1.toNatClampNeg (v36 * (16 : Int32)).toNatClampNeg (16 : Int32).toNatClampNeg)) (fun s42 => (px_gd (¬ a1 < 0 ∧ ¬ (a0 * (16 : Int32)) < 0 ∧ ¬ (16 : Int32) < 0 ∧ a1.toNatClampNeg + (16 : Int32).toNatClampNeg ≤ K.2.2 6 ∧ (a0 * (16 : Int32)).toNatClampNeg + (16 : Int32).toNatClampNeg ≤ K.2.2 11) (px_let (sF s42 11 (va_cpy (s42.2.2.1 6) (s42.2.2.1 11) a1.toNatClampNeg (a0 * (16 : Int32)).toNatClampNeg (16 : Int32).toNatClampNeg)) (fun s45 => (px_let (sR s45 8 ((s45.1 8) + (1 : Int32))) (fun s47 => (px_let (sR s47 9 ((s47.1 9) + (1 : Int32))) (fun s49 => (some (.inl none, s49, t2))))))))))))))))))))))))) else (some (.inr (t2.length + 47), s9, t2 ++ [px_exc 7]))))) else (some (.inl none, s1, t2)))))) (fun x5 s1 t2 => none))
set_option maxRecDepth 100000 in
theorem e_D_put_8_6 (K : px_K) (N : Nat) (a0 : Int32) (a1 : Int32) (s : px_S) (t : px_W) (r : px_Res) (h : f_D_put_8_6 K N a0 a1 s t = some r) : px_E px_ET px_P 9 113 0 (px_ent 5 [.ref 8, .int a0, .ref 6, .int a1]) [] (px_w K s t) r.1 (px_w K r.2.1 r.2.2) := by
  have hM : px_P[113]? = some pm_D_put := rfl
  unfold f_D_put_8_6 at h
  refine px_blk (i' := 2) (L' := [some (.ref 8), some (.int a0), some (.ref 6), some (.int a1), none]) (S' := [.int a0, .ref 8]) (w' := px_w K s t) (q := []) 2 hM rfl trivial ?_
  rcases px_bi_some h with ⟨v4, s1, t2, hk3, h⟩ | ⟨x5, s1, t2, hk3, h⟩
  · refine px_E_call hM rfl rfl rfl rfl (px_E_mono (by decide) (e_D_has_8 K N a0 s t _ hk3)) ?_
    refine px_blkif (c := v4 = 0) (t := 12) (e := 4) (L' := [some (.ref 8), some (.int a0), some (.ref 6), some (.int a1), none]) (S' := []) (w' := px_w K s1 t2) (q := []) 1 hM rfl trivial (fun hc6 => ?_) (fun hc6 => ?_)
    · rw [if_pos hc6] at h
      cases h
      exact px_E_ret hM rfl rfl rfl trivial
    · rw [if_neg hc6] at h
      refine px_blkif (c := a1 < 0) (t := 12) (e := 6) (L' := [some (.ref 8), some (.int a0), some (.ref 6), some (.int a1), none]) (S' := []) (w' := px_w K s1 t2) (q := []) 2 hM rfl trivial (fun hc7 => ?_) (fun hc7 => ?_)
      · rw [if_pos hc7] at h
        cases h
        exact px_E_ret hM rfl rfl rfl trivial
      · rw [if_neg hc7] at h
        refine px_blkif (c := a1 ≤ ((Int32.ofNat (K.2.2 6)) - (16 : Int32))) (t := 13) (e := 12) (L' := [some (.ref 8), some (.int a0), some (.ref 6), some (.int a1), none]) (S' := []) (w' := px_w K s1 t2) (q := []) 6 hM rfl trivial (fun hc8 => ?_) (fun hc8 => ?_)
        · rw [if_pos hc8] at h
          refine px_blk (i' := 20) (L' := [some (.ref 8), some (.int a0), some (.ref 6), some (.int a1), none]) (S' := []) (w' := px_w K (sQ s1 0 ((s1.2.1 0) + (1 : Int64))) t2) (q := []) 7 hM rfl trivial ?_
          obtain ⟨s9, hs10, h⟩ := px_let_some h
          rw [← hs10]
          refine px_blkif (c := ¬ (lg_cmp (s9.2.1 0) (s9.2.1 1)) = 0) (t := 29) (e := 28) (L' := [some (.ref 8), some (.int a0), some (.ref 6), some (.int a1), none]) (S' := []) (w' := px_w K s9 t2) (q := []) 8 hM rfl trivial (fun hc11 => ?_) (fun hc11 => ?_)
          · rw [if_pos hc11] at h
            refine px_blkif (c := ¬ (s9.1 8) = (64 : Int32)) (t := 64) (e := 33) (L' := [some (.ref 8), some (.int a0), some (.ref 6), some (.int a1), none]) (S' := []) (w' := px_w K s9 t2) (q := []) 4 hM rfl trivial (fun hc12 => ?_) (fun hc12 => ?_)
            · rw [if_pos hc12] at h
              refine px_blk (i' := 72) (L' := [some (.ref 8), some (.int a0), some (.ref 6), some (.int a1), some (.int (((s9.1 7) + (s9.1 8)) - ((s9.1 7) + (s9.1 8)) / (64 : Int32) * (64 : Int32)))]) (S' := []) (w' := px_w K s9 t2) (q := [¬ (64 : Int32) = 0]) 8 hM rfl (show ¬ (64 : Int32) = 0 from (by decide)) ?_
              obtain ⟨v13, hv14, h⟩ := px_let_some h
              rw [← hv14]
              obtain ⟨hq15, h⟩ := px_gd_some h
              refine px_blk (i' := 77) (L' := [some (.ref 8), some (.int a0), some (.ref 6), some (.int a1), some (.int v13)]) (S' := []) (w' := px_w K (sA s9 9 v13.toNatClampNeg a0) t2) (q := [vp_in v13 (K.2.2 9)]) 5 hM rfl (show vp_in v13 (K.2.2 9) from hq15) ?_
              obtain ⟨s16, hs17, h⟩ := px_let_some h
              rw [← hs17]
              obtain ⟨hq18, h⟩ := px_gd_some h
              refine px_blk (i' := 86) (L' := [some (.ref 8), some (.int a0), some (.ref 6), some (.int a1), some (.int v13)]) (S' := []) (w' := px_w K (sF s16 10 (va_cpy (s16.2.2.1 6) (s16.2.2.1 10) a1.toNatClampNeg (v13 * (16 : Int32)).toNatClampNeg (16 : Int32).toNatClampNeg)) t2) (q := [¬ a1 < 0 ∧ ¬ (v13 * (16 : Int32)) < 0 ∧ ¬ (16 : Int32) < 0 ∧ a1.toNatClampNeg + (16 : Int32).toNatClampNeg ≤ K.2.2 6 ∧ (v13 * (16 : Int32)).toNatClampNeg + (16 : Int32).toNatClampNeg ≤ K.2.2 10]) 9 hM rfl (show ¬ a1 < 0 ∧ ¬ (v13 * (16 : Int32)) < 0 ∧ ¬ (16 : Int32) < 0 ∧ a1.toNatClampNeg + (16 : Int32).toNatClampNeg ≤ K.2.2 6 ∧ (v13 * (16 : Int32)).toNatClampNeg + (16 : Int32).toNatClampNeg ≤ K.2.2 10 from hq18) ?_
              obtain ⟨s19, hs20, h⟩ := px_let_some h
              rw [← hs20]
              obtain ⟨hq21, h⟩ := px_gd_some h
              refine px_blk (i' := 95) (L' := [some (.ref 8), some (.int a0), some (.ref 6), some (.int a1), some (.int v13)]) (S' := []) (w' := px_w K (sF s19 11 (va_cpy (s19.2.2.1 6) (s19.2.2.1 11) a1.toNatClampNeg (a0 * (16 : Int32)).toNatClampNeg (16 : Int32).toNatClampNeg)) t2) (q := [¬ a1 < 0 ∧ ¬ (a0 * (16 : Int32)) < 0 ∧ ¬ (16 : Int32) < 0 ∧ a1.toNatClampNeg + (16 : Int32).toNatClampNeg ≤ K.2.2 6 ∧ (a0 * (16 : Int32)).toNatClampNeg + (16 : Int32).toNatClampNeg ≤ K.2.2 11]) 9 hM rfl (show ¬ a1 < 0 ∧ ¬ (a0 * (16 : Int32)) < 0 ∧ ¬ (16 : Int32) < 0 ∧ a1.toNatClampNeg + (16 : Int32).toNatClampNeg ≤ K.2.2 6 ∧ (a0 * (16 : Int32)).toNatClampNeg + (16 : Int32).toNatClampNeg ≤ K.2.2 11 from hq21) ?_
              obtain ⟨s22, hs23, h⟩ := px_let_some h
              rw [← hs23]
              refine px_blk (i' := 101) (L' := [some (.ref 8), some (.int a0), some (.ref 6), some (.int a1), some (.int v13)]) (S' := []) (w' := px_w K (sR s22 8 ((s22.1 8) + (1 : Int32))) t2) (q := []) 6 hM rfl trivial ?_
              obtain ⟨s24, hs25, h⟩ := px_let_some h
              rw [← hs25]
              refine px_blk (i' := 107) (L' := [some (.ref 8), some (.int a0), some (.ref 6), some (.int a1), some (.int v13)]) (S' := []) (w' := px_w K (sR s24 9 ((s24.1 9) + (1 : Int32))) t2) (q := []) 6 hM rfl trivial ?_
              obtain ⟨s26, hs27, h⟩ := px_let_some h
              rw [← hs27]
              cases h
              exact px_E_ret hM rfl rfl rfl trivial
            · rw [if_neg hc12] at h
              refine px_blk (i' := 45) (L' := [some (.ref 8), some (.int a0), some (.ref 6), some (.int a1), none]) (S' := [.int (s9.1 7), .ref 9, .ref 12, .int ((s9.1 7) * (16 : Int32)), .ref 10]) (w' := px_w K s9 t2) (q := []) 12 hM rfl trivial ?_
              obtain ⟨⟨hq28, hq29⟩, h⟩ := px_gd_some h
              refine px_blk (i' := 50) (L' := [some (.ref 8), some (.int a0), some (.ref 6), some (.int a1), none]) (S' := []) (w' := px_w K (sF s9 12 (va_cpy (s9.2.2.1 10) (s9.2.2.1 12) ((s9.1 7) * (16 : Int32)).toNatClampNeg (((s9.2.2.1 9) (s9.1 7).toNatClampNeg) * (16 : Int32)).toNatClampNeg (16 : Int32).toNatClampNeg)) t2) (q := [vp_in (s9.1 7) (K.2.2 9), ¬ ((s9.1 7) * (16 : Int32)) < 0 ∧ ¬ (((s9.2.2.1 9) (s9.1 7).toNatClampNeg) * (16 : Int32)) < 0 ∧ ¬ (16 : Int32) < 0 ∧ ((s9.1 7) * (16 : Int32)).toNatClampNeg + (16 : Int32).toNatClampNeg ≤ K.2.2 10 ∧ (((s9.2.2.1 9) (s9.1 7).toNatClampNeg) * (16 : Int32)).toNatClampNeg + (16 : Int32).toNatClampNeg ≤ K.2.2 12]) 5 hM rfl (show (vp_in (s9.1 7) (K.2.2 9)) ∧ (¬ ((s9.1 7) * (16 : Int32)) < 0 ∧ ¬ (((s9.2.2.1 9) (s9.1 7).toNatClampNeg) * (16 : Int32)) < 0 ∧ ¬ (16 : Int32) < 0 ∧ ((s9.1 7) * (16 : Int32)).toNatClampNeg + (16 : Int32).toNatClampNeg ≤ K.2.2 10 ∧ (((s9.2.2.1 9) (s9.1 7).toNatClampNeg) * (16 : Int32)).toNatClampNeg + (16 : Int32).toNatClampNeg ≤ K.2.2 12) from ⟨hq28, hq29⟩) ?_
              obtain ⟨s30, hs31, h⟩ := px_let_some h
              rw [← hs31]
              refine px_blk (i' := 58) (L' := [some (.ref 8), some (.int a0), some (.ref 6), some (.int a1), none]) (S' := []) (w' := px_w K (sR s30 7 (((s30.1 7) + (1 : Int32)) - ((s30.1 7) + (1 : Int32)) / (64 : Int32) * (64 : Int32))) t2) (q := [¬ (64 : Int32) = 0]) 8 hM rfl (show ¬ (64 : Int32) = 0 from (by decide)) ?_
              obtain ⟨s32, hs33, h⟩ := px_let_some h
              rw [← hs33]
              refine px_blk (i' := 64) (L' := [some (.ref 8), some (.int a0), some (.ref 6), some (.int a1), none]) (S' := []) (w' := px_w K (sR s32 8 ((s32.1 8) - (1 : Int32))) t2) (q := []) 6 hM rfl trivial ?_
              obtain ⟨s34, hs35, h⟩ := px_let_some h
              rw [← hs35]
              refine px_blk (i' := 72) (L' := [some (.ref 8), some (.int a0), some (.ref 6), some (.int a1), some (.int (((s34.1 7) + (s34.1 8)) - ((s34.1 7) + (s34.1 8)) / (64 : Int32) * (64 : Int32)))]) (S' := []) (w' := px_w K s34 t2) (q := [¬ (64 : Int32) = 0]) 8 hM rfl (show ¬ (64 : Int32) = 0 from (by decide)) ?_
              obtain ⟨v36, hv37, h⟩ := px_let_some h
              rw [← hv37]
              obtain ⟨hq38, h⟩ := px_gd_some h
              refine px_blk (i' := 77) (L' := [some (.ref 8), some (.int a0), some (.ref 6), some (.int a1), some (.int v36)]) (S' := []) (w' := px_w K (sA s34 9 v36.toNatClampNeg a0) t2) (q := [vp_in v36 (K.2.2 9)]) 5 hM rfl (show vp_in v36 (K.2.2 9) from hq38) ?_
              obtain ⟨s39, hs40, h⟩ := px_let_some h
              rw [← hs40]
              obtain ⟨hq41, h⟩ := px_gd_some h
              refine px_blk (i' := 86) (L' := [some (.ref 8), some (.int a0), some (.ref 6), some (.int a1), some (.int v36)]) (S' := []) (w' := px_w K (sF s39 10 (va_cpy (s39.2.2.1 6) (s39.2.2.1 10) a1.toNatClampNeg (v36 * (16 : Int32)).toNatClampNeg (16 : Int32).toNatClampNeg)) t2) (q := [¬ a1 < 0 ∧ ¬ (v36 * (16 : Int32)) < 0 ∧ ¬ (16 : Int32) < 0 ∧ a1.toNatClampNeg + (16 : Int32).toNatClampNeg ≤ K.2.2 6 ∧ (v36 * (16 : Int32)).toNatClampNeg + (16 : Int32).toNatClampNeg ≤ K.2.2 10]) 9 hM rfl (show ¬ a1 < 0 ∧ ¬ (v36 * (16 : Int32)) < 0 ∧ ¬ (16 : Int32) < 0 ∧ a1.toNatClampNeg + (16 : Int32).toNatClampNeg ≤ K.2.2 6 ∧ (v36 * (16 : Int32)).toNatClampNeg + (16 : Int32).toNatClampNeg ≤ K.2.2 10 from hq41) ?_
              obtain ⟨s42, hs43, h⟩ := px_let_some h
              rw [← hs43]
              obtain ⟨hq44, h⟩ := px_gd_some h
              refine px_blk (i' := 95) (L' := [some (.ref 8), some (.int a0), some (.ref 6), some (.int a1), some (.int v36)]) (S' := []) (w' := px_w K (sF s42 11 (va_cpy (s42.2.2.1 6) (s42.2.2.1 11) a1.toNatClampNeg (a0 * (16 : Int32)).toNatClampNeg (16 : Int32).toNatClampNeg)) t2) (q := [¬ a1 < 0 ∧ ¬ (a0 * (16 : Int32)) < 0 ∧ ¬ (16 : Int32) < 0 ∧ a1.toNatClampNeg + (16 : Int32).toNatClampNeg ≤ K.2.2 6 ∧ (a0 * (16 : Int32)).toNatClampNeg + (16 : Int32).toNatClampNeg ≤ K.2.2 11]) 9 hM rfl (show ¬ a1 < 0 ∧ ¬ (a0 * (16 : Int32)) < 0 ∧ ¬ (16 : Int32) < 0 ∧ a1.toNatClampNeg + (16 : Int32).toNatClampNeg ≤ K.2.2 6 ∧ (a0 * (16 : Int32)).toNatClampNeg + (16 : Int32).toNatClampNeg ≤ K.2.2 11 from hq44) ?_
              obtain ⟨s45, hs46, h⟩ := px_let_some h
              rw [← hs46]
              refine px_blk (i' := 101) (L' := [some (.ref 8), some (.int a0), some (.ref 6), some (.int a1), some (.int v36)]) (S' := []) (w' := px_w K (sR s45 8 ((s45.1 8) + (1 : Int32))) t2) (q := []) 6 hM rfl trivial ?_
              obtain ⟨s47, hs48, h⟩ := px_let_some h
              rw [← hs48]
              refine px_blk (i' := 107) (L' := [some (.ref 8), some (.int a0), some (.ref 6), some (.int a1), some (.int v36)]) (S' := []) (w' := px_w K (sR s47 9 ((s47.1 9) + (1 : Int32))) t2) (q := []) 6 hM rfl trivial ?_
              obtain ⟨s49, hs50, h⟩ := px_let_some h
              rw [← hs50]
              cases h
              exact px_E_ret hM rfl rfl rfl trivial
          · rw [if_neg hc11] at h
            cases h
            exact px_E_throw2 hM rfl rfl (by decide) (by decide) rfl rfl
        · rw [if_neg hc8] at h
          cases h
          exact px_E_ret hM rfl rfl rfl trivial
  · cases h
