/-! THE METHODS AS FUNCTIONS (by program). -/
noncomputable def l_M_remove_28_42 (K : px_K) (N : Nat) (n : Nat) (u1 : Int32) (u3 : Int32) (u4 : Int32) (m5 : Int32) (s : px_S) (t : px_W) : Option px_LO := match n with
  | 0 => none
  | n + 1 => (if (20 : Int32) ≤ m5 then (some (.inl (58, [], s, t))) else (px_bi (f_M_blockOf_28 K N u4 m5 s t) (fun v5 s2 t3 => (if v5 ≤ 0 then (l_M_remove_28_42 K N n u1 u3 u4 (m5 + (1 : Int32)) s2 t3) else (px_bi (f_M_blockOf_28 K N u4 m5 s2 t3) (fun v11 s8 t9 => (px_bv (f_M_giveBack_28 K N v11 s8 t9) (fun s13 t14 => (l_M_remove_28_42 K N n u1 u3 u4 (m5 + (1 : Int32)) s13 t14)) (fun x17 s13 t14 => none))) (fun x12 s8 t9 => none)))) (fun x6 s2 t3 => none)))
def a_l_M_remove_28_42 (K : px_K) (u1 : Int32) (u3 : Int32) (u4 : Int32) (z : px_LO) (o : Option Value ⊕ Nat) (w2 : px_W) : Prop := match z with
  | .inr (o', s', t') => o = o' ∧ w2 = px_w K s' t'
  | .inl (58, [], s', t') => px_E px_ET px_P 13 82 58 [some (.ref 28), some (.int u1), none, some (.int u3), some (.int u4), none] [] (px_w K s' t') o w2
  | _ => False
noncomputable def l_M_remove_28_71 (K : px_K) (N : Nat) (n : Nat) (u1 : Int32) (u3 : Int32) (u4 : Int32) (m5 : Int32) (s : px_S) (t : px_W) : Option px_LO := match n with
  | 0 => none
  | n + 1 => (if (8 : Int32) ≤ m5 then (some (.inl (81, [], s, t))) else (px_bv (f_M_tellInode_28 K N u4 m5 (0 : Int32) s t) (fun s2 t3 => (l_M_remove_28_71 K N n u1 u3 u4 (m5 + (1 : Int32)) s2 t3)) (fun x6 s2 t3 => none)))
def a_l_M_remove_28_71 (K : px_K) (u1 : Int32) (u3 : Int32) (u4 : Int32) (z : px_LO) (o : Option Value ⊕ Nat) (w2 : px_W) : Prop := match z with
  | .inr (o', s', t') => o = o' ∧ w2 = px_w K s' t'
  | .inl (81, [], s', t') => px_E px_ET px_P 13 82 81 [some (.ref 28), some (.int u1), none, some (.int u3), none, none] [] (px_w K s' t') o w2
  | _ => False
set_option maxRecDepth 100000 in
theorem e_l_M_remove_28_42 (K : px_K) (N : Nat) (u1 : Int32) (u3 : Int32) (u4 : Int32) : ∀ (n : Nat) (m5 : Int32) (s : px_S) (t : px_W) (z : px_LO), l_M_remove_28_42 K N n u1 u3 u4 m5 s t = some z → ∀ (o : Option Value ⊕ Nat) (w2 : px_W), a_l_M_remove_28_42 K u1 u3 u4 z o w2 → px_E px_ET px_P 13 82 42 [some (.ref 28), some (.int u1), none, some (.int u3), some (.int u4), some (.int m5)] [] (px_w K s t) o w2 := by
  have hM : px_P[82]? = some pm_M_remove := rfl
  intro n
  induction n with
  | zero => intro m5 s t z h; cases h
  | succ n ih =>
    intro m5 s t z h o w2 ha
    unfold l_M_remove_28_42 at h
    refine px_blkif (c := (20 : Int32) ≤ m5) (t := 58) (e := 45) (L' := [some (.ref 28), some (.int u1), none, some (.int u3), some (.int u4), some (.int m5)]) (S' := []) (w' := px_w K s t) (q := []) 3 hM rfl trivial (fun hc1 => ?_) (fun hc1 => ?_)
    · rw [if_pos hc1] at h
      cases h
      exact px_E_le (px_leC_L _ _ (by simp [px_leC, px_le1, Value.category])) ha
    · rw [if_neg hc1] at h
      refine px_blk (i' := 48) (L' := [some (.ref 28), some (.int u1), none, some (.int u3), some (.int u4), some (.int m5)]) (S' := [.int m5, .int u4, .ref 28]) (w' := px_w K s t) (q := []) 3 hM rfl trivial ?_
      rcases px_bi_some h with ⟨v5, s2, t3, hk4, h⟩ | ⟨x6, s2, t3, hk4, h⟩
      · refine px_E_call hM rfl rfl rfl rfl (px_E_mono (by decide) (e_M_blockOf_28 K N u4 m5 s t _ hk4)) ?_
        refine px_blkif (c := v5 ≤ 0) (t := 56) (e := 50) (L' := [some (.ref 28), some (.int u1), none, some (.int u3), some (.int u4), some (.int m5)]) (S' := []) (w' := px_w K s2 t3) (q := []) 1 hM rfl trivial (fun hc7 => ?_) (fun hc7 => ?_)
        · rw [if_pos hc7] at h
          refine px_blk (i' := 42) (L' := [some (.ref 28), some (.int u1), none, some (.int u3), some (.int u4), some (.int (m5 + (1 : Int32)))]) (S' := []) (w' := px_w K s2 t3) (q := []) 2 hM rfl trivial ?_
          exact ih (m5 + (1 : Int32)) s2 t3 z h o w2 ha
        · rw [if_neg hc7] at h
          refine px_blk (i' := 54) (L' := [some (.ref 28), some (.int u1), none, some (.int u3), some (.int u4), some (.int m5)]) (S' := [.int m5, .int u4, .ref 28, .ref 28]) (w' := px_w K s2 t3) (q := []) 4 hM rfl trivial ?_
          rcases px_bi_some h with ⟨v11, s8, t9, hk10, h⟩ | ⟨x12, s8, t9, hk10, h⟩
          · refine px_E_call hM rfl rfl rfl rfl (px_E_mono (by decide) (e_M_blockOf_28 K N u4 m5 s2 t3 _ hk10)) ?_
            rcases px_bv_some h with ⟨s13, t14, hk15, h⟩ | ⟨x17, s13, t14, hk15, h⟩
            · refine px_E_call hM rfl rfl rfl rfl (px_E_mono (by decide) (e_M_giveBack_28 K N v11 s8 t9 _ hk15)) ?_
              refine px_blk (i' := 42) (L' := [some (.ref 28), some (.int u1), none, some (.int u3), some (.int u4), some (.int (m5 + (1 : Int32)))]) (S' := []) (w' := px_w K s13 t14) (q := []) 2 hM rfl trivial ?_
              exact ih (m5 + (1 : Int32)) s13 t14 z h o w2 ha
            · cases h
          · cases h
      · cases h
set_option maxRecDepth 100000 in
theorem e_l_M_remove_28_71 (K : px_K) (N : Nat) (u1 : Int32) (u3 : Int32) (u4 : Int32) : ∀ (n : Nat) (m5 : Int32) (s : px_S) (t : px_W) (z : px_LO), l_M_remove_28_71 K N n u1 u3 u4 m5 s t = some z → ∀ (o : Option Value ⊕ Nat) (w2 : px_W), a_l_M_remove_28_71 K u1 u3 u4 z o w2 → px_E px_ET px_P 13 82 71 [some (.ref 28), some (.int u1), none, some (.int u3), some (.int u4), some (.int m5)] [] (px_w K s t) o w2 := by
  have hM : px_P[82]? = some pm_M_remove := rfl
  intro n
  induction n with
  | zero => intro m5 s t z h; cases h
  | succ n ih =>
    intro m5 s t z h o w2 ha
    unfold l_M_remove_28_71 at h
    refine px_blkif (c := (8 : Int32) ≤ m5) (t := 81) (e := 74) (L' := [some (.ref 28), some (.int u1), none, some (.int u3), some (.int u4), some (.int m5)]) (S' := []) (w' := px_w K s t) (q := []) 3 hM rfl trivial (fun hc1 => ?_) (fun hc1 => ?_)
    · rw [if_pos hc1] at h
      cases h
      exact px_E_le (px_leC_L _ _ (by simp [px_leC, px_le1, Value.category])) ha
    · rw [if_neg hc1] at h
      refine px_blk (i' := 78) (L' := [some (.ref 28), some (.int u1), none, some (.int u3), some (.int u4), some (.int m5)]) (S' := [.int (0 : Int32), .int m5, .int u4, .ref 28]) (w' := px_w K s t) (q := []) 4 hM rfl trivial ?_
      rcases px_bv_some h with ⟨s2, t3, hk4, h⟩ | ⟨x6, s2, t3, hk4, h⟩
      · refine px_E_call hM rfl rfl rfl rfl (px_E_mono (by decide) (e_M_tellInode_28 K N u4 m5 (0 : Int32) s t _ hk4)) ?_
        refine px_blk (i' := 71) (L' := [some (.ref 28), some (.int u1), none, some (.int u3), some (.int u4), some (.int (m5 + (1 : Int32)))]) (S' := []) (w' := px_w K s2 t3) (q := []) 2 hM rfl trivial ?_
        exact ih (m5 + (1 : Int32)) s2 t3 z h o w2 ha
      · cases h
noncomputable def f_M_remove_28 (K : px_K) (N : Nat) (a0 : Int32) (a1 : Int32) (s : px_S) (t : px_W) : Option px_Res :=
  (px_let (sR s 25 (0 : Int32)) (fun s1 => (px_bi (f_M_begins_28 K N s1 t) (fun v6 s3 t4 => (if ¬ v6 = 0 then (px_bi (f_M_isKind_28 K N a0 (1 : Int32) s3 t4) (fun v12 s9 t10 => (if ¬ v12 = 0 then (px_bi (f_M_placeOf_28 K N a0 a1 s9 t10) (fun v18 s15 t16 => (if 0 ≤ v18 then (px_bi (f_M_inodeAt_28 K N a0 v18 s15 t16) (fun v24 s21 t22 => (px_bi (f_M_isKind_28 K N v24 (1 : Int32) s21 t22) (fun v29 s26 t27 => (if v29 = 0 then (px_lp (l_M_remove_28_42 K N N a0 v18 v24 (0 : Int32) s26 t27) (fun i32 vs33 s34 t35 => (if i32 = 58 then (px_v0 vs33 (px_bi (f_M_ofInode_28 K N v24 (6 : Int32) s34 t35) (fun v42 s39 t40 => (if v42 ≤ 0 then (px_lp (l_M_remove_28_71 K N N a0 v18 v24 (0 : Int32) s39 t40) (fun i45 vs46 s47 t48 => (if i45 = 81 then (px_v0 vs46 (px_bv (f_M_leave_28 K N a0 v18 s47 t48) (fun s52 t53 => (some (.inl (some (.int (0 : Int32))), s52, t53))) (fun x56 s52 t53 => none))) else none)) (fun z50 => some z50)) else (px_bi (f_M_ofInode_28 K N v24 (6 : Int32) s39 t40) (fun v60 s57 t58 => (px_bv (f_M_giveBack_28 K N v60 s57 t58) (fun s62 t63 => (px_lp (l_M_remove_28_71 K N N a0 v18 v24 (0 : Int32) s62 t63) (fun i67 vs68 s69 t70 => (if i67 = 81 then (px_v0 vs68 (px_bv (f_M_leave_28 K N a0 v18 s69 t70) (fun s74 t75 => (some (.inl (some (.int (0 : Int32))), s74, t75))) (fun x78 s74 t75 => none))) else none)) (fun z72 => some z72))) (fun x66 s62 t63 => none))) (fun x61 s57 t58 => none)))) (fun x43 s39 t40 => none))) else none)) (fun z37 => some z37)) else (px_bi (f_M_names_28 K N v24 s26 t27) (fun v82 s79 t80 => (if v82 ≤ 0 then (px_lp (l_M_remove_28_42 K N N a0 v18 v24 (0 : Int32) s79 t80) (fun i85 vs86 s87 t88 => (if i85 = 58 then (px_v0 vs86 (px_bi (f_M_ofInode_28 K N v24 (6 : Int32) s87 t88) (fun v95 s92 t93 => (if v95 ≤ 0 then (px_lp (l_M_remove_28_71 K N N a0 v18 v24 (0 : Int32) s92 t93) (fun i98 vs99 s100 t101 => (if i98 = 81 then (px_v0 vs99 (px_bv (f_M_leave_28 K N a0 v18 s100 t101) (fun s105 t106 => (some (.inl (some (.int (0 : Int32))), s105, t106))) (fun x109 s105 t106 => none))) else none)) (fun z103 => some z103)) else (px_bi (f_M_ofInode_28 K N v24 (6 : Int32) s92 t93) (fun v113 s110 t111 => (px_bv (f_M_giveBack_28 K N v113 s110 t111) (fun s115 t116 => (px_lp (l_M_remove_28_71 K N N a0 v18 v24 (0 : Int32) s115 t116) (fun i120 vs121 s122 t123 => (if i120 = 81 then (px_v0 vs121 (px_bv (f_M_leave_28 K N a0 v18 s122 t123) (fun s127 t128 => (some (.inl (some (.int (0 : Int32))), s127, t128))) (fun x131 s127 t128 => none))) else none)) (fun z125 => some z125))) (fun x119 s115 t116 => none))) (fun x114 s110 t111 => none)))) (fun x96 s92 t93 => none))) else none)) (fun z90 => some z90)) else (some (.inl (some (.int (-3 : Int32))), s79, t80)))) (fun x83 s79 t80 => none)))) (fun x30 s26 t27 => none))) (fun x25 s21 t22 => none)) else (some (.inl (some (.int (-1 : Int32))), s15, t16)))) (fun x19 s15 t16 => none)) else (some (.inl (some (.int (-4 : Int32))), s9, t10)))) (fun x13 s9 t10 => none)) else (some (.inl (some (.int (-9 : Int32))), s3, t4)))) (fun x7 s3 t4 => none))))
set_option maxRecDepth 100000 in
theorem e_M_remove_28 (K : px_K) (N : Nat) (a0 : Int32) (a1 : Int32) (s : px_S) (t : px_W) (r : px_Res) (h : f_M_remove_28 K N a0 a1 s t = some r) : px_E px_ET px_P 13 82 0 (px_ent 6 [.ref 28, .int a0, .int a1]) [] (px_w K s t) r.1 (px_w K r.2.1 r.2.2) := by
  have hM : px_P[82]? = some pm_M_remove := rfl
  unfold f_M_remove_28 at h
  refine px_blk (i' := 3) (L' := [some (.ref 28), some (.int a0), some (.int a1), none, none, none]) (S' := []) (w' := px_w K (sR s 25 (0 : Int32)) t) (q := []) 3 hM rfl trivial ?_
  obtain ⟨s1, hs2, h⟩ := px_let_some h
  rw [← hs2]
  refine px_blk (i' := 4) (L' := [some (.ref 28), some (.int a0), some (.int a1), none, none, none]) (S' := [.ref 28]) (w' := px_w K s1 t) (q := []) 1 hM rfl trivial ?_
  rcases px_bi_some h with ⟨v6, s3, t4, hk5, h⟩ | ⟨x7, s3, t4, hk5, h⟩
  · refine px_E_call hM rfl rfl rfl rfl (px_E_mono (by decide) (e_M_begins_28 K N s1 t _ hk5)) ?_
    refine px_blkif (c := ¬ v6 = 0) (t := 8) (e := 6) (L' := [some (.ref 28), some (.int a0), some (.int a1), none, none, none]) (S' := []) (w' := px_w K s3 t4) (q := []) 1 hM rfl trivial (fun hc8 => ?_) (fun hc8 => ?_)
    · rw [if_pos hc8] at h
      refine px_blk (i' := 11) (L' := [some (.ref 28), some (.int a0), some (.int a1), none, none, none]) (S' := [.int (1 : Int32), .int a0, .ref 28]) (w' := px_w K s3 t4) (q := []) 3 hM rfl trivial ?_
      rcases px_bi_some h with ⟨v12, s9, t10, hk11, h⟩ | ⟨x13, s9, t10, hk11, h⟩
      · refine px_E_call hM rfl rfl rfl rfl (px_E_mono (by decide) (e_M_isKind_28 K N a0 (1 : Int32) s3 t4 _ hk11)) ?_
        refine px_blkif (c := ¬ v12 = 0) (t := 15) (e := 13) (L' := [some (.ref 28), some (.int a0), some (.int a1), none, none, none]) (S' := []) (w' := px_w K s9 t10) (q := []) 1 hM rfl trivial (fun hc14 => ?_) (fun hc14 => ?_)
        · rw [if_pos hc14] at h
          refine px_blk (i' := 18) (L' := [some (.ref 28), some (.int a0), some (.int a1), none, none, none]) (S' := [.int a1, .int a0, .ref 28]) (w' := px_w K s9 t10) (q := []) 3 hM rfl trivial ?_
          rcases px_bi_some h with ⟨v18, s15, t16, hk17, h⟩ | ⟨x19, s15, t16, hk17, h⟩
          · refine px_E_call hM rfl rfl rfl rfl (px_E_mono (by decide) (e_M_placeOf_28 K N a0 a1 s9 t10 _ hk17)) ?_
            refine px_blkif (c := 0 ≤ v18) (t := 24) (e := 22) (L' := [some (.ref 28), some (.int a0), some (.int a1), some (.int v18), none, none]) (S' := []) (w' := px_w K s15 t16) (q := []) 3 hM rfl trivial (fun hc20 => ?_) (fun hc20 => ?_)
            · rw [if_pos hc20] at h
              refine px_blk (i' := 27) (L' := [some (.ref 28), some (.int a0), some (.int a1), some (.int v18), none, none]) (S' := [.int v18, .int a0, .ref 28]) (w' := px_w K s15 t16) (q := []) 3 hM rfl trivial ?_
              rcases px_bi_some h with ⟨v24, s21, t22, hk23, h⟩ | ⟨x25, s21, t22, hk23, h⟩
              · refine px_E_call hM rfl rfl rfl rfl (px_E_mono (by decide) (e_M_inodeAt_28 K N a0 v18 s15 t16 _ hk23)) ?_
                refine px_blk (i' := 32) (L' := [some (.ref 28), some (.int a0), some (.int a1), some (.int v18), some (.int v24), none]) (S' := [.int (1 : Int32), .int v24, .ref 28]) (w' := px_w K s21 t22) (q := []) 4 hM rfl trivial ?_
                rcases px_bi_some h with ⟨v29, s26, t27, hk28, h⟩ | ⟨x30, s26, t27, hk28, h⟩
                · refine px_E_call hM rfl rfl rfl rfl (px_E_mono (by decide) (e_M_isKind_28 K N v24 (1 : Int32) s21 t22 _ hk28)) ?_
                  refine px_blkif (c := v29 = 0) (t := 40) (e := 34) (L' := [some (.ref 28), some (.int a0), some (.int a1), some (.int v18), some (.int v24), none]) (S' := []) (w' := px_w K s26 t27) (q := []) 1 hM rfl trivial (fun hc31 => ?_) (fun hc31 => ?_)
                  · rw [if_pos hc31] at h
                    refine px_blk (i' := 42) (L' := [some (.ref 28), some (.int a0), some (.int a1), some (.int v18), some (.int v24), some (.int (0 : Int32))]) (S' := []) (w' := px_w K s26 t27) (q := []) 2 hM rfl trivial ?_
                    rcases px_lp_some h with ⟨i32, vs33, s34, t35, hl36, h⟩ | ⟨z37, hl36, h⟩
                    · by_cases hi38 : i32 = 58
                      · subst hi38
                        rw [if_pos rfl] at h
                        have h9 := px_v0_some h
                        clear h
                        obtain ⟨rfl, h⟩ := h9
                        refine px_E_le (px_leC_L _ _ (by simp [px_leC, px_le1, Value.category])) (e_l_M_remove_28_42 K N a0 v18 v24 N (0 : Int32) s26 t27 _ hl36 _ _ ?_)
                        show px_E px_ET px_P 13 82 58 [some (.ref 28), some (.int a0), none, some (.int v18), some (.int v24), none] [] (px_w K s34 t35) _ _
                        refine px_blk (i' := 61) (L' := [some (.ref 28), some (.int a0), none, some (.int v18), some (.int v24), none]) (S' := [.int (6 : Int32), .int v24, .ref 28]) (w' := px_w K s34 t35) (q := []) 3 hM rfl trivial ?_
                        rcases px_bi_some h with ⟨v42, s39, t40, hk41, h⟩ | ⟨x43, s39, t40, hk41, h⟩
                        · refine px_E_call hM rfl rfl rfl rfl (px_E_mono (by decide) (e_M_ofInode_28 K N v24 (6 : Int32) s34 t35 _ hk41)) ?_
                          refine px_blkif (c := v42 ≤ 0) (t := 69) (e := 63) (L' := [some (.ref 28), some (.int a0), none, some (.int v18), some (.int v24), none]) (S' := []) (w' := px_w K s39 t40) (q := []) 1 hM rfl trivial (fun hc44 => ?_) (fun hc44 => ?_)
                          · rw [if_pos hc44] at h
                            refine px_blk (i' := 71) (L' := [some (.ref 28), some (.int a0), none, some (.int v18), some (.int v24), some (.int (0 : Int32))]) (S' := []) (w' := px_w K s39 t40) (q := []) 2 hM rfl trivial ?_
                            rcases px_lp_some h with ⟨i45, vs46, s47, t48, hl49, h⟩ | ⟨z50, hl49, h⟩
                            · by_cases hi51 : i45 = 81
                              · subst hi51
                                rw [if_pos rfl] at h
                                have h9 := px_v0_some h
                                clear h
                                obtain ⟨rfl, h⟩ := h9
                                refine e_l_M_remove_28_71 K N a0 v18 v24 N (0 : Int32) s39 t40 _ hl49 _ _ ?_
                                show px_E px_ET px_P 13 82 81 [some (.ref 28), some (.int a0), none, some (.int v18), none, none] [] (px_w K s47 t48) _ _
                                refine px_blk (i' := 84) (L' := [some (.ref 28), some (.int a0), none, some (.int v18), none, none]) (S' := [.int v18, .int a0, .ref 28]) (w' := px_w K s47 t48) (q := []) 3 hM rfl trivial ?_
                                rcases px_bv_some h with ⟨s52, t53, hk54, h⟩ | ⟨x56, s52, t53, hk54, h⟩
                                · refine px_E_call hM rfl rfl rfl rfl (px_E_mono (by decide) (e_M_leave_28 K N a0 v18 s47 t48 _ hk54)) ?_
                                  refine px_blk (i' := 86) (L' := [some (.ref 28), some (.int a0), none, some (.int v18), none, none]) (S' := [.int (0 : Int32)]) (w' := px_w K s52 t53) (q := []) 1 hM rfl trivial ?_
                                  cases h
                                  exact px_E_ret hM rfl rfl rfl trivial
                                · cases h
                              · rw [if_neg hi51] at h
                                cases h
                            · cases h
                              exact e_l_M_remove_28_71 K N a0 v18 v24 N (0 : Int32) s39 t40 _ hl49 _ _ ⟨rfl, rfl⟩
                          · rw [if_neg hc44] at h
                            refine px_blk (i' := 67) (L' := [some (.ref 28), some (.int a0), none, some (.int v18), some (.int v24), none]) (S' := [.int (6 : Int32), .int v24, .ref 28, .ref 28]) (w' := px_w K s39 t40) (q := []) 4 hM rfl trivial ?_
                            rcases px_bi_some h with ⟨v60, s57, t58, hk59, h⟩ | ⟨x61, s57, t58, hk59, h⟩
                            · refine px_E_call hM rfl rfl rfl rfl (px_E_mono (by decide) (e_M_ofInode_28 K N v24 (6 : Int32) s39 t40 _ hk59)) ?_
                              rcases px_bv_some h with ⟨s62, t63, hk64, h⟩ | ⟨x66, s62, t63, hk64, h⟩
                              · refine px_E_call hM rfl rfl rfl rfl (px_E_mono (by decide) (e_M_giveBack_28 K N v60 s57 t58 _ hk64)) ?_
                                refine px_blk (i' := 71) (L' := [some (.ref 28), some (.int a0), none, some (.int v18), some (.int v24), some (.int (0 : Int32))]) (S' := []) (w' := px_w K s62 t63) (q := []) 2 hM rfl trivial ?_
                                rcases px_lp_some h with ⟨i67, vs68, s69, t70, hl71, h⟩ | ⟨z72, hl71, h⟩
                                · by_cases hi73 : i67 = 81
                                  · subst hi73
                                    rw [if_pos rfl] at h
                                    have h9 := px_v0_some h
                                    clear h
                                    obtain ⟨rfl, h⟩ := h9
                                    refine e_l_M_remove_28_71 K N a0 v18 v24 N (0 : Int32) s62 t63 _ hl71 _ _ ?_
                                    show px_E px_ET px_P 13 82 81 [some (.ref 28), some (.int a0), none, some (.int v18), none, none] [] (px_w K s69 t70) _ _
                                    refine px_blk (i' := 84) (L' := [some (.ref 28), some (.int a0), none, some (.int v18), none, none]) (S' := [.int v18, .int a0, .ref 28]) (w' := px_w K s69 t70) (q := []) 3 hM rfl trivial ?_
                                    rcases px_bv_some h with ⟨s74, t75, hk76, h⟩ | ⟨x78, s74, t75, hk76, h⟩
                                    · refine px_E_call hM rfl rfl rfl rfl (px_E_mono (by decide) (e_M_leave_28 K N a0 v18 s69 t70 _ hk76)) ?_
                                      refine px_blk (i' := 86) (L' := [some (.ref 28), some (.int a0), none, some (.int v18), none, none]) (S' := [.int (0 : Int32)]) (w' := px_w K s74 t75) (q := []) 1 hM rfl trivial ?_
                                      cases h
                                      exact px_E_ret hM rfl rfl rfl trivial
                                    · cases h
                                  · rw [if_neg hi73] at h
                                    cases h
                                · cases h
                                  exact e_l_M_remove_28_71 K N a0 v18 v24 N (0 : Int32) s62 t63 _ hl71 _ _ ⟨rfl, rfl⟩
                              · cases h
                            · cases h
                        · cases h
                      · rw [if_neg hi38] at h
                        cases h
                    · cases h
                      exact px_E_le (px_leC_L _ _ (by simp [px_leC, px_le1, Value.category])) (e_l_M_remove_28_42 K N a0 v18 v24 N (0 : Int32) s26 t27 _ hl36 _ _ ⟨rfl, rfl⟩)
                  · rw [if_neg hc31] at h
                    refine px_blk (i' := 36) (L' := [some (.ref 28), some (.int a0), some (.int a1), some (.int v18), some (.int v24), none]) (S' := [.int v24, .ref 28]) (w' := px_w K s26 t27) (q := []) 2 hM rfl trivial ?_
                    rcases px_bi_some h with ⟨v82, s79, t80, hk81, h⟩ | ⟨x83, s79, t80, hk81, h⟩
                    · refine px_E_call hM rfl rfl rfl rfl (px_E_mono (by decide) (e_M_names_28 K N v24 s26 t27 _ hk81)) ?_
                      refine px_blkif (c := v82 ≤ 0) (t := 40) (e := 38) (L' := [some (.ref 28), some (.int a0), some (.int a1), some (.int v18), some (.int v24), none]) (S' := []) (w' := px_w K s79 t80) (q := []) 1 hM rfl trivial (fun hc84 => ?_) (fun hc84 => ?_)
                      · rw [if_pos hc84] at h
                        refine px_blk (i' := 42) (L' := [some (.ref 28), some (.int a0), some (.int a1), some (.int v18), some (.int v24), some (.int (0 : Int32))]) (S' := []) (w' := px_w K s79 t80) (q := []) 2 hM rfl trivial ?_
                        rcases px_lp_some h with ⟨i85, vs86, s87, t88, hl89, h⟩ | ⟨z90, hl89, h⟩
                        · by_cases hi91 : i85 = 58
                          · subst hi91
                            rw [if_pos rfl] at h
                            have h9 := px_v0_some h
                            clear h
                            obtain ⟨rfl, h⟩ := h9
                            refine px_E_le (px_leC_L _ _ (by simp [px_leC, px_le1, Value.category])) (e_l_M_remove_28_42 K N a0 v18 v24 N (0 : Int32) s79 t80 _ hl89 _ _ ?_)
                            show px_E px_ET px_P 13 82 58 [some (.ref 28), some (.int a0), none, some (.int v18), some (.int v24), none] [] (px_w K s87 t88) _ _
                            refine px_blk (i' := 61) (L' := [some (.ref 28), some (.int a0), none, some (.int v18), some (.int v24), none]) (S' := [.int (6 : Int32), .int v24, .ref 28]) (w' := px_w K s87 t88) (q := []) 3 hM rfl trivial ?_
                            rcases px_bi_some h with ⟨v95, s92, t93, hk94, h⟩ | ⟨x96, s92, t93, hk94, h⟩
                            · refine px_E_call hM rfl rfl rfl rfl (px_E_mono (by decide) (e_M_ofInode_28 K N v24 (6 : Int32) s87 t88 _ hk94)) ?_
                              refine px_blkif (c := v95 ≤ 0) (t := 69) (e := 63) (L' := [some (.ref 28), some (.int a0), none, some (.int v18), some (.int v24), none]) (S' := []) (w' := px_w K s92 t93) (q := []) 1 hM rfl trivial (fun hc97 => ?_) (fun hc97 => ?_)
                              · rw [if_pos hc97] at h
                                refine px_blk (i' := 71) (L' := [some (.ref 28), some (.int a0), none, some (.int v18), some (.int v24), some (.int (0 : Int32))]) (S' := []) (w' := px_w K s92 t93) (q := []) 2 hM rfl trivial ?_
                                rcases px_lp_some h with ⟨i98, vs99, s100, t101, hl102, h⟩ | ⟨z103, hl102, h⟩
                                · by_cases hi104 : i98 = 81
                                  · subst hi104
                                    rw [if_pos rfl] at h
                                    have h9 := px_v0_some h
                                    clear h
                                    obtain ⟨rfl, h⟩ := h9
                                    refine e_l_M_remove_28_71 K N a0 v18 v24 N (0 : Int32) s92 t93 _ hl102 _ _ ?_
                                    show px_E px_ET px_P 13 82 81 [some (.ref 28), some (.int a0), none, some (.int v18), none, none] [] (px_w K s100 t101) _ _
                                    refine px_blk (i' := 84) (L' := [some (.ref 28), some (.int a0), none, some (.int v18), none, none]) (S' := [.int v18, .int a0, .ref 28]) (w' := px_w K s100 t101) (q := []) 3 hM rfl trivial ?_
                                    rcases px_bv_some h with ⟨s105, t106, hk107, h⟩ | ⟨x109, s105, t106, hk107, h⟩
                                    · refine px_E_call hM rfl rfl rfl rfl (px_E_mono (by decide) (e_M_leave_28 K N a0 v18 s100 t101 _ hk107)) ?_
                                      refine px_blk (i' := 86) (L' := [some (.ref 28), some (.int a0), none, some (.int v18), none, none]) (S' := [.int (0 : Int32)]) (w' := px_w K s105 t106) (q := []) 1 hM rfl trivial ?_
                                      cases h
                                      exact px_E_ret hM rfl rfl rfl trivial
                                    · cases h
                                  · rw [if_neg hi104] at h
                                    cases h
                                · cases h
                                  exact e_l_M_remove_28_71 K N a0 v18 v24 N (0 : Int32) s92 t93 _ hl102 _ _ ⟨rfl, rfl⟩
                              · rw [if_neg hc97] at h
                                refine px_blk (i' := 67) (L' := [some (.ref 28), some (.int a0), none, some (.int v18), some (.int v24), none]) (S' := [.int (6 : Int32), .int v24, .ref 28, .ref 28]) (w' := px_w K s92 t93) (q := []) 4 hM rfl trivial ?_
                                rcases px_bi_some h with ⟨v113, s110, t111, hk112, h⟩ | ⟨x114, s110, t111, hk112, h⟩
                                · refine px_E_call hM rfl rfl rfl rfl (px_E_mono (by decide) (e_M_ofInode_28 K N v24 (6 : Int32) s92 t93 _ hk112)) ?_
                                  rcases px_bv_some h with ⟨s115, t116, hk117, h⟩ | ⟨x119, s115, t116, hk117, h⟩
                                  · refine px_E_call hM rfl rfl rfl rfl (px_E_mono (by decide) (e_M_giveBack_28 K N v113 s110 t111 _ hk117)) ?_
                                    refine px_blk (i' := 71) (L' := [some (.ref 28), some (.int a0), none, some (.int v18), some (.int v24), some (.int (0 : Int32))]) (S' := []) (w' := px_w K s115 t116) (q := []) 2 hM rfl trivial ?_
                                    rcases px_lp_some h with ⟨i120, vs121, s122, t123, hl124, h⟩ | ⟨z125, hl124, h⟩
                                    · by_cases hi126 : i120 = 81
                                      · subst hi126
                                        rw [if_pos rfl] at h
                                        have h9 := px_v0_some h
                                        clear h
                                        obtain ⟨rfl, h⟩ := h9
                                        refine e_l_M_remove_28_71 K N a0 v18 v24 N (0 : Int32) s115 t116 _ hl124 _ _ ?_
                                        show px_E px_ET px_P 13 82 81 [some (.ref 28), some (.int a0), none, some (.int v18), none, none] [] (px_w K s122 t123) _ _
                                        refine px_blk (i' := 84) (L' := [some (.ref 28), some (.int a0), none, some (.int v18), none, none]) (S' := [.int v18, .int a0, .ref 28]) (w' := px_w K s122 t123) (q := []) 3 hM rfl trivial ?_
                                        rcases px_bv_some h with ⟨s127, t128, hk129, h⟩ | ⟨x131, s127, t128, hk129, h⟩
                                        · refine px_E_call hM rfl rfl rfl rfl (px_E_mono (by decide) (e_M_leave_28 K N a0 v18 s122 t123 _ hk129)) ?_
                                          refine px_blk (i' := 86) (L' := [some (.ref 28), some (.int a0), none, some (.int v18), none, none]) (S' := [.int (0 : Int32)]) (w' := px_w K s127 t128) (q := []) 1 hM rfl trivial ?_
                                          cases h
                                          exact px_E_ret hM rfl rfl rfl trivial
                                        · cases h
                                      · rw [if_neg hi126] at h
                                        cases h
                                    · cases h
                                      exact e_l_M_remove_28_71 K N a0 v18 v24 N (0 : Int32) s115 t116 _ hl124 _ _ ⟨rfl, rfl⟩
                                  · cases h
                                · cases h
                            · cases h
                          · rw [if_neg hi91] at h
                            cases h
                        · cases h
                          exact px_E_le (px_leC_L _ _ (by simp [px_leC, px_le1, Value.category])) (e_l_M_remove_28_42 K N a0 v18 v24 N (0 : Int32) s79 t80 _ hl89 _ _ ⟨rfl, rfl⟩)
                      · rw [if_neg hc84] at h
                        refine px_blk (i' := 39) (L' := [some (.ref 28), some (.int a0), some (.int a1), some (.int v18), some (.int v24), none]) (S' := [.int (-3 : Int32)]) (w' := px_w K s79 t80) (q := []) 1 hM rfl trivial ?_
                        cases h
                        exact px_E_ret hM rfl rfl rfl trivial
                    · cases h
                · cases h
              · cases h
            · rw [if_neg hc20] at h
              refine px_blk (i' := 23) (L' := [some (.ref 28), some (.int a0), some (.int a1), some (.int v18), none, none]) (S' := [.int (-1 : Int32)]) (w' := px_w K s15 t16) (q := []) 1 hM rfl trivial ?_
              cases h
              exact px_E_ret hM rfl rfl rfl trivial
          · cases h
        · rw [if_neg hc14] at h
          refine px_blk (i' := 14) (L' := [some (.ref 28), some (.int a0), some (.int a1), none, none, none]) (S' := [.int (-4 : Int32)]) (w' := px_w K s9 t10) (q := []) 1 hM rfl trivial ?_
          cases h
          exact px_E_ret hM rfl rfl rfl trivial
      · cases h
    · rw [if_neg hc8] at h
      refine px_blk (i' := 7) (L' := [some (.ref 28), some (.int a0), some (.int a1), none, none, none]) (S' := [.int (-9 : Int32)]) (w' := px_w K s3 t4) (q := []) 1 hM rfl trivial ?_
      cases h
      exact px_E_ret hM rfl rfl rfl trivial
  · cases h
noncomputable def l_M_inode_28_51 (K : px_K) (N : Nat) (n : Nat) (u1 : Int32) (m3 : Int32) (m4 : Int32) (s : px_S) (t : px_W) : Option px_LO := match n with
  | 0 => none
  | n + 1 => (if (20 : Int32) ≤ m4 then (some (.inl (67, [m3], s, t))) else (px_bi (f_M_blockOf_28 K N u1 m4 s t) (fun v5 s2 t3 => (if v5 ≤ 0 then (l_M_inode_28_51 K N n u1 (m3 + (0 : Int32)) (m4 + (1 : Int32)) s2 t3) else (l_M_inode_28_51 K N n u1 (m3 + (1 : Int32)) (m4 + (1 : Int32)) s2 t3))) (fun x6 s2 t3 => none)))
def a_l_M_inode_28_51 (K : px_K) (u1 : Int32) (z : px_LO) (o : Option Value ⊕ Nat) (w2 : px_W) : Prop := match z with
  | .inr (o', s', t') => o = o' ∧ w2 = px_w K s' t'
  | .inl (67, [y3], s', t') => px_E px_ET px_P 6 85 67 [none, none, none, some (.int y3), none] [] (px_w K s' t') o w2
  | _ => False
set_option maxRecDepth 100000 in
theorem e_l_M_inode_28_51 (K : px_K) (N : Nat) (u1 : Int32) : ∀ (n : Nat) (m3 : Int32) (m4 : Int32) (s : px_S) (t : px_W) (z : px_LO), l_M_inode_28_51 K N n u1 m3 m4 s t = some z → ∀ (o : Option Value ⊕ Nat) (w2 : px_W), a_l_M_inode_28_51 K u1 z o w2 → px_E px_ET px_P 6 85 51 [some (.ref 28), some (.int u1), none, some (.int m3), some (.int m4)] [] (px_w K s t) o w2 := by
  have hM : px_P[85]? = some pm_M_inode := rfl
  intro n
  induction n with
  | zero => intro m3 m4 s t z h; cases h
  | succ n ih =>
    intro m3 m4 s t z h o w2 ha
    unfold l_M_inode_28_51 at h
    refine px_blkif (c := (20 : Int32) ≤ m4) (t := 67) (e := 54) (L' := [some (.ref 28), some (.int u1), none, some (.int m3), some (.int m4)]) (S' := []) (w' := px_w K s t) (q := []) 3 hM rfl trivial (fun hc1 => ?_) (fun hc1 => ?_)
    · rw [if_pos hc1] at h
      cases h
      exact px_E_le (px_leC_L _ _ (by simp [px_leC, px_le1, Value.category])) ha
    · rw [if_neg hc1] at h
      refine px_blk (i' := 58) (L' := [some (.ref 28), some (.int u1), none, some (.int m3), some (.int m4)]) (S' := [.int m4, .int u1, .ref 28, .int m3]) (w' := px_w K s t) (q := []) 4 hM rfl trivial ?_
      rcases px_bi_some h with ⟨v5, s2, t3, hk4, h⟩ | ⟨x6, s2, t3, hk4, h⟩
      · refine px_E_call hM rfl rfl rfl rfl (px_E_mono (by decide) (e_M_blockOf_28 K N u1 m4 s t _ hk4)) ?_
        refine px_blkif (c := v5 ≤ 0) (t := 62) (e := 60) (L' := [some (.ref 28), some (.int u1), none, some (.int m3), some (.int m4)]) (S' := [.int m3]) (w' := px_w K s2 t3) (q := []) 1 hM rfl trivial (fun hc7 => ?_) (fun hc7 => ?_)
        · rw [if_pos hc7] at h
          refine px_blk (i' := 51) (L' := [some (.ref 28), some (.int u1), none, some (.int (m3 + (0 : Int32))), some (.int (m4 + (1 : Int32)))]) (S' := []) (w' := px_w K s2 t3) (q := []) 5 hM rfl trivial ?_
          exact ih (m3 + (0 : Int32)) (m4 + (1 : Int32)) s2 t3 z h o w2 ha
        · rw [if_neg hc7] at h
          refine px_blk (i' := 51) (L' := [some (.ref 28), some (.int u1), none, some (.int (m3 + (1 : Int32))), some (.int (m4 + (1 : Int32)))]) (S' := []) (w' := px_w K s2 t3) (q := []) 6 hM rfl trivial ?_
          exact ih (m3 + (1 : Int32)) (m4 + (1 : Int32)) s2 t3 z h o w2 ha
      · cases h
noncomputable def f_M_inode_28 (K : px_K) (N : Nat) (a0 : Int32) (a1 : Int32) (s : px_S) (t : px_W) : Option px_Res :=
  (px_let (sR s 25 (0 : Int32)) (fun s1 => (if (s1.1 29) = 0 then (some (.inl (some (.int (-1 : Int32))), s1, t)) else (if a0 < 0 then (some (.inl (some (.int (-1 : Int32))), s1, t)) else (if (24 : Int32) ≤ a0 then (some (.inl (some (.int (-1 : Int32))), s1, t)) else (if a1 < 0 then (some (.inl (some (.int (-1 : Int32))), s1, t)) else (if a1 ≤ (3 : Int32) then (if (2 : Int32) ≤ a1 then (if ¬ a1 = (2 : Int32) then (px_bi (f_M_ofInode_28 K N a0 (6 : Int32) s1 t) (fun v13 s10 t11 => (if v13 ≤ 0 then (px_lp (l_M_inode_28_51 K N N a0 (0 : Int32) (0 : Int32) s10 t11) (fun i16 vs17 s18 t19 => (if i16 = 67 then (px_v1 vs17 (fun y22 => (some (.inl (some (.int y22)), s18, t19)))) else none)) (fun z21 => some z21)) else (px_lp (l_M_inode_28_51 K N N a0 (1 : Int32) (0 : Int32) s10 t11) (fun i24 vs25 s26 t27 => (if i24 = 67 then (px_v1 vs25 (fun y30 => (some (.inl (some (.int y30)), s26, t27)))) else none)) (fun z29 => some z29)))) (fun x14 s10 t11 => none)) else (px_bi (f_M_isKind_28 K N a0 (1 : Int32) s1 t) (fun v35 s32 t33 => (if v35 = 0 then (some (.inl (some (.int (0 : Int32))), s32, t33)) else (px_bi (f_M_names_28 K N a0 s32 t33) (fun v41 s38 t39 => (some (.inl (some (.int v41)), s38, t39))) (fun x42 s38 t39 => none)))) (fun x36 s32 t33 => none))) else (px_bi (f_M_ofInode_28 K N a0 a1 s1 t) (fun v46 s43 t44 => (some (.inl (some (.int v46)), s43, t44))) (fun x47 s43 t44 => none))) else (some (.inl (some (.int (-1 : Int32))), s1, t)))))))))
set_option maxRecDepth 100000 in
theorem e_M_inode_28 (K : px_K) (N : Nat) (a0 : Int32) (a1 : Int32) (s : px_S) (t : px_W) (r : px_Res) (h : f_M_inode_28 K N a0 a1 s t = some r) : px_E px_ET px_P 6 85 0 (px_ent 5 [.ref 28, .int a0, .int a1]) [] (px_w K s t) r.1 (px_w K r.2.1 r.2.2) := by
  have hM : px_P[85]? = some pm_M_inode := rfl
  unfold f_M_inode_28 at h
  refine px_blk (i' := 3) (L' := [some (.ref 28), some (.int a0), some (.int a1), none, none]) (S' := []) (w' := px_w K (sR s 25 (0 : Int32)) t) (q := []) 3 hM rfl trivial ?_
  obtain ⟨s1, hs2, h⟩ := px_let_some h
  rw [← hs2]
  refine px_blkif (c := (s1.1 29) = 0) (t := 16) (e := 6) (L' := [some (.ref 28), some (.int a0), some (.int a1), none, none]) (S' := []) (w' := px_w K s1 t) (q := []) 3 hM rfl trivial (fun hc3 => ?_) (fun hc3 => ?_)
  · rw [if_pos hc3] at h
    refine px_blk (i' := 17) (L' := [some (.ref 28), some (.int a0), some (.int a1), none, none]) (S' := [.int (-1 : Int32)]) (w' := px_w K s1 t) (q := []) 1 hM rfl trivial ?_
    cases h
    exact px_E_ret hM rfl rfl rfl trivial
  · rw [if_neg hc3] at h
    refine px_blkif (c := a0 < 0) (t := 16) (e := 8) (L' := [some (.ref 28), some (.int a0), some (.int a1), none, none]) (S' := []) (w' := px_w K s1 t) (q := []) 2 hM rfl trivial (fun hc4 => ?_) (fun hc4 => ?_)
    · rw [if_pos hc4] at h
      refine px_blk (i' := 17) (L' := [some (.ref 28), some (.int a0), some (.int a1), none, none]) (S' := [.int (-1 : Int32)]) (w' := px_w K s1 t) (q := []) 1 hM rfl trivial ?_
      cases h
      exact px_E_ret hM rfl rfl rfl trivial
    · rw [if_neg hc4] at h
      refine px_blkif (c := (24 : Int32) ≤ a0) (t := 16) (e := 11) (L' := [some (.ref 28), some (.int a0), some (.int a1), none, none]) (S' := []) (w' := px_w K s1 t) (q := []) 3 hM rfl trivial (fun hc5 => ?_) (fun hc5 => ?_)
      · rw [if_pos hc5] at h
        refine px_blk (i' := 17) (L' := [some (.ref 28), some (.int a0), some (.int a1), none, none]) (S' := [.int (-1 : Int32)]) (w' := px_w K s1 t) (q := []) 1 hM rfl trivial ?_
        cases h
        exact px_E_ret hM rfl rfl rfl trivial
      · rw [if_neg hc5] at h
        refine px_blkif (c := a1 < 0) (t := 16) (e := 13) (L' := [some (.ref 28), some (.int a0), some (.int a1), none, none]) (S' := []) (w' := px_w K s1 t) (q := []) 2 hM rfl trivial (fun hc6 => ?_) (fun hc6 => ?_)
        · rw [if_pos hc6] at h
          refine px_blk (i' := 17) (L' := [some (.ref 28), some (.int a0), some (.int a1), none, none]) (S' := [.int (-1 : Int32)]) (w' := px_w K s1 t) (q := []) 1 hM rfl trivial ?_
          cases h
          exact px_E_ret hM rfl rfl rfl trivial
        · rw [if_neg hc6] at h
          refine px_blkif (c := a1 ≤ (3 : Int32)) (t := 18) (e := 16) (L' := [some (.ref 28), some (.int a0), some (.int a1), none, none]) (S' := []) (w' := px_w K s1 t) (q := []) 3 hM rfl trivial (fun hc7 => ?_) (fun hc7 => ?_)
          · rw [if_pos hc7] at h
            refine px_blkif (c := (2 : Int32) ≤ a1) (t := 26) (e := 21) (L' := [some (.ref 28), some (.int a0), some (.int a1), none, none]) (S' := []) (w' := px_w K s1 t) (q := []) 3 hM rfl trivial (fun hc8 => ?_) (fun hc8 => ?_)
            · rw [if_pos hc8] at h
              refine px_blkif (c := ¬ a1 = (2 : Int32)) (t := 40) (e := 29) (L' := [some (.ref 28), some (.int a0), some (.int a1), none, none]) (S' := []) (w' := px_w K s1 t) (q := []) 3 hM rfl trivial (fun hc9 => ?_) (fun hc9 => ?_)
              · rw [if_pos hc9] at h
                refine px_blk (i' := 43) (L' := [some (.ref 28), some (.int a0), some (.int a1), none, none]) (S' := [.int (6 : Int32), .int a0, .ref 28]) (w' := px_w K s1 t) (q := []) 3 hM rfl trivial ?_
                rcases px_bi_some h with ⟨v13, s10, t11, hk12, h⟩ | ⟨x14, s10, t11, hk12, h⟩
                · refine px_E_call hM rfl rfl rfl rfl (px_E_mono (by decide) (e_M_ofInode_28 K N a0 (6 : Int32) s1 t _ hk12)) ?_
                  refine px_blkif (c := v13 ≤ 0) (t := 47) (e := 45) (L' := [some (.ref 28), some (.int a0), some (.int a1), none, none]) (S' := []) (w' := px_w K s10 t11) (q := []) 1 hM rfl trivial (fun hc15 => ?_) (fun hc15 => ?_)
                  · rw [if_pos hc15] at h
                    refine px_blk (i' := 51) (L' := [some (.ref 28), some (.int a0), some (.int a1), some (.int (0 : Int32)), some (.int (0 : Int32))]) (S' := []) (w' := px_w K s10 t11) (q := []) 4 hM rfl trivial ?_
                    rcases px_lp_some h with ⟨i16, vs17, s18, t19, hl20, h⟩ | ⟨z21, hl20, h⟩
                    · by_cases hi23 : i16 = 67
                      · subst hi23
                        rw [if_pos rfl] at h
                        have h9 := px_v1_some h
                        clear h
                        obtain ⟨y22, rfl, h⟩ := h9
                        refine px_E_le (px_leC_L _ _ (by simp [px_leC, px_le1, Value.category])) (e_l_M_inode_28_51 K N a0 N (0 : Int32) (0 : Int32) s10 t11 _ hl20 _ _ ?_)
                        show px_E px_ET px_P 6 85 67 [none, none, none, some (.int y22), none] [] (px_w K s18 t19) _ _
                        refine px_blk (i' := 68) (L' := [none, none, none, some (.int y22), none]) (S' := [.int y22]) (w' := px_w K s18 t19) (q := []) 1 hM rfl trivial ?_
                        cases h
                        exact px_E_ret hM rfl rfl rfl trivial
                      · rw [if_neg hi23] at h
                        cases h
                    · cases h
                      exact px_E_le (px_leC_L _ _ (by simp [px_leC, px_le1, Value.category])) (e_l_M_inode_28_51 K N a0 N (0 : Int32) (0 : Int32) s10 t11 _ hl20 _ _ ⟨rfl, rfl⟩)
                  · rw [if_neg hc15] at h
                    refine px_blk (i' := 51) (L' := [some (.ref 28), some (.int a0), some (.int a1), some (.int (1 : Int32)), some (.int (0 : Int32))]) (S' := []) (w' := px_w K s10 t11) (q := []) 5 hM rfl trivial ?_
                    rcases px_lp_some h with ⟨i24, vs25, s26, t27, hl28, h⟩ | ⟨z29, hl28, h⟩
                    · by_cases hi31 : i24 = 67
                      · subst hi31
                        rw [if_pos rfl] at h
                        have h9 := px_v1_some h
                        clear h
                        obtain ⟨y30, rfl, h⟩ := h9
                        refine px_E_le (px_leC_L _ _ (by simp [px_leC, px_le1, Value.category])) (e_l_M_inode_28_51 K N a0 N (1 : Int32) (0 : Int32) s10 t11 _ hl28 _ _ ?_)
                        show px_E px_ET px_P 6 85 67 [none, none, none, some (.int y30), none] [] (px_w K s26 t27) _ _
                        refine px_blk (i' := 68) (L' := [none, none, none, some (.int y30), none]) (S' := [.int y30]) (w' := px_w K s26 t27) (q := []) 1 hM rfl trivial ?_
                        cases h
                        exact px_E_ret hM rfl rfl rfl trivial
                      · rw [if_neg hi31] at h
                        cases h
                    · cases h
                      exact px_E_le (px_leC_L _ _ (by simp [px_leC, px_le1, Value.category])) (e_l_M_inode_28_51 K N a0 N (1 : Int32) (0 : Int32) s10 t11 _ hl28 _ _ ⟨rfl, rfl⟩)
                · cases h
              · rw [if_neg hc9] at h
                refine px_blk (i' := 32) (L' := [some (.ref 28), some (.int a0), some (.int a1), none, none]) (S' := [.int (1 : Int32), .int a0, .ref 28]) (w' := px_w K s1 t) (q := []) 3 hM rfl trivial ?_
                rcases px_bi_some h with ⟨v35, s32, t33, hk34, h⟩ | ⟨x36, s32, t33, hk34, h⟩
                · refine px_E_call hM rfl rfl rfl rfl (px_E_mono (by decide) (e_M_isKind_28 K N a0 (1 : Int32) s1 t _ hk34)) ?_
                  refine px_blkif (c := v35 = 0) (t := 38) (e := 34) (L' := [some (.ref 28), some (.int a0), some (.int a1), none, none]) (S' := []) (w' := px_w K s32 t33) (q := []) 1 hM rfl trivial (fun hc37 => ?_) (fun hc37 => ?_)
                  · rw [if_pos hc37] at h
                    refine px_blk (i' := 39) (L' := [some (.ref 28), some (.int a0), some (.int a1), none, none]) (S' := [.int (0 : Int32)]) (w' := px_w K s32 t33) (q := []) 1 hM rfl trivial ?_
                    cases h
                    exact px_E_ret hM rfl rfl rfl trivial
                  · rw [if_neg hc37] at h
                    refine px_blk (i' := 36) (L' := [some (.ref 28), some (.int a0), some (.int a1), none, none]) (S' := [.int a0, .ref 28]) (w' := px_w K s32 t33) (q := []) 2 hM rfl trivial ?_
                    rcases px_bi_some h with ⟨v41, s38, t39, hk40, h⟩ | ⟨x42, s38, t39, hk40, h⟩
                    · refine px_E_call hM rfl rfl rfl rfl (px_E_mono (by decide) (e_M_names_28 K N a0 s32 t33 _ hk40)) ?_
                      refine px_blk (i' := 39) (L' := [some (.ref 28), some (.int a0), some (.int a1), none, none]) (S' := [.int v41]) (w' := px_w K s38 t39) (q := []) 1 hM rfl trivial ?_
                      cases h
                      exact px_E_ret hM rfl rfl rfl trivial
                    · cases h
                · cases h
            · rw [if_neg hc8] at h
              refine px_blk (i' := 24) (L' := [some (.ref 28), some (.int a0), some (.int a1), none, none]) (S' := [.int a1, .int a0, .ref 28]) (w' := px_w K s1 t) (q := []) 3 hM rfl trivial ?_
              rcases px_bi_some h with ⟨v46, s43, t44, hk45, h⟩ | ⟨x47, s43, t44, hk45, h⟩
              · refine px_E_call hM rfl rfl rfl rfl (px_E_mono (by decide) (e_M_ofInode_28 K N a0 a1 s1 t _ hk45)) ?_
                cases h
                exact px_E_ret hM rfl rfl rfl trivial
              · cases h
          · rw [if_neg hc7] at h
            refine px_blk (i' := 17) (L' := [some (.ref 28), some (.int a0), some (.int a1), none, none]) (S' := [.int (-1 : Int32)]) (w' := px_w K s1 t) (q := []) 1 hM rfl trivial ?_
            cases h
            exact px_E_ret hM rfl rfl rfl trivial
noncomputable def f_M_entry_28 (K : px_K) (N : Nat) (a0 : Int32) (a1 : Int32) (a2 : Int32) (s : px_S) (t : px_W) : Option px_Res :=
  (px_let (sR s 25 (0 : Int32)) (fun s1 => (if (s1.1 29) = 0 then (some (.inl (some (.int (-1 : Int32))), s1, t)) else (px_bi (f_M_isKind_28 K N a0 (1 : Int32) s1 t) (fun v7 s4 t5 => (if v7 = 0 then (some (.inl (some (.int (-1 : Int32))), s4, t5)) else (if a1 < 0 then (some (.inl (some (.int (-1 : Int32))), s4, t5)) else (px_bi (f_M_ofInode_28 K N a0 (1 : Int32) s4 t5) (fun v14 s11 t12 => (if v14 ≤ a1 then (some (.inl (some (.int (-1 : Int32))), s11, t12)) else (if a2 < 0 then (some (.inl (some (.int (-1 : Int32))), s11, t12)) else (if a2 ≤ (1 : Int32) then (if ¬ a2 = 0 then (px_bi (f_M_inodeAt_28 K N a0 a1 s11 t12) (fun v23 s20 t21 => (some (.inl (some (.int v23)), s20, t21))) (fun x24 s20 t21 => none)) else (px_bi (f_M_nameAt_28 K N a0 a1 s11 t12) (fun v28 s25 t26 => (some (.inl (some (.int v28)), s25, t26))) (fun x29 s25 t26 => none))) else (some (.inl (some (.int (-1 : Int32))), s11, t12)))))) (fun x15 s11 t12 => none))))) (fun x8 s4 t5 => none)))))
set_option maxRecDepth 100000 in
theorem e_M_entry_28 (K : px_K) (N : Nat) (a0 : Int32) (a1 : Int32) (a2 : Int32) (s : px_S) (t : px_W) (r : px_Res) (h : f_M_entry_28 K N a0 a1 a2 s t = some r) : px_E px_ET px_P 5 86 0 (px_ent 4 [.ref 28, .int a0, .int a1, .int a2]) [] (px_w K s t) r.1 (px_w K r.2.1 r.2.2) := by
  have hM : px_P[86]? = some pm_M_entry := rfl
  unfold f_M_entry_28 at h
  refine px_blk (i' := 3) (L' := [some (.ref 28), some (.int a0), some (.int a1), some (.int a2)]) (S' := []) (w' := px_w K (sR s 25 (0 : Int32)) t) (q := []) 3 hM rfl trivial ?_
  obtain ⟨s1, hs2, h⟩ := px_let_some h
  rw [← hs2]
  refine px_blkif (c := (s1.1 29) = 0) (t := 24) (e := 6) (L' := [some (.ref 28), some (.int a0), some (.int a1), some (.int a2)]) (S' := []) (w' := px_w K s1 t) (q := []) 3 hM rfl trivial (fun hc3 => ?_) (fun hc3 => ?_)
  · rw [if_pos hc3] at h
    refine px_blk (i' := 25) (L' := [some (.ref 28), some (.int a0), some (.int a1), some (.int a2)]) (S' := [.int (-1 : Int32)]) (w' := px_w K s1 t) (q := []) 1 hM rfl trivial ?_
    cases h
    exact px_E_ret hM rfl rfl rfl trivial
  · rw [if_neg hc3] at h
    refine px_blk (i' := 9) (L' := [some (.ref 28), some (.int a0), some (.int a1), some (.int a2)]) (S' := [.int (1 : Int32), .int a0, .ref 28]) (w' := px_w K s1 t) (q := []) 3 hM rfl trivial ?_
    rcases px_bi_some h with ⟨v7, s4, t5, hk6, h⟩ | ⟨x8, s4, t5, hk6, h⟩
    · refine px_E_call hM rfl rfl rfl rfl (px_E_mono (by decide) (e_M_isKind_28 K N a0 (1 : Int32) s1 t _ hk6)) ?_
      refine px_blkif (c := v7 = 0) (t := 24) (e := 11) (L' := [some (.ref 28), some (.int a0), some (.int a1), some (.int a2)]) (S' := []) (w' := px_w K s4 t5) (q := []) 1 hM rfl trivial (fun hc9 => ?_) (fun hc9 => ?_)
      · rw [if_pos hc9] at h
        refine px_blk (i' := 25) (L' := [some (.ref 28), some (.int a0), some (.int a1), some (.int a2)]) (S' := [.int (-1 : Int32)]) (w' := px_w K s4 t5) (q := []) 1 hM rfl trivial ?_
        cases h
        exact px_E_ret hM rfl rfl rfl trivial
      · rw [if_neg hc9] at h
        refine px_blkif (c := a1 < 0) (t := 24) (e := 13) (L' := [some (.ref 28), some (.int a0), some (.int a1), some (.int a2)]) (S' := []) (w' := px_w K s4 t5) (q := []) 2 hM rfl trivial (fun hc10 => ?_) (fun hc10 => ?_)
        · rw [if_pos hc10] at h
          refine px_blk (i' := 25) (L' := [some (.ref 28), some (.int a0), some (.int a1), some (.int a2)]) (S' := [.int (-1 : Int32)]) (w' := px_w K s4 t5) (q := []) 1 hM rfl trivial ?_
          cases h
          exact px_E_ret hM rfl rfl rfl trivial
        · rw [if_neg hc10] at h
          refine px_blk (i' := 17) (L' := [some (.ref 28), some (.int a0), some (.int a1), some (.int a2)]) (S' := [.int (1 : Int32), .int a0, .ref 28, .int a1]) (w' := px_w K s4 t5) (q := []) 4 hM rfl trivial ?_
          rcases px_bi_some h with ⟨v14, s11, t12, hk13, h⟩ | ⟨x15, s11, t12, hk13, h⟩
          · refine px_E_call hM rfl rfl rfl rfl (px_E_mono (by decide) (e_M_ofInode_28 K N a0 (1 : Int32) s4 t5 _ hk13)) ?_
            refine px_blkif (c := v14 ≤ a1) (t := 24) (e := 19) (L' := [some (.ref 28), some (.int a0), some (.int a1), some (.int a2)]) (S' := []) (w' := px_w K s11 t12) (q := []) 1 hM rfl trivial (fun hc16 => ?_) (fun hc16 => ?_)
            · rw [if_pos hc16] at h
              refine px_blk (i' := 25) (L' := [some (.ref 28), some (.int a0), some (.int a1), some (.int a2)]) (S' := [.int (-1 : Int32)]) (w' := px_w K s11 t12) (q := []) 1 hM rfl trivial ?_
              cases h
              exact px_E_ret hM rfl rfl rfl trivial
            · rw [if_neg hc16] at h
              refine px_blkif (c := a2 < 0) (t := 24) (e := 21) (L' := [some (.ref 28), some (.int a0), some (.int a1), some (.int a2)]) (S' := []) (w' := px_w K s11 t12) (q := []) 2 hM rfl trivial (fun hc17 => ?_) (fun hc17 => ?_)
              · rw [if_pos hc17] at h
                refine px_blk (i' := 25) (L' := [some (.ref 28), some (.int a0), some (.int a1), some (.int a2)]) (S' := [.int (-1 : Int32)]) (w' := px_w K s11 t12) (q := []) 1 hM rfl trivial ?_
                cases h
                exact px_E_ret hM rfl rfl rfl trivial
              · rw [if_neg hc17] at h
                refine px_blkif (c := a2 ≤ (1 : Int32)) (t := 26) (e := 24) (L' := [some (.ref 28), some (.int a0), some (.int a1), some (.int a2)]) (S' := []) (w' := px_w K s11 t12) (q := []) 3 hM rfl trivial (fun hc18 => ?_) (fun hc18 => ?_)
                · rw [if_pos hc18] at h
                  refine px_blkif (c := ¬ a2 = 0) (t := 33) (e := 28) (L' := [some (.ref 28), some (.int a0), some (.int a1), some (.int a2)]) (S' := []) (w' := px_w K s11 t12) (q := []) 2 hM rfl trivial (fun hc19 => ?_) (fun hc19 => ?_)
                  · rw [if_pos hc19] at h
                    refine px_blk (i' := 36) (L' := [some (.ref 28), some (.int a0), some (.int a1), some (.int a2)]) (S' := [.int a1, .int a0, .ref 28]) (w' := px_w K s11 t12) (q := []) 3 hM rfl trivial ?_
                    rcases px_bi_some h with ⟨v23, s20, t21, hk22, h⟩ | ⟨x24, s20, t21, hk22, h⟩
                    · refine px_E_call hM rfl rfl rfl rfl (px_E_mono (by decide) (e_M_inodeAt_28 K N a0 a1 s11 t12 _ hk22)) ?_
                      cases h
                      exact px_E_ret hM rfl rfl rfl trivial
                    · cases h
                  · rw [if_neg hc19] at h
                    refine px_blk (i' := 31) (L' := [some (.ref 28), some (.int a0), some (.int a1), some (.int a2)]) (S' := [.int a1, .int a0, .ref 28]) (w' := px_w K s11 t12) (q := []) 3 hM rfl trivial ?_
                    rcases px_bi_some h with ⟨v28, s25, t26, hk27, h⟩ | ⟨x29, s25, t26, hk27, h⟩
                    · refine px_E_call hM rfl rfl rfl rfl (px_E_mono (by decide) (e_M_nameAt_28 K N a0 a1 s11 t12 _ hk27)) ?_
                      refine px_blk (i' := 37) (L' := [some (.ref 28), some (.int a0), some (.int a1), some (.int a2)]) (S' := [.int v28]) (w' := px_w K s25 t26) (q := []) 1 hM rfl trivial ?_
                      cases h
                      exact px_E_ret hM rfl rfl rfl trivial
                    · cases h
                · rw [if_neg hc18] at h
                  refine px_blk (i' := 25) (L' := [some (.ref 28), some (.int a0), some (.int a1), some (.int a2)]) (S' := [.int (-1 : Int32)]) (w' := px_w K s11 t12) (q := []) 1 hM rfl trivial ?_
                  cases h
                  exact px_E_ret hM rfl rfl rfl trivial
          · cases h
    · cases h
noncomputable def f_M_closed_28 (K : px_K) (N : Nat) (s : px_S) (t : px_W) : Option px_Res :=
  (if (s.1 31) = 0 then (px_bi (f_M_landed_28 K N s t) (fun v5 s2 t3 => (some (.inl (some (.int v5)), s2, t3))) (fun x6 s2 t3 => none)) else (some (.inl (some (.int ((s.1 32) - (1 : Int32)))), s, t)))
set_option maxRecDepth 100000 in
theorem e_M_closed_28 (K : px_K) (N : Nat) (s : px_S) (t : px_W) (r : px_Res) (h : f_M_closed_28 K N s t = some r) : px_E px_ET px_P 4 87 0 (px_ent 1 [.ref 28]) [] (px_w K s t) r.1 (px_w K r.2.1 r.2.2) := by
  have hM : px_P[87]? = some pm_M_closed := rfl
  unfold f_M_closed_28 at h
  refine px_blkif (c := (s.1 31) = 0) (t := 8) (e := 3) (L' := [some (.ref 28)]) (S' := []) (w' := px_w K s t) (q := []) 3 hM rfl trivial (fun hc1 => ?_) (fun hc1 => ?_)
  · rw [if_pos hc1] at h
    refine px_blk (i' := 9) (L' := [some (.ref 28)]) (S' := [.ref 28]) (w' := px_w K s t) (q := []) 1 hM rfl trivial ?_
    rcases px_bi_some h with ⟨v5, s2, t3, hk4, h⟩ | ⟨x6, s2, t3, hk4, h⟩
    · refine px_E_call hM rfl rfl rfl rfl (px_E_mono (by decide) (e_M_landed_28 K N s t _ hk4)) ?_
      cases h
      exact px_E_ret hM rfl rfl rfl trivial
    · cases h
  · rw [if_neg hc1] at h
    refine px_blk (i' := 10) (L' := [some (.ref 28)]) (S' := [.int ((s.1 32) - (1 : Int32))]) (w' := px_w K s t) (q := []) 5 hM rfl trivial ?_
    cases h
    exact px_E_ret hM rfl rfl rfl trivial
noncomputable def f_M_sync_28 (K : px_K) (N : Nat) (s : px_S) (t : px_W) : Option px_Res :=
  (px_let (sR s 25 (0 : Int32)) (fun s1 => (if ¬ (s1.1 29) = 0 then (px_bv (f_M_commit_28 K N s1 t) (fun s4 t5 => (px_bi (f_M_closed_28 K N s4 t5) (fun v12 s9 t10 => (px_bi (f_M_answer_28 K N v12 s9 t10) (fun v17 s14 t15 => (some (.inl (some (.int v17)), s14, t15))) (fun x18 s14 t15 => none))) (fun x13 s9 t10 => none))) (fun x8 s4 t5 => none)) else (some (.inl (some (.int (-9 : Int32))), s1, t)))))
set_option maxRecDepth 100000 in
theorem e_M_sync_28 (K : px_K) (N : Nat) (s : px_S) (t : px_W) (r : px_Res) (h : f_M_sync_28 K N s t = some r) : px_E px_ET px_P 12 88 0 (px_ent 1 [.ref 28]) [] (px_w K s t) r.1 (px_w K r.2.1 r.2.2) := by
  have hM : px_P[88]? = some pm_M_sync := rfl
  unfold f_M_sync_28 at h
  refine px_blk (i' := 3) (L' := [some (.ref 28)]) (S' := []) (w' := px_w K (sR s 25 (0 : Int32)) t) (q := []) 3 hM rfl trivial ?_
  obtain ⟨s1, hs2, h⟩ := px_let_some h
  rw [← hs2]
  refine px_blkif (c := ¬ (s1.1 29) = 0) (t := 8) (e := 6) (L' := [some (.ref 28)]) (S' := []) (w' := px_w K s1 t) (q := []) 3 hM rfl trivial (fun hc3 => ?_) (fun hc3 => ?_)
  · rw [if_pos hc3] at h
    refine px_blk (i' := 9) (L' := [some (.ref 28)]) (S' := [.ref 28]) (w' := px_w K s1 t) (q := []) 1 hM rfl trivial ?_
    rcases px_bv_some h with ⟨s4, t5, hk6, h⟩ | ⟨x8, s4, t5, hk6, h⟩
    · refine px_E_call hM rfl rfl rfl rfl (px_E_mono (by decide) (e_M_commit_28 K N s1 t _ hk6)) ?_
      refine px_blk (i' := 12) (L' := [some (.ref 28)]) (S' := [.ref 28, .ref 28]) (w' := px_w K s4 t5) (q := []) 2 hM rfl trivial ?_
      rcases px_bi_some h with ⟨v12, s9, t10, hk11, h⟩ | ⟨x13, s9, t10, hk11, h⟩
      · refine px_E_call hM rfl rfl rfl rfl (px_E_mono (by decide) (e_M_closed_28 K N s4 t5 _ hk11)) ?_
        rcases px_bi_some h with ⟨v17, s14, t15, hk16, h⟩ | ⟨x18, s14, t15, hk16, h⟩
        · refine px_E_call hM rfl rfl rfl rfl (px_E_mono (by decide) (e_M_answer_28 K N v12 s9 t10 _ hk16)) ?_
          cases h
          exact px_E_ret hM rfl rfl rfl trivial
        · cases h
      · cases h
    · cases h
  · rw [if_neg hc3] at h
    refine px_blk (i' := 7) (L' := [some (.ref 28)]) (S' := [.int (-9 : Int32)]) (w' := px_w K s1 t) (q := []) 1 hM rfl trivial ?_
    cases h
    exact px_E_ret hM rfl rfl rfl trivial
noncomputable def f_M_land_28 (K : px_K) (N : Nat) (s : px_S) (t : px_W) : Option px_Res :=
  (px_let (sR s 25 (0 : Int32)) (fun s1 => (if ¬ (s1.1 29) = 0 then (if (s1.1 31) = 0 then (px_bi (f_M_answer_28 K N (0 : Int32) s1 t) (fun v8 s5 t6 => (some (.inl (some (.int v8)), s5, t6))) (fun x9 s5 t6 => none)) else (px_bi (f_M_land1_28 K N s1 t) (fun v13 s10 t11 => (px_bi (f_M_answer_28 K N v13 s10 t11) (fun v18 s15 t16 => (some (.inl (some (.int v18)), s15, t16))) (fun x19 s15 t16 => none))) (fun x14 s10 t11 => none))) else (some (.inl (some (.int (-9 : Int32))), s1, t)))))
set_option maxRecDepth 100000 in
theorem e_M_land_28 (K : px_K) (N : Nat) (s : px_S) (t : px_W) (r : px_Res) (h : f_M_land_28 K N s t = some r) : px_E px_ET px_P 7 89 0 (px_ent 1 [.ref 28]) [] (px_w K s t) r.1 (px_w K r.2.1 r.2.2) := by
  have hM : px_P[89]? = some pm_M_land := rfl
  unfold f_M_land_28 at h
  refine px_blk (i' := 3) (L' := [some (.ref 28)]) (S' := []) (w' := px_w K (sR s 25 (0 : Int32)) t) (q := []) 3 hM rfl trivial ?_
  obtain ⟨s1, hs2, h⟩ := px_let_some h
  rw [← hs2]
  refine px_blkif (c := ¬ (s1.1 29) = 0) (t := 8) (e := 6) (L' := [some (.ref 28)]) (S' := []) (w' := px_w K s1 t) (q := []) 3 hM rfl trivial (fun hc3 => ?_) (fun hc3 => ?_)
  · rw [if_pos hc3] at h
    refine px_blkif (c := (s1.1 31) = 0) (t := 15) (e := 12) (L' := [some (.ref 28)]) (S' := [.ref 28]) (w' := px_w K s1 t) (q := []) 4 hM rfl trivial (fun hc4 => ?_) (fun hc4 => ?_)
    · rw [if_pos hc4] at h
      refine px_blk (i' := 16) (L' := [some (.ref 28)]) (S' := [.int (0 : Int32), .ref 28]) (w' := px_w K s1 t) (q := []) 1 hM rfl trivial ?_
      rcases px_bi_some h with ⟨v8, s5, t6, hk7, h⟩ | ⟨x9, s5, t6, hk7, h⟩
      · refine px_E_call hM rfl rfl rfl rfl (px_E_mono (by decide) (e_M_answer_28 K N (0 : Int32) s1 t _ hk7)) ?_
        cases h
        exact px_E_ret hM rfl rfl rfl trivial
      · cases h
    · rw [if_neg hc4] at h
      refine px_blk (i' := 13) (L' := [some (.ref 28)]) (S' := [.ref 28, .ref 28]) (w' := px_w K s1 t) (q := []) 1 hM rfl trivial ?_
      rcases px_bi_some h with ⟨v13, s10, t11, hk12, h⟩ | ⟨x14, s10, t11, hk12, h⟩
      · refine px_E_call hM rfl rfl rfl rfl (px_E_mono (by decide) (e_M_land1_28 K N s1 t _ hk12)) ?_
        refine px_blk (i' := 16) (L' := [some (.ref 28)]) (S' := [.int v13, .ref 28]) (w' := px_w K s10 t11) (q := []) 1 hM rfl trivial ?_
        rcases px_bi_some h with ⟨v18, s15, t16, hk17, h⟩ | ⟨x19, s15, t16, hk17, h⟩
        · refine px_E_call hM rfl rfl rfl rfl (px_E_mono (by decide) (e_M_answer_28 K N v13 s10 t11 _ hk17)) ?_
          cases h
          exact px_E_ret hM rfl rfl rfl trivial
        · cases h
      · cases h
  · rw [if_neg hc3] at h
    refine px_blk (i' := 7) (L' := [some (.ref 28)]) (S' := [.int (-9 : Int32)]) (w' := px_w K s1 t) (q := []) 1 hM rfl trivial ?_
    cases h
    exact px_E_ret hM rfl rfl rfl trivial
noncomputable def f_M_home_28 (K : px_K) (N : Nat) (s : px_S) (t : px_W) : Option px_Res :=
  (px_let (sR s 25 (0 : Int32)) (fun s1 => (if ¬ (s1.1 29) = 0 then (px_bv (f_M_commit_28 K N s1 t) (fun s4 t5 => (px_bi (f_M_keeps_28 K N s4 t5) (fun v12 s9 t10 => (px_bv (f_M_bringHome_28 K N s9 t10) (fun s14 t15 => (px_bi (f_M_answer_28 K N v12 s14 t15) (fun v22 s19 t20 => (some (.inl (some (.int v22)), s19, t20))) (fun x23 s19 t20 => none))) (fun x18 s14 t15 => none))) (fun x13 s9 t10 => none))) (fun x8 s4 t5 => none)) else (some (.inl (some (.int (-9 : Int32))), s1, t)))))
set_option maxRecDepth 100000 in
theorem e_M_home_28 (K : px_K) (N : Nat) (s : px_S) (t : px_W) (r : px_Res) (h : f_M_home_28 K N s t = some r) : px_E px_ET px_P 12 90 0 (px_ent 2 [.ref 28]) [] (px_w K s t) r.1 (px_w K r.2.1 r.2.2) := by
  have hM : px_P[90]? = some pm_M_home := rfl
  unfold f_M_home_28 at h
  refine px_blk (i' := 3) (L' := [some (.ref 28), none]) (S' := []) (w' := px_w K (sR s 25 (0 : Int32)) t) (q := []) 3 hM rfl trivial ?_
  obtain ⟨s1, hs2, h⟩ := px_let_some h
  rw [← hs2]
  refine px_blkif (c := ¬ (s1.1 29) = 0) (t := 8) (e := 6) (L' := [some (.ref 28), none]) (S' := []) (w' := px_w K s1 t) (q := []) 3 hM rfl trivial (fun hc3 => ?_) (fun hc3 => ?_)
  · rw [if_pos hc3] at h
    refine px_blk (i' := 9) (L' := [some (.ref 28), none]) (S' := [.ref 28]) (w' := px_w K s1 t) (q := []) 1 hM rfl trivial ?_
    rcases px_bv_some h with ⟨s4, t5, hk6, h⟩ | ⟨x8, s4, t5, hk6, h⟩
    · refine px_E_call hM rfl rfl rfl rfl (px_E_mono (by decide) (e_M_commit_28 K N s1 t _ hk6)) ?_
      refine px_blk (i' := 11) (L' := [some (.ref 28), none]) (S' := [.ref 28]) (w' := px_w K s4 t5) (q := []) 1 hM rfl trivial ?_
      rcases px_bi_some h with ⟨v12, s9, t10, hk11, h⟩ | ⟨x13, s9, t10, hk11, h⟩
      · refine px_E_call hM rfl rfl rfl rfl (px_E_mono (by decide) (e_M_keeps_28 K N s4 t5 _ hk11)) ?_
        refine px_blk (i' := 14) (L' := [some (.ref 28), some (.int v12)]) (S' := [.ref 28]) (w' := px_w K s9 t10) (q := []) 2 hM rfl trivial ?_
        rcases px_bv_some h with ⟨s14, t15, hk16, h⟩ | ⟨x18, s14, t15, hk16, h⟩
        · refine px_E_call hM rfl rfl rfl rfl (px_E_mono (by decide) (e_M_bringHome_28 K N s9 t10 _ hk16)) ?_
          refine px_blk (i' := 17) (L' := [some (.ref 28), some (.int v12)]) (S' := [.int v12, .ref 28]) (w' := px_w K s14 t15) (q := []) 2 hM rfl trivial ?_
          rcases px_bi_some h with ⟨v22, s19, t20, hk21, h⟩ | ⟨x23, s19, t20, hk21, h⟩
          · refine px_E_call hM rfl rfl rfl rfl (px_E_mono (by decide) (e_M_answer_28 K N v12 s14 t15 _ hk21)) ?_
            cases h
            exact px_E_ret hM rfl rfl rfl trivial
          · cases h
        · cases h
      · cases h
    · cases h
  · rw [if_neg hc3] at h
    refine px_blk (i' := 7) (L' := [some (.ref 28), none]) (S' := [.int (-9 : Int32)]) (w' := px_w K s1 t) (q := []) 1 hM rfl trivial ?_
    cases h
    exact px_E_ret hM rfl rfl rfl trivial
noncomputable def f_M_limit_28 (K : px_K) (N : Nat) (a0 : Int32) (a1 : Int64) (s : px_S) (t : px_W) : Option px_Res :=
  (px_let (sR s 25 (0 : Int32)) (fun s1 => (if (s1.1 29) = 0 then (some (.inl (some (.int (0 : Int32))), s1, t)) else (if a0 < (1 : Int32) then (some (.inl (some (.int (0 : Int32))), s1, t)) else (if a0 ≤ (1000 : Int32) then (px_let (sR s1 30 a0) (fun s6 => (px_let (sQ s6 3 a1) (fun s8 => (some (.inl (some (.int (1 : Int32))), s8, t)))))) else (some (.inl (some (.int (0 : Int32))), s1, t)))))))
set_option maxRecDepth 100000 in
theorem e_M_limit_28 (K : px_K) (N : Nat) (a0 : Int32) (a1 : Int64) (s : px_S) (t : px_W) (r : px_Res) (h : f_M_limit_28 K N a0 a1 s t = some r) : px_E px_ET px_P 1 91 0 (px_ent 4 [.ref 28, .int a0, .long a1]) [] (px_w K s t) r.1 (px_w K r.2.1 r.2.2) := by
  have hM : px_P[91]? = some pm_M_limit := rfl
  unfold f_M_limit_28 at h
  refine px_blk (i' := 3) (L' := [some (.ref 28), some (.int a0), some (.long a1), none]) (S' := []) (w' := px_w K (sR s 25 (0 : Int32)) t) (q := []) 3 hM rfl trivial ?_
  obtain ⟨s1, hs2, h⟩ := px_let_some h
  rw [← hs2]
  refine px_blkif (c := (s1.1 29) = 0) (t := 12) (e := 6) (L' := [some (.ref 28), some (.int a0), some (.long a1), none]) (S' := []) (w' := px_w K s1 t) (q := []) 3 hM rfl trivial (fun hc3 => ?_) (fun hc3 => ?_)
  · rw [if_pos hc3] at h
    refine px_blk (i' := 13) (L' := [some (.ref 28), some (.int a0), some (.long a1), none]) (S' := [.int (0 : Int32)]) (w' := px_w K s1 t) (q := []) 1 hM rfl trivial ?_
    cases h
    exact px_E_ret hM rfl rfl rfl (show (0 : Int32) = 0 ∨ (0 : Int32) = 1 from Or.inl rfl)
  · rw [if_neg hc3] at h
    refine px_blkif (c := a0 < (1 : Int32)) (t := 12) (e := 9) (L' := [some (.ref 28), some (.int a0), some (.long a1), none]) (S' := []) (w' := px_w K s1 t) (q := []) 3 hM rfl trivial (fun hc4 => ?_) (fun hc4 => ?_)
    · rw [if_pos hc4] at h
      refine px_blk (i' := 13) (L' := [some (.ref 28), some (.int a0), some (.long a1), none]) (S' := [.int (0 : Int32)]) (w' := px_w K s1 t) (q := []) 1 hM rfl trivial ?_
      cases h
      exact px_E_ret hM rfl rfl rfl (show (0 : Int32) = 0 ∨ (0 : Int32) = 1 from Or.inl rfl)
    · rw [if_neg hc4] at h
      refine px_blkif (c := a0 ≤ (1000 : Int32)) (t := 14) (e := 12) (L' := [some (.ref 28), some (.int a0), some (.long a1), none]) (S' := []) (w' := px_w K s1 t) (q := []) 3 hM rfl trivial (fun hc5 => ?_) (fun hc5 => ?_)
      · rw [if_pos hc5] at h
        refine px_blk (i' := 17) (L' := [some (.ref 28), some (.int a0), some (.long a1), none]) (S' := []) (w' := px_w K (sR s1 30 a0) t) (q := []) 3 hM rfl trivial ?_
        obtain ⟨s6, hs7, h⟩ := px_let_some h
        rw [← hs7]
        refine px_blk (i' := 20) (L' := [some (.ref 28), some (.int a0), some (.long a1), none]) (S' := []) (w' := px_w K (sQ s6 3 a1) t) (q := []) 3 hM rfl trivial ?_
        obtain ⟨s8, hs9, h⟩ := px_let_some h
        rw [← hs9]
        refine px_blk (i' := 21) (L' := [some (.ref 28), some (.int a0), some (.long a1), none]) (S' := [.int (1 : Int32)]) (w' := px_w K s8 t) (q := []) 1 hM rfl trivial ?_
        cases h
        exact px_E_ret hM rfl rfl rfl (show (1 : Int32) = 0 ∨ (1 : Int32) = 1 from Or.inr rfl)
      · rw [if_neg hc5] at h
        refine px_blk (i' := 13) (L' := [some (.ref 28), some (.int a0), some (.long a1), none]) (S' := [.int (0 : Int32)]) (w' := px_w K s1 t) (q := []) 1 hM rfl trivial ?_
        cases h
        exact px_E_ret hM rfl rfl rfl (show (0 : Int32) = 0 ∨ (0 : Int32) = 1 from Or.inl rfl)
noncomputable def f_M_crash_28 (K : px_K) (N : Nat) (a0 : Int64) (s : px_S) (t : px_W) : Option px_Res :=
  (px_let (sR s 25 (0 : Int32)) (fun s1 => (if ¬ (s1.1 29) = 0 then (px_bv (f_M_goes_28 K N a0 s1 t) (fun s4 t5 => (some (.inl (some (.int (1 : Int32))), s4, t5))) (fun x8 s4 t5 => none)) else (some (.inl (some (.int (0 : Int32))), s1, t)))))
set_option maxRecDepth 100000 in
theorem e_M_crash_28 (K : px_K) (N : Nat) (a0 : Int64) (s : px_S) (t : px_W) (r : px_Res) (h : f_M_crash_28 K N a0 s t = some r) : px_E px_ET px_P 4 92 0 (px_ent 3 [.ref 28, .long a0]) [] (px_w K s t) r.1 (px_w K r.2.1 r.2.2) := by
  have hM : px_P[92]? = some pm_M_crash := rfl
  unfold f_M_crash_28 at h
  refine px_blk (i' := 3) (L' := [some (.ref 28), some (.long a0), none]) (S' := []) (w' := px_w K (sR s 25 (0 : Int32)) t) (q := []) 3 hM rfl trivial ?_
  obtain ⟨s1, hs2, h⟩ := px_let_some h
  rw [← hs2]
  refine px_blkif (c := ¬ (s1.1 29) = 0) (t := 8) (e := 6) (L' := [some (.ref 28), some (.long a0), none]) (S' := []) (w' := px_w K s1 t) (q := []) 3 hM rfl trivial (fun hc3 => ?_) (fun hc3 => ?_)
  · rw [if_pos hc3] at h
    refine px_blk (i' := 10) (L' := [some (.ref 28), some (.long a0), none]) (S' := [.long a0, .ref 28]) (w' := px_w K s1 t) (q := []) 2 hM rfl trivial ?_
    rcases px_bv_some h with ⟨s4, t5, hk6, h⟩ | ⟨x8, s4, t5, hk6, h⟩
    · refine px_E_call hM rfl rfl rfl rfl (px_E_mono (by decide) (e_M_goes_28 K N a0 s1 t _ hk6)) ?_
      refine px_blk (i' := 12) (L' := [some (.ref 28), some (.long a0), none]) (S' := [.int (1 : Int32)]) (w' := px_w K s4 t5) (q := []) 1 hM rfl trivial ?_
      cases h
      exact px_E_ret hM rfl rfl rfl (show (1 : Int32) = 0 ∨ (1 : Int32) = 1 from Or.inr rfl)
    · cases h
  · rw [if_neg hc3] at h
    refine px_blk (i' := 7) (L' := [some (.ref 28), some (.long a0), none]) (S' := [.int (0 : Int32)]) (w' := px_w K s1 t) (q := []) 1 hM rfl trivial ?_
    cases h
    exact px_E_ret hM rfl rfl rfl (show (0 : Int32) = 0 ∨ (0 : Int32) = 1 from Or.inl rfl)
noncomputable def l_M_newFlash_28_4 (K : px_K) (N : Nat) (n : Nat) (m1 : Int32) (s : px_S) (t : px_W) : Option px_LO := match n with
  | 0 => none
  | n + 1 => (px_bi (f_M_at K N (1 : Int32) (114 : Int32) s t) (fun v4 s1 t2 => (if v4 ≤ m1 then (some (.inl (16, [], s1, t2))) else (px_gd (vp_in m1 (K.2.2 29)) (px_let (sA s1 29 m1.toNatClampNeg (0 : Int32)) (fun s8 => (l_M_newFlash_28_4 K N n (m1 + (1 : Int32)) s8 t2)))))) (fun x5 s1 t2 => none))
def a_l_M_newFlash_28_4 (K : px_K) (z : px_LO) (o : Option Value ⊕ Nat) (w2 : px_W) : Prop := match z with
  | .inr (o', s', t') => o = o' ∧ w2 = px_w K s' t'
  | .inl (16, [], s', t') => px_E px_ET px_P 2 93 16 [some (.ref 28), none] [] (px_w K s' t') o w2
  | _ => False
set_option maxRecDepth 100000 in
theorem e_l_M_newFlash_28_4 (K : px_K) (N : Nat) : ∀ (n : Nat) (m1 : Int32) (s : px_S) (t : px_W) (z : px_LO), l_M_newFlash_28_4 K N n m1 s t = some z → ∀ (o : Option Value ⊕ Nat) (w2 : px_W), a_l_M_newFlash_28_4 K z o w2 → px_E px_ET px_P 2 93 4 [some (.ref 28), some (.int m1)] [] (px_w K s t) o w2 := by
  have hM : px_P[93]? = some pm_M_newFlash := rfl
  intro n
  induction n with
  | zero => intro m1 s t z h; cases h
  | succ n ih =>
    intro m1 s t z h o w2 ha
    unfold l_M_newFlash_28_4 at h
    refine px_blk (i' := 7) (L' := [some (.ref 28), some (.int m1)]) (S' := [.int (114 : Int32), .int (1 : Int32), .int m1]) (w' := px_w K s t) (q := []) 3 hM rfl trivial ?_
    rcases px_bi_some h with ⟨v4, s1, t2, hk3, h⟩ | ⟨x5, s1, t2, hk3, h⟩
    · refine px_E_call hM rfl rfl rfl rfl (px_E_mono (by decide) (e_M_at K N (1 : Int32) (114 : Int32) s t _ hk3)) ?_
      refine px_blkif (c := v4 ≤ m1) (t := 16) (e := 9) (L' := [some (.ref 28), some (.int m1)]) (S' := []) (w' := px_w K s1 t2) (q := []) 1 hM rfl trivial (fun hc6 => ?_) (fun hc6 => ?_)
      · rw [if_pos hc6] at h
        cases h
        exact px_E_le (px_leC_L _ _ (by simp [px_leC, px_le1, Value.category])) ha
      · rw [if_neg hc6] at h
        obtain ⟨hq7, h⟩ := px_gd_some h
        refine px_blk (i' := 14) (L' := [some (.ref 28), some (.int m1)]) (S' := []) (w' := px_w K (sA s1 29 m1.toNatClampNeg (0 : Int32)) t2) (q := [vp_in m1 (K.2.2 29)]) 5 hM rfl (show vp_in m1 (K.2.2 29) from hq7) ?_
        obtain ⟨s8, hs9, h⟩ := px_let_some h
        rw [← hs9]
        refine px_blk (i' := 4) (L' := [some (.ref 28), some (.int (m1 + (1 : Int32)))]) (S' := []) (w' := px_w K s8 t2) (q := []) 2 hM rfl trivial ?_
        exact ih (m1 + (1 : Int32)) s8 t2 z h o w2 ha
    · cases h
noncomputable def f_M_newFlash_28 (K : px_K) (N : Nat) (s : px_S) (t : px_W) : Option px_Res :=
  (px_bi (f_M_at K N (1 : Int32) (0 : Int32) s t) (fun v4 s1 t2 => (px_lp (l_M_newFlash_28_4 K N N v4 s1 t2) (fun i6 vs7 s8 t9 => (if i6 = 16 then (px_v0 vs7 (px_gd (vp_in (1 : Int32) (K.2.2 30)) (px_let (sA s8 30 (1 : Int32).toNatClampNeg (0 : Int32)) (fun s14 => (some (.inl none, s14, t9)))))) else none)) (fun z11 => some z11))) (fun x5 s1 t2 => none))
set_option maxRecDepth 100000 in
theorem e_M_newFlash_28 (K : px_K) (N : Nat) (s : px_S) (t : px_W) (r : px_Res) (h : f_M_newFlash_28 K N s t = some r) : px_E px_ET px_P 2 93 0 (px_ent 2 [.ref 28]) [] (px_w K s t) r.1 (px_w K r.2.1 r.2.2) := by
  have hM : px_P[93]? = some pm_M_newFlash := rfl
  unfold f_M_newFlash_28 at h
  refine px_blk (i' := 2) (L' := [some (.ref 28), none]) (S' := [.int (0 : Int32), .int (1 : Int32)]) (w' := px_w K s t) (q := []) 2 hM rfl trivial ?_
  rcases px_bi_some h with ⟨v4, s1, t2, hk3, h⟩ | ⟨x5, s1, t2, hk3, h⟩
  · refine px_E_call hM rfl rfl rfl rfl (px_E_mono (by decide) (e_M_at K N (1 : Int32) (0 : Int32) s t _ hk3)) ?_
    refine px_blk (i' := 4) (L' := [some (.ref 28), some (.int v4)]) (S' := []) (w' := px_w K s1 t2) (q := []) 1 hM rfl trivial ?_
    rcases px_lp_some h with ⟨i6, vs7, s8, t9, hl10, h⟩ | ⟨z11, hl10, h⟩
    · by_cases hi12 : i6 = 16
      · subst hi12
        rw [if_pos rfl] at h
        have h9 := px_v0_some h
        clear h
        obtain ⟨rfl, h⟩ := h9
        refine e_l_M_newFlash_28_4 K N N v4 s1 t2 _ hl10 _ _ ?_
        show px_E px_ET px_P 2 93 16 [some (.ref 28), none] [] (px_w K s8 t9) _ _
        obtain ⟨hq13, h⟩ := px_gd_some h
        refine px_blk (i' := 21) (L' := [some (.ref 28), none]) (S' := []) (w' := px_w K (sA s8 30 (1 : Int32).toNatClampNeg (0 : Int32)) t9) (q := [vp_in (1 : Int32) (K.2.2 30)]) 5 hM rfl (show vp_in (1 : Int32) (K.2.2 30) from hq13) ?_
        obtain ⟨s14, hs15, h⟩ := px_let_some h
        rw [← hs15]
        cases h
        exact px_E_ret hM rfl rfl rfl trivial
      · rw [if_neg hi12] at h
        cases h
    · cases h
      exact e_l_M_newFlash_28_4 K N N v4 s1 t2 _ hl10 _ _ ⟨rfl, rfl⟩
  · cases h
noncomputable def f_M_lose_28 (K : px_K) (N : Nat) (a0 : Int64) (s : px_S) (t : px_W) : Option px_Res :=
  (px_let (sR s 25 (0 : Int32)) (fun s1 => (px_bv (f_M_newFlash_28 K N s1 t) (fun s3 t4 => (if (s3.1 29) = 0 then (some (.inl (some (.int (1 : Int32))), s3, t4)) else (px_bv (f_M_goes_28 K N a0 s3 t4) (fun s9 t10 => (some (.inl (some (.int (1 : Int32))), s9, t10))) (fun x13 s9 t10 => none)))) (fun x7 s3 t4 => none))))
set_option maxRecDepth 100000 in
theorem e_M_lose_28 (K : px_K) (N : Nat) (a0 : Int64) (s : px_S) (t : px_W) (r : px_Res) (h : f_M_lose_28 K N a0 s t = some r) : px_E px_ET px_P 4 94 0 (px_ent 3 [.ref 28, .long a0]) [] (px_w K s t) r.1 (px_w K r.2.1 r.2.2) := by
  have hM : px_P[94]? = some pm_M_lose := rfl
  unfold f_M_lose_28 at h
  refine px_blk (i' := 3) (L' := [some (.ref 28), some (.long a0), none]) (S' := []) (w' := px_w K (sR s 25 (0 : Int32)) t) (q := []) 3 hM rfl trivial ?_
  obtain ⟨s1, hs2, h⟩ := px_let_some h
  rw [← hs2]
  refine px_blk (i' := 4) (L' := [some (.ref 28), some (.long a0), none]) (S' := [.ref 28]) (w' := px_w K s1 t) (q := []) 1 hM rfl trivial ?_
  rcases px_bv_some h with ⟨s3, t4, hk5, h⟩ | ⟨x7, s3, t4, hk5, h⟩
  · refine px_E_call hM rfl rfl rfl rfl (px_E_mono (by decide) (e_M_newFlash_28 K N s1 t _ hk5)) ?_
    refine px_blkif (c := (s3.1 29) = 0) (t := 11) (e := 8) (L' := [some (.ref 28), some (.long a0), none]) (S' := []) (w' := px_w K s3 t4) (q := []) 3 hM rfl trivial (fun hc8 => ?_) (fun hc8 => ?_)
    · rw [if_pos hc8] at h
      refine px_blk (i' := 12) (L' := [some (.ref 28), some (.long a0), none]) (S' := [.int (1 : Int32)]) (w' := px_w K s3 t4) (q := []) 1 hM rfl trivial ?_
      cases h
      exact px_E_ret hM rfl rfl rfl (show (1 : Int32) = 0 ∨ (1 : Int32) = 1 from Or.inr rfl)
    · rw [if_neg hc8] at h
      refine px_blk (i' := 10) (L' := [some (.ref 28), some (.long a0), none]) (S' := [.long a0, .ref 28]) (w' := px_w K s3 t4) (q := []) 2 hM rfl trivial ?_
      rcases px_bv_some h with ⟨s9, t10, hk11, h⟩ | ⟨x13, s9, t10, hk11, h⟩
      · refine px_E_call hM rfl rfl rfl rfl (px_E_mono (by decide) (e_M_goes_28 K N a0 s3 t4 _ hk11)) ?_
        refine px_blk (i' := 12) (L' := [some (.ref 28), some (.long a0), none]) (S' := [.int (1 : Int32)]) (w' := px_w K s9 t10) (q := []) 1 hM rfl trivial ?_
        cases h
        exact px_E_ret hM rfl rfl rfl (show (1 : Int32) = 0 ∨ (1 : Int32) = 1 from Or.inr rfl)
      · cases h
  · cases h
noncomputable def l_M_halfThatCounts_28_4 (K : px_K) (N : Nat) (n : Nat) (m1 : Int32) (m2 : Int32) (s : px_S) (t : px_W) : Option px_LO := match n with
  | 0 => none
  | n + 1 => (if (2 : Int32) ≤ m2 then (some (.inl (47, [m1], s, t))) else (px_bi (f_M_read_28 K N (1 : Int32) ((25 : Int32) * m2) (1 : Int32) s t) (fun v5 s2 t3 => (px_bi (f_M_read_28 K N (0 : Int32) (0 : Int32) (0 : Int32) s2 t3) (fun v10 s7 t8 => (if ¬ v5 = v10 then (if (0 : Int32) = 0 then (l_M_halfThatCounts_28_4 K N n m1 (m2 + (1 : Int32)) s7 t8) else (if m1 < 0 then (l_M_halfThatCounts_28_4 K N n m2 (m2 + (1 : Int32)) s7 t8) else (px_bi (f_M_read_28 K N (1 : Int32) ((25 : Int32) * m2) (0 : Int32) s7 t8) (fun v18 s15 t16 => (px_bi (f_M_read_28 K N (1 : Int32) ((25 : Int32) * m1) (0 : Int32) s15 t16) (fun v23 s20 t21 => (if v18 ≤ v23 then (l_M_halfThatCounts_28_4 K N n m1 (m2 + (1 : Int32)) s20 t21) else (l_M_halfThatCounts_28_4 K N n m2 (m2 + (1 : Int32)) s20 t21))) (fun x24 s20 t21 => none))) (fun x19 s15 t16 => none)))) else (if (1 : Int32) = 0 then (l_M_halfThatCounts_28_4 K N n m1 (m2 + (1 : Int32)) s7 t8) else (if m1 < 0 then (l_M_halfThatCounts_28_4 K N n m2 (m2 + (1 : Int32)) s7 t8) else (px_bi (f_M_read_28 K N (1 : Int32) ((25 : Int32) * m2) (0 : Int32) s7 t8) (fun v31 s28 t29 => (px_bi (f_M_read_28 K N (1 : Int32) ((25 : Int32) * m1) (0 : Int32) s28 t29) (fun v36 s33 t34 => (if v31 ≤ v36 then (l_M_halfThatCounts_28_4 K N n m1 (m2 + (1 : Int32)) s33 t34) else (l_M_halfThatCounts_28_4 K N n m2 (m2 + (1 : Int32)) s33 t34))) (fun x37 s33 t34 => none))) (fun x32 s28 t29 => none)))))) (fun x11 s7 t8 => none))) (fun x6 s2 t3 => none)))
def a_l_M_halfThatCounts_28_4 (K : px_K) (z : px_LO) (o : Option Value ⊕ Nat) (w2 : px_W) : Prop := match z with
  | .inr (o', s', t') => o = o' ∧ w2 = px_w K s' t'
  | .inl (47, [y1], s', t') => px_E px_ET px_P 3 95 47 [none, some (.int y1), none, none] [] (px_w K s' t') o w2
  | _ => False
set_option maxRecDepth 100000 in
theorem e_l_M_halfThatCounts_28_4 (K : px_K) (N : Nat) : ∀ (n : Nat) (m1 : Int32) (m2 : Int32) (s : px_S) (t : px_W) (z : px_LO), l_M_halfThatCounts_28_4 K N n m1 m2 s t = some z → ∀ (o : Option Value ⊕ Nat) (w2 : px_W), a_l_M_halfThatCounts_28_4 K z o w2 → px_E px_ET px_P 3 95 4 [some (.ref 28), some (.int m1), some (.int m2), none] [] (px_w K s t) o w2 := by
  have hM : px_P[95]? = some pm_M_halfThatCounts := rfl
  intro n
  induction n with
  | zero => intro m1 m2 s t z h; cases h
  | succ n ih =>
    intro m1 m2 s t z h o w2 ha
    unfold l_M_halfThatCounts_28_4 at h
    refine px_blkif (c := (2 : Int32) ≤ m2) (t := 47) (e := 7) (L' := [some (.ref 28), some (.int m1), some (.int m2), none]) (S' := []) (w' := px_w K s t) (q := []) 3 hM rfl trivial (fun hc1 => ?_) (fun hc1 => ?_)
    · rw [if_pos hc1] at h
      cases h
      exact px_E_le (px_leC_L _ _ (by simp [px_leC, px_le1, Value.category])) ha
    · rw [if_neg hc1] at h
      refine px_blk (i' := 13) (L' := [some (.ref 28), some (.int m1), some (.int m2), none]) (S' := [.int (1 : Int32), .int ((25 : Int32) * m2), .int (1 : Int32), .ref 28]) (w' := px_w K s t) (q := []) 6 hM rfl trivial ?_
      rcases px_bi_some h with ⟨v5, s2, t3, hk4, h⟩ | ⟨x6, s2, t3, hk4, h⟩
      · refine px_E_call hM rfl rfl rfl rfl (px_E_mono (by decide) (e_M_read_28 K N (1 : Int32) ((25 : Int32) * m2) (1 : Int32) s t _ hk4)) ?_
        refine px_blk (i' := 18) (L' := [some (.ref 28), some (.int m1), some (.int m2), none]) (S' := [.int (0 : Int32), .int (0 : Int32), .int (0 : Int32), .ref 28, .int v5]) (w' := px_w K s2 t3) (q := []) 4 hM rfl trivial ?_
        rcases px_bi_some h with ⟨v10, s7, t8, hk9, h⟩ | ⟨x11, s7, t8, hk9, h⟩
        · refine px_E_call hM rfl rfl rfl rfl (px_E_mono (by decide) (e_M_read_28 K N (0 : Int32) (0 : Int32) (0 : Int32) s2 t3 _ hk9)) ?_
          refine px_blkif (c := ¬ v5 = v10) (t := 22) (e := 20) (L' := [some (.ref 28), some (.int m1), some (.int m2), none]) (S' := []) (w' := px_w K s7 t8) (q := []) 1 hM rfl trivial (fun hc12 => ?_) (fun hc12 => ?_)
          · rw [if_pos hc12] at h
            refine px_blkif (c := (0 : Int32) = 0) (t := 45) (e := 26) (L' := [some (.ref 28), some (.int m1), some (.int m2), some (.int (0 : Int32))]) (S' := []) (w' := px_w K s7 t8) (q := []) 4 hM rfl trivial (fun hc13 => ?_) (fun hc13 => ?_)
            · rw [if_pos hc13] at h
              refine px_blk (i' := 4) (L' := [some (.ref 28), some (.int m1), some (.int (m2 + (1 : Int32))), some (.int (0 : Int32))]) (S' := []) (w' := px_w K s7 t8) (q := []) 2 hM rfl trivial ?_
              exact px_E_le (px_leC_L _ _ (by simp [px_leC, px_le1, Value.category])) (ih m1 (m2 + (1 : Int32)) s7 t8 z h o w2 ha)
            · rw [if_neg hc13] at h
              refine px_blkif (c := m1 < 0) (t := 43) (e := 28) (L' := [some (.ref 28), some (.int m1), some (.int m2), some (.int (0 : Int32))]) (S' := []) (w' := px_w K s7 t8) (q := []) 2 hM rfl trivial (fun hc14 => ?_) (fun hc14 => ?_)
              · rw [if_pos hc14] at h
                refine px_blk (i' := 4) (L' := [some (.ref 28), some (.int m2), some (.int (m2 + (1 : Int32))), some (.int (0 : Int32))]) (S' := []) (w' := px_w K s7 t8) (q := []) 4 hM rfl trivial ?_
                exact px_E_le (px_leC_L _ _ (by simp [px_leC, px_le1, Value.category])) (ih m2 (m2 + (1 : Int32)) s7 t8 z h o w2 ha)
              · rw [if_neg hc14] at h
                refine px_blk (i' := 34) (L' := [some (.ref 28), some (.int m1), some (.int m2), some (.int (0 : Int32))]) (S' := [.int (0 : Int32), .int ((25 : Int32) * m2), .int (1 : Int32), .ref 28]) (w' := px_w K s7 t8) (q := []) 6 hM rfl trivial ?_
                rcases px_bi_some h with ⟨v18, s15, t16, hk17, h⟩ | ⟨x19, s15, t16, hk17, h⟩
                · refine px_E_call hM rfl rfl rfl rfl (px_E_mono (by decide) (e_M_read_28 K N (1 : Int32) ((25 : Int32) * m2) (0 : Int32) s7 t8 _ hk17)) ?_
                  refine px_blk (i' := 41) (L' := [some (.ref 28), some (.int m1), some (.int m2), some (.int (0 : Int32))]) (S' := [.int (0 : Int32), .int ((25 : Int32) * m1), .int (1 : Int32), .ref 28, .int v18]) (w' := px_w K s15 t16) (q := []) 6 hM rfl trivial ?_
                  rcases px_bi_some h with ⟨v23, s20, t21, hk22, h⟩ | ⟨x24, s20, t21, hk22, h⟩
                  · refine px_E_call hM rfl rfl rfl rfl (px_E_mono (by decide) (e_M_read_28 K N (1 : Int32) ((25 : Int32) * m1) (0 : Int32) s15 t16 _ hk22)) ?_
                    refine px_blkif (c := v18 ≤ v23) (t := 45) (e := 43) (L' := [some (.ref 28), some (.int m1), some (.int m2), some (.int (0 : Int32))]) (S' := []) (w' := px_w K s20 t21) (q := []) 1 hM rfl trivial (fun hc25 => ?_) (fun hc25 => ?_)
                    · rw [if_pos hc25] at h
                      refine px_blk (i' := 4) (L' := [some (.ref 28), some (.int m1), some (.int (m2 + (1 : Int32))), some (.int (0 : Int32))]) (S' := []) (w' := px_w K s20 t21) (q := []) 2 hM rfl trivial ?_
                      exact px_E_le (px_leC_L _ _ (by simp [px_leC, px_le1, Value.category])) (ih m1 (m2 + (1 : Int32)) s20 t21 z h o w2 ha)
                    · rw [if_neg hc25] at h
                      refine px_blk (i' := 4) (L' := [some (.ref 28), some (.int m2), some (.int (m2 + (1 : Int32))), some (.int (0 : Int32))]) (S' := []) (w' := px_w K s20 t21) (q := []) 4 hM rfl trivial ?_
                      exact px_E_le (px_leC_L _ _ (by simp [px_leC, px_le1, Value.category])) (ih m2 (m2 + (1 : Int32)) s20 t21 z h o w2 ha)
                  · cases h
                · cases h
          · rw [if_neg hc12] at h
            refine px_blkif (c := (1 : Int32) = 0) (t := 45) (e := 26) (L' := [some (.ref 28), some (.int m1), some (.int m2), some (.int (1 : Int32))]) (S' := []) (w' := px_w K s7 t8) (q := []) 5 hM rfl trivial (fun hc26 => ?_) (fun hc26 => ?_)
            · rw [if_pos hc26] at h
              refine px_blk (i' := 4) (L' := [some (.ref 28), some (.int m1), some (.int (m2 + (1 : Int32))), some (.int (1 : Int32))]) (S' := []) (w' := px_w K s7 t8) (q := []) 2 hM rfl trivial ?_
              exact px_E_le (px_leC_L _ _ (by simp [px_leC, px_le1, Value.category])) (ih m1 (m2 + (1 : Int32)) s7 t8 z h o w2 ha)
            · rw [if_neg hc26] at h
              refine px_blkif (c := m1 < 0) (t := 43) (e := 28) (L' := [some (.ref 28), some (.int m1), some (.int m2), some (.int (1 : Int32))]) (S' := []) (w' := px_w K s7 t8) (q := []) 2 hM rfl trivial (fun hc27 => ?_) (fun hc27 => ?_)
              · rw [if_pos hc27] at h
                refine px_blk (i' := 4) (L' := [some (.ref 28), some (.int m2), some (.int (m2 + (1 : Int32))), some (.int (1 : Int32))]) (S' := []) (w' := px_w K s7 t8) (q := []) 4 hM rfl trivial ?_
                exact px_E_le (px_leC_L _ _ (by simp [px_leC, px_le1, Value.category])) (ih m2 (m2 + (1 : Int32)) s7 t8 z h o w2 ha)
              · rw [if_neg hc27] at h
                refine px_blk (i' := 34) (L' := [some (.ref 28), some (.int m1), some (.int m2), some (.int (1 : Int32))]) (S' := [.int (0 : Int32), .int ((25 : Int32) * m2), .int (1 : Int32), .ref 28]) (w' := px_w K s7 t8) (q := []) 6 hM rfl trivial ?_
                rcases px_bi_some h with ⟨v31, s28, t29, hk30, h⟩ | ⟨x32, s28, t29, hk30, h⟩
                · refine px_E_call hM rfl rfl rfl rfl (px_E_mono (by decide) (e_M_read_28 K N (1 : Int32) ((25 : Int32) * m2) (0 : Int32) s7 t8 _ hk30)) ?_
                  refine px_blk (i' := 41) (L' := [some (.ref 28), some (.int m1), some (.int m2), some (.int (1 : Int32))]) (S' := [.int (0 : Int32), .int ((25 : Int32) * m1), .int (1 : Int32), .ref 28, .int v31]) (w' := px_w K s28 t29) (q := []) 6 hM rfl trivial ?_
                  rcases px_bi_some h with ⟨v36, s33, t34, hk35, h⟩ | ⟨x37, s33, t34, hk35, h⟩
                  · refine px_E_call hM rfl rfl rfl rfl (px_E_mono (by decide) (e_M_read_28 K N (1 : Int32) ((25 : Int32) * m1) (0 : Int32) s28 t29 _ hk35)) ?_
                    refine px_blkif (c := v31 ≤ v36) (t := 45) (e := 43) (L' := [some (.ref 28), some (.int m1), some (.int m2), some (.int (1 : Int32))]) (S' := []) (w' := px_w K s33 t34) (q := []) 1 hM rfl trivial (fun hc38 => ?_) (fun hc38 => ?_)
                    · rw [if_pos hc38] at h
                      refine px_blk (i' := 4) (L' := [some (.ref 28), some (.int m1), some (.int (m2 + (1 : Int32))), some (.int (1 : Int32))]) (S' := []) (w' := px_w K s33 t34) (q := []) 2 hM rfl trivial ?_
                      exact px_E_le (px_leC_L _ _ (by simp [px_leC, px_le1, Value.category])) (ih m1 (m2 + (1 : Int32)) s33 t34 z h o w2 ha)
                    · rw [if_neg hc38] at h
                      refine px_blk (i' := 4) (L' := [some (.ref 28), some (.int m2), some (.int (m2 + (1 : Int32))), some (.int (1 : Int32))]) (S' := []) (w' := px_w K s33 t34) (q := []) 4 hM rfl trivial ?_
                      exact px_E_le (px_leC_L _ _ (by simp [px_leC, px_le1, Value.category])) (ih m2 (m2 + (1 : Int32)) s33 t34 z h o w2 ha)
                  · cases h
                · cases h
        · cases h
      · cases h
noncomputable def f_M_halfThatCounts_28 (K : px_K) (N : Nat) (s : px_S) (t : px_W) : Option px_Res :=
  (px_lp (l_M_halfThatCounts_28_4 K N N (-1 : Int32) (0 : Int32) s t) (fun i1 vs2 s3 t4 => (if i1 = 47 then (px_v1 vs2 (fun y7 => (some (.inl (some (.int y7)), s3, t4)))) else none)) (fun z6 => some z6))
set_option maxRecDepth 100000 in
theorem e_M_halfThatCounts_28 (K : px_K) (N : Nat) (s : px_S) (t : px_W) (r : px_Res) (h : f_M_halfThatCounts_28 K N s t = some r) : px_E px_ET px_P 3 95 0 (px_ent 4 [.ref 28]) [] (px_w K s t) r.1 (px_w K r.2.1 r.2.2) := by
  have hM : px_P[95]? = some pm_M_halfThatCounts := rfl
  unfold f_M_halfThatCounts_28 at h
  refine px_blk (i' := 4) (L' := [some (.ref 28), some (.int (-1 : Int32)), some (.int (0 : Int32)), none]) (S' := []) (w' := px_w K s t) (q := []) 4 hM rfl trivial ?_
  rcases px_lp_some h with ⟨i1, vs2, s3, t4, hl5, h⟩ | ⟨z6, hl5, h⟩
  · by_cases hi8 : i1 = 47
    · subst hi8
      rw [if_pos rfl] at h
      have h9 := px_v1_some h
      clear h
      obtain ⟨y7, rfl, h⟩ := h9
      refine e_l_M_halfThatCounts_28_4 K N N (-1 : Int32) (0 : Int32) s t _ hl5 _ _ ?_
      show px_E px_ET px_P 3 95 47 [none, some (.int y7), none, none] [] (px_w K s3 t4) _ _
      refine px_blk (i' := 48) (L' := [none, some (.int y7), none, none]) (S' := [.int y7]) (w' := px_w K s3 t4) (q := []) 1 hM rfl trivial ?_
      cases h
      exact px_E_ret hM rfl rfl rfl trivial
    · rw [if_neg hi8] at h
      cases h
  · cases h
    exact e_l_M_halfThatCounts_28_4 K N N (-1 : Int32) (0 : Int32) s t _ hl5 _ _ ⟨rfl, rfl⟩
noncomputable def l_M_redo_28_19 (K : px_K) (N : Nat) (n : Nat) (u1 : Int32) (u2 : Int32) (m3 : Int32) (s : px_S) (t : px_W) : Option px_LO := match n with
  | 0 => none
  | n + 1 => (if u2 ≤ m3 then (some (.inl (46, [], s, t))) else (px_bv (f_M_copy_28_43 K N (0 : Int32) ((3 : Int32) + m3) (0 : Int32) s t) (fun s2 t3 => (px_bi (f_M_read_28 K N (0 : Int32) (2 : Int32) m3 s2 t3) (fun v10 s7 t8 => (px_bv (f_M_write_28_43 K N (0 : Int32) ((19 : Int32) + v10) (0 : Int32) s7 t8) (fun s12 t13 => (l_M_redo_28_19 K N n u1 u2 (m3 + (1 : Int32)) s12 t13)) (fun x16 s12 t13 => none))) (fun x11 s7 t8 => none))) (fun x6 s2 t3 => none)))
def a_l_M_redo_28_19 (K : px_K) (u1 : Int32) (u2 : Int32) (z : px_LO) (o : Option Value ⊕ Nat) (w2 : px_W) : Prop := match z with
  | .inr (o', s', t') => o = o' ∧ w2 = px_w K s' t'
  | .inl (46, [], s', t') => px_E px_ET px_P 6 97 46 [some (.ref 28), some (.int u1), none, none] [] (px_w K s' t') o w2
  | _ => False
set_option maxRecDepth 100000 in
theorem e_l_M_redo_28_19 (K : px_K) (N : Nat) (u1 : Int32) (u2 : Int32) : ∀ (n : Nat) (m3 : Int32) (s : px_S) (t : px_W) (z : px_LO), l_M_redo_28_19 K N n u1 u2 m3 s t = some z → ∀ (o : Option Value ⊕ Nat) (w2 : px_W), a_l_M_redo_28_19 K u1 u2 z o w2 → px_E px_ET px_P 6 97 19 [some (.ref 28), some (.int u1), some (.int u2), some (.int m3)] [] (px_w K s t) o w2 := by
  have hM : px_P[97]? = some pm_M_redo := rfl
  intro n
  induction n with
  | zero => intro m3 s t z h; cases h
  | succ n ih =>
    intro m3 s t z h o w2 ha
    unfold l_M_redo_28_19 at h
    refine px_blkif (c := u2 ≤ m3) (t := 46) (e := 22) (L' := [some (.ref 28), some (.int u1), some (.int u2), some (.int m3)]) (S' := []) (w' := px_w K s t) (q := []) 3 hM rfl trivial (fun hc1 => ?_) (fun hc1 => ?_)
    · rw [if_pos hc1] at h
      cases h
      exact px_E_le (px_leC_L _ _ (by simp [px_leC, px_le1, Value.category])) ha
    · rw [if_neg hc1] at h
      refine px_blk (i' := 30) (L' := [some (.ref 28), some (.int u1), some (.int u2), some (.int m3)]) (S' := [.int (0 : Int32), .ref 43, .int ((3 : Int32) + m3), .int (0 : Int32), .ref 28]) (w' := px_w K s t) (q := []) 8 hM rfl trivial ?_
      rcases px_bv_some h with ⟨s2, t3, hk4, h⟩ | ⟨x6, s2, t3, hk4, h⟩
      · refine px_E_call hM rfl rfl rfl rfl (px_E_mono (by decide) (e_M_copy_28_43 K N (0 : Int32) ((3 : Int32) + m3) (0 : Int32) s t _ hk4)) ?_
        refine px_blk (i' := 38) (L' := [some (.ref 28), some (.int u1), some (.int u2), some (.int m3)]) (S' := [.int m3, .int (2 : Int32), .int (0 : Int32), .ref 28, .int (19 : Int32), .int (0 : Int32), .ref 28]) (w' := px_w K s2 t3) (q := []) 7 hM rfl trivial ?_
        rcases px_bi_some h with ⟨v10, s7, t8, hk9, h⟩ | ⟨x11, s7, t8, hk9, h⟩
        · refine px_E_call hM rfl rfl rfl rfl (px_E_mono (by decide) (e_M_read_28 K N (0 : Int32) (2 : Int32) m3 s2 t3 _ hk9)) ?_
          refine px_blk (i' := 43) (L' := [some (.ref 28), some (.int u1), some (.int u2), some (.int m3)]) (S' := [.int (0 : Int32), .ref 43, .int ((19 : Int32) + v10), .int (0 : Int32), .ref 28]) (w' := px_w K s7 t8) (q := []) 4 hM rfl trivial ?_
          rcases px_bv_some h with ⟨s12, t13, hk14, h⟩ | ⟨x16, s12, t13, hk14, h⟩
          · refine px_E_call hM rfl rfl rfl rfl (px_E_mono (by decide) (e_M_write_28_43 K N (0 : Int32) ((19 : Int32) + v10) (0 : Int32) s7 t8 _ hk14)) ?_
            refine px_blk (i' := 19) (L' := [some (.ref 28), some (.int u1), some (.int u2), some (.int (m3 + (1 : Int32)))]) (S' := []) (w' := px_w K s12 t13) (q := []) 2 hM rfl trivial ?_
            exact ih (m3 + (1 : Int32)) s12 t13 z h o w2 ha
          · cases h
        · cases h
      · cases h
noncomputable def f_M_redo_28 (K : px_K) (N : Nat) (s : px_S) (t : px_W) : Option px_Res :=
  (px_bi (f_M_read_28 K N (0 : Int32) (1 : Int32) (0 : Int32) s t) (fun v4 s1 t2 => (if v4 = (1 : Int32) then (px_bi (f_M_landed_28 K N s1 t2) (fun v10 s7 t8 => (px_bi (f_M_read_28 K N (0 : Int32) (1 : Int32) (2 : Int32) s7 t8) (fun v15 s12 t13 => (px_lp (l_M_redo_28_19 K N N v10 v15 (0 : Int32) s12 t13) (fun i17 vs18 s19 t20 => (if i17 = 46 then (px_v0 vs18 (px_bv (f_M_flush_28 K N (0 : Int32) s19 t20) (fun s24 t25 => (px_bv (f_M_three_28_43 K N (0 : Int32) v10 (0 : Int32) s24 t25) (fun s29 t30 => (px_bv (f_M_write_28_43 K N (0 : Int32) (1 : Int32) (0 : Int32) s29 t30) (fun s34 t35 => (px_bv (f_M_flush_28 K N (0 : Int32) s34 t35) (fun s39 t40 => (some (.inl none, s39, t40))) (fun x43 s39 t40 => none))) (fun x38 s34 t35 => none))) (fun x33 s29 t30 => none))) (fun x28 s24 t25 => none))) else none)) (fun z22 => some z22))) (fun x16 s12 t13 => none))) (fun x11 s7 t8 => none)) else (some (.inl none, s1, t2)))) (fun x5 s1 t2 => none))
set_option maxRecDepth 100000 in
theorem e_M_redo_28 (K : px_K) (N : Nat) (s : px_S) (t : px_W) (r : px_Res) (h : f_M_redo_28 K N s t = some r) : px_E px_ET px_P 6 97 0 (px_ent 4 [.ref 28]) [] (px_w K s t) r.1 (px_w K r.2.1 r.2.2) := by
  have hM : px_P[97]? = some pm_M_redo := rfl
  unfold f_M_redo_28 at h
  refine px_blk (i' := 4) (L' := [some (.ref 28), none, none, none]) (S' := [.int (0 : Int32), .int (1 : Int32), .int (0 : Int32), .ref 28]) (w' := px_w K s t) (q := []) 4 hM rfl trivial ?_
  rcases px_bi_some h with ⟨v4, s1, t2, hk3, h⟩ | ⟨x5, s1, t2, hk3, h⟩
  · refine px_E_call hM rfl rfl rfl rfl (px_E_mono (by decide) (e_M_read_28 K N (0 : Int32) (1 : Int32) (0 : Int32) s t _ hk3)) ?_
    refine px_blkif (c := v4 = (1 : Int32)) (t := 8) (e := 7) (L' := [some (.ref 28), none, none, none]) (S' := []) (w' := px_w K s1 t2) (q := []) 2 hM rfl trivial (fun hc6 => ?_) (fun hc6 => ?_)
    · rw [if_pos hc6] at h
      refine px_blk (i' := 9) (L' := [some (.ref 28), none, none, none]) (S' := [.ref 28]) (w' := px_w K s1 t2) (q := []) 1 hM rfl trivial ?_
      rcases px_bi_some h with ⟨v10, s7, t8, hk9, h⟩ | ⟨x11, s7, t8, hk9, h⟩
      · refine px_E_call hM rfl rfl rfl rfl (px_E_mono (by decide) (e_M_landed_28 K N s1 t2 _ hk9)) ?_
        refine px_blk (i' := 15) (L' := [some (.ref 28), some (.int v10), none, none]) (S' := [.int (2 : Int32), .int (1 : Int32), .int (0 : Int32), .ref 28]) (w' := px_w K s7 t8) (q := []) 5 hM rfl trivial ?_
        rcases px_bi_some h with ⟨v15, s12, t13, hk14, h⟩ | ⟨x16, s12, t13, hk14, h⟩
        · refine px_E_call hM rfl rfl rfl rfl (px_E_mono (by decide) (e_M_read_28 K N (0 : Int32) (1 : Int32) (2 : Int32) s7 t8 _ hk14)) ?_
          refine px_blk (i' := 19) (L' := [some (.ref 28), some (.int v10), some (.int v15), some (.int (0 : Int32))]) (S' := []) (w' := px_w K s12 t13) (q := []) 3 hM rfl trivial ?_
          rcases px_lp_some h with ⟨i17, vs18, s19, t20, hl21, h⟩ | ⟨z22, hl21, h⟩
          · by_cases hi23 : i17 = 46
            · subst hi23
              rw [if_pos rfl] at h
              have h9 := px_v0_some h
              clear h
              obtain ⟨rfl, h⟩ := h9
              refine e_l_M_redo_28_19 K N v10 v15 N (0 : Int32) s12 t13 _ hl21 _ _ ?_
              show px_E px_ET px_P 6 97 46 [some (.ref 28), some (.int v10), none, none] [] (px_w K s19 t20) _ _
              refine px_blk (i' := 48) (L' := [some (.ref 28), some (.int v10), none, none]) (S' := [.int (0 : Int32), .ref 28]) (w' := px_w K s19 t20) (q := []) 2 hM rfl trivial ?_
              rcases px_bv_some h with ⟨s24, t25, hk26, h⟩ | ⟨x28, s24, t25, hk26, h⟩
              · refine px_E_call hM rfl rfl rfl rfl (px_E_mono (by decide) (e_M_flush_28 K N (0 : Int32) s19 t20 _ hk26)) ?_
                refine px_blk (i' := 55) (L' := [some (.ref 28), some (.int v10), none, none]) (S' := [.int (0 : Int32), .int v10, .int (0 : Int32), .ref 43, .ref 28]) (w' := px_w K s24 t25) (q := []) 6 hM rfl trivial ?_
                rcases px_bv_some h with ⟨s29, t30, hk31, h⟩ | ⟨x33, s29, t30, hk31, h⟩
                · refine px_E_call hM rfl rfl rfl rfl (px_E_mono (by decide) (e_M_three_28_43 K N (0 : Int32) v10 (0 : Int32) s24 t25 _ hk31)) ?_
                  refine px_blk (i' := 62) (L' := [some (.ref 28), some (.int v10), none, none]) (S' := [.int (0 : Int32), .ref 43, .int (1 : Int32), .int (0 : Int32), .ref 28]) (w' := px_w K s29 t30) (q := []) 6 hM rfl trivial ?_
                  rcases px_bv_some h with ⟨s34, t35, hk36, h⟩ | ⟨x38, s34, t35, hk36, h⟩
                  · refine px_E_call hM rfl rfl rfl rfl (px_E_mono (by decide) (e_M_write_28_43 K N (0 : Int32) (1 : Int32) (0 : Int32) s29 t30 _ hk36)) ?_
                    refine px_blk (i' := 65) (L' := [some (.ref 28), some (.int v10), none, none]) (S' := [.int (0 : Int32), .ref 28]) (w' := px_w K s34 t35) (q := []) 2 hM rfl trivial ?_
                    rcases px_bv_some h with ⟨s39, t40, hk41, h⟩ | ⟨x43, s39, t40, hk41, h⟩
                    · refine px_E_call hM rfl rfl rfl rfl (px_E_mono (by decide) (e_M_flush_28 K N (0 : Int32) s34 t35 _ hk41)) ?_
                      cases h
                      exact px_E_ret hM rfl rfl rfl trivial
                    · cases h
                  · cases h
                · cases h
              · cases h
            · rw [if_neg hi23] at h
              cases h
          · cases h
            exact e_l_M_redo_28_19 K N v10 v15 N (0 : Int32) s12 t13 _ hl21 _ _ ⟨rfl, rfl⟩
        · cases h
      · cases h
    · rw [if_neg hc6] at h
      cases h
      exact px_E_ret hM rfl rfl rfl trivial
  · cases h
noncomputable def f_M_wordThere_28 (K : px_K) (N : Nat) (a0 : Int32) (a1 : Int32) (s : px_S) (t : px_W) : Option px_Res :=
  (if (s.1 31) = 0 then (if (-1 : Int32) < 0 then (px_bi (f_M_read_28 K N (0 : Int32) ((19 : Int32) + a0) a1 s t) (fun v6 s3 t4 => (some (.inl (some (.int v6)), s3, t4))) (fun x7 s3 t4 => none)) else (px_bi (f_M_read_28 K N (1 : Int32) ((50 : Int32) + (-1 : Int32)) a1 s t) (fun v11 s8 t9 => (some (.inl (some (.int v11)), s8, t9))) (fun x12 s8 t9 => none))) else (px_bi (f_M_newest_28 K N a0 s t) (fun v16 s13 t14 => (if v16 < 0 then (px_bi (f_M_read_28 K N (0 : Int32) ((19 : Int32) + a0) a1 s13 t14) (fun v22 s19 t20 => (some (.inl (some (.int v22)), s19, t20))) (fun x23 s19 t20 => none)) else (px_bi (f_M_read_28 K N (1 : Int32) ((50 : Int32) + v16) a1 s13 t14) (fun v27 s24 t25 => (some (.inl (some (.int v27)), s24, t25))) (fun x28 s24 t25 => none)))) (fun x17 s13 t14 => none)))
set_option maxRecDepth 100000 in
theorem e_M_wordThere_28 (K : px_K) (N : Nat) (a0 : Int32) (a1 : Int32) (s : px_S) (t : px_W) (r : px_Res) (h : f_M_wordThere_28 K N a0 a1 s t = some r) : px_E px_ET px_P 3 101 0 (px_ent 4 [.ref 28, .int a0, .int a1]) [] (px_w K s t) r.1 (px_w K r.2.1 r.2.2) := by
  have hM : px_P[101]? = some pm_M_wordThere := rfl
  unfold f_M_wordThere_28 at h
  refine px_blkif (c := (s.1 31) = 0) (t := 7) (e := 3) (L' := [some (.ref 28), some (.int a0), some (.int a1), none]) (S' := []) (w' := px_w K s t) (q := []) 3 hM rfl trivial (fun hc1 => ?_) (fun hc1 => ?_)
  · rw [if_pos hc1] at h
    refine px_blkif (c := (-1 : Int32) < 0) (t := 19) (e := 11) (L' := [some (.ref 28), some (.int a0), some (.int a1), some (.int (-1 : Int32))]) (S' := []) (w' := px_w K s t) (q := []) 4 hM rfl trivial (fun hc2 => ?_) (fun hc2 => ?_)
    · rw [if_pos hc2] at h
      refine px_blk (i' := 25) (L' := [some (.ref 28), some (.int a0), some (.int a1), some (.int (-1 : Int32))]) (S' := [.int a1, .int ((19 : Int32) + a0), .int (0 : Int32), .ref 28]) (w' := px_w K s t) (q := []) 6 hM rfl trivial ?_
      rcases px_bi_some h with ⟨v6, s3, t4, hk5, h⟩ | ⟨x7, s3, t4, hk5, h⟩
      · refine px_E_call hM rfl rfl rfl rfl (px_E_mono (by decide) (e_M_read_28 K N (0 : Int32) ((19 : Int32) + a0) a1 s t _ hk5)) ?_
        cases h
        exact px_E_ret hM rfl rfl rfl trivial
      · cases h
    · rw [if_neg hc2] at h
      refine px_blk (i' := 17) (L' := [some (.ref 28), some (.int a0), some (.int a1), some (.int (-1 : Int32))]) (S' := [.int a1, .int ((50 : Int32) + (-1 : Int32)), .int (1 : Int32), .ref 28]) (w' := px_w K s t) (q := []) 6 hM rfl trivial ?_
      rcases px_bi_some h with ⟨v11, s8, t9, hk10, h⟩ | ⟨x12, s8, t9, hk10, h⟩
      · refine px_E_call hM rfl rfl rfl rfl (px_E_mono (by decide) (e_M_read_28 K N (1 : Int32) ((50 : Int32) + (-1 : Int32)) a1 s t _ hk10)) ?_
        refine px_blk (i' := 26) (L' := [some (.ref 28), some (.int a0), some (.int a1), some (.int (-1 : Int32))]) (S' := [.int v11]) (w' := px_w K s8 t9) (q := []) 1 hM rfl trivial ?_
        cases h
        exact px_E_ret hM rfl rfl rfl trivial
      · cases h
  · rw [if_neg hc1] at h
    refine px_blk (i' := 5) (L' := [some (.ref 28), some (.int a0), some (.int a1), none]) (S' := [.int a0, .ref 28]) (w' := px_w K s t) (q := []) 2 hM rfl trivial ?_
    rcases px_bi_some h with ⟨v16, s13, t14, hk15, h⟩ | ⟨x17, s13, t14, hk15, h⟩
    · refine px_E_call hM rfl rfl rfl rfl (px_E_mono (by decide) (e_M_newest_28 K N a0 s t _ hk15)) ?_
      refine px_blkif (c := v16 < 0) (t := 19) (e := 11) (L' := [some (.ref 28), some (.int a0), some (.int a1), some (.int v16)]) (S' := []) (w' := px_w K s13 t14) (q := []) 4 hM rfl trivial (fun hc18 => ?_) (fun hc18 => ?_)
      · rw [if_pos hc18] at h
        refine px_blk (i' := 25) (L' := [some (.ref 28), some (.int a0), some (.int a1), some (.int v16)]) (S' := [.int a1, .int ((19 : Int32) + a0), .int (0 : Int32), .ref 28]) (w' := px_w K s13 t14) (q := []) 6 hM rfl trivial ?_
        rcases px_bi_some h with ⟨v22, s19, t20, hk21, h⟩ | ⟨x23, s19, t20, hk21, h⟩
        · refine px_E_call hM rfl rfl rfl rfl (px_E_mono (by decide) (e_M_read_28 K N (0 : Int32) ((19 : Int32) + a0) a1 s13 t14 _ hk21)) ?_
          cases h
          exact px_E_ret hM rfl rfl rfl trivial
        · cases h
      · rw [if_neg hc18] at h
        refine px_blk (i' := 17) (L' := [some (.ref 28), some (.int a0), some (.int a1), some (.int v16)]) (S' := [.int a1, .int ((50 : Int32) + v16), .int (1 : Int32), .ref 28]) (w' := px_w K s13 t14) (q := []) 6 hM rfl trivial ?_
        rcases px_bi_some h with ⟨v27, s24, t25, hk26, h⟩ | ⟨x28, s24, t25, hk26, h⟩
        · refine px_E_call hM rfl rfl rfl rfl (px_E_mono (by decide) (e_M_read_28 K N (1 : Int32) ((50 : Int32) + v16) a1 s13 t14 _ hk26)) ?_
          refine px_blk (i' := 26) (L' := [some (.ref 28), some (.int a0), some (.int a1), some (.int v16)]) (S' := [.int v27]) (w' := px_w K s24 t25) (q := []) 1 hM rfl trivial ?_
          cases h
          exact px_E_ret hM rfl rfl rfl trivial
        · cases h
    · cases h
noncomputable def f_M_isCommit_28 (K : px_K) (N : Nat) (a0 : Int32) (s : px_S) (t : px_W) : Option px_Res :=
  (if (28 : Int32) < (a0 + (2 : Int32)) then (some (.inl (some (.int (0 : Int32))), s, t)) else (px_bi (f_M_word_28 K N a0 (0 : Int32) s t) (fun v5 s2 t3 => (if ¬ v5 = (1 : Int32) then (some (.inl (some (.int (0 : Int32))), s2, t3)) else (px_bi (f_M_word_28 K N a0 (1 : Int32) s2 t3) (fun v11 s8 t9 => (if v11 = (s8.1 36) then (px_bi (f_M_word_28 K N a0 (2 : Int32) s8 t9) (fun v17 s14 t15 => (if v17 < (1 : Int32) then (some (.inl (some (.int (0 : Int32))), s14, t15)) else (if (12 : Int32) < v17 then (some (.inl (some (.int (0 : Int32))), s14, t15)) else (if (28 : Int32) < ((a0 + v17) + (1 : Int32)) then (some (.inl (some (.int (0 : Int32))), s14, t15)) else (px_bi (f_M_word_28 K N ((a0 + v17) + (1 : Int32)) (0 : Int32) s14 t15) (fun v25 s22 t23 => (if ¬ v25 = (2 : Int32) then (some (.inl (some (.int (0 : Int32))), s22, t23)) else (px_bi (f_M_word_28 K N ((a0 + v17) + (1 : Int32)) (1 : Int32) s22 t23) (fun v31 s28 t29 => (if ¬ v31 = (s28.1 36) then (some (.inl (some (.int (0 : Int32))), s28, t29)) else (some (.inl (some (.int (1 : Int32))), s28, t29)))) (fun x32 s28 t29 => none)))) (fun x26 s22 t23 => none)))))) (fun x18 s14 t15 => none)) else (some (.inl (some (.int (0 : Int32))), s8, t9)))) (fun x12 s8 t9 => none)))) (fun x6 s2 t3 => none)))
set_option maxRecDepth 100000 in
theorem e_M_isCommit_28 (K : px_K) (N : Nat) (a0 : Int32) (s : px_S) (t : px_W) (r : px_Res) (h : f_M_isCommit_28 K N a0 s t = some r) : px_E px_ET px_P 2 103 0 (px_ent 3 [.ref 28, .int a0]) [] (px_w K s t) r.1 (px_w K r.2.1 r.2.2) := by
  have hM : px_P[103]? = some pm_M_isCommit := rfl
  unfold f_M_isCommit_28 at h
  refine px_blkif (c := (28 : Int32) < (a0 + (2 : Int32))) (t := 18) (e := 5) (L' := [some (.ref 28), some (.int a0), none]) (S' := []) (w' := px_w K s t) (q := []) 5 hM rfl trivial (fun hc1 => ?_) (fun hc1 => ?_)
  · rw [if_pos hc1] at h
    refine px_blk (i' := 19) (L' := [some (.ref 28), some (.int a0), none]) (S' := [.int (0 : Int32)]) (w' := px_w K s t) (q := []) 1 hM rfl trivial ?_
    cases h
    exact px_E_ret hM rfl rfl rfl (show (0 : Int32) = 0 ∨ (0 : Int32) = 1 from Or.inl rfl)
  · rw [if_neg hc1] at h
    refine px_blk (i' := 8) (L' := [some (.ref 28), some (.int a0), none]) (S' := [.int (0 : Int32), .int a0, .ref 28]) (w' := px_w K s t) (q := []) 3 hM rfl trivial ?_
    rcases px_bi_some h with ⟨v5, s2, t3, hk4, h⟩ | ⟨x6, s2, t3, hk4, h⟩
    · refine px_E_call hM rfl rfl rfl rfl (px_E_mono (by decide) (e_M_word_28 K N a0 (0 : Int32) s t _ hk4)) ?_
      refine px_blkif (c := ¬ v5 = (1 : Int32)) (t := 18) (e := 11) (L' := [some (.ref 28), some (.int a0), none]) (S' := []) (w' := px_w K s2 t3) (q := []) 2 hM rfl trivial (fun hc7 => ?_) (fun hc7 => ?_)
      · rw [if_pos hc7] at h
        refine px_blk (i' := 19) (L' := [some (.ref 28), some (.int a0), none]) (S' := [.int (0 : Int32)]) (w' := px_w K s2 t3) (q := []) 1 hM rfl trivial ?_
        cases h
        exact px_E_ret hM rfl rfl rfl (show (0 : Int32) = 0 ∨ (0 : Int32) = 1 from Or.inl rfl)
      · rw [if_neg hc7] at h
        refine px_blk (i' := 14) (L' := [some (.ref 28), some (.int a0), none]) (S' := [.int (1 : Int32), .int a0, .ref 28]) (w' := px_w K s2 t3) (q := []) 3 hM rfl trivial ?_
        rcases px_bi_some h with ⟨v11, s8, t9, hk10, h⟩ | ⟨x12, s8, t9, hk10, h⟩
        · refine px_E_call hM rfl rfl rfl rfl (px_E_mono (by decide) (e_M_word_28 K N a0 (1 : Int32) s2 t3 _ hk10)) ?_
          refine px_blkif (c := v11 = (s8.1 36)) (t := 20) (e := 18) (L' := [some (.ref 28), some (.int a0), none]) (S' := []) (w' := px_w K s8 t9) (q := []) 3 hM rfl trivial (fun hc13 => ?_) (fun hc13 => ?_)
          · rw [if_pos hc13] at h
            refine px_blk (i' := 23) (L' := [some (.ref 28), some (.int a0), none]) (S' := [.int (2 : Int32), .int a0, .ref 28]) (w' := px_w K s8 t9) (q := []) 3 hM rfl trivial ?_
            rcases px_bi_some h with ⟨v17, s14, t15, hk16, h⟩ | ⟨x18, s14, t15, hk16, h⟩
            · refine px_E_call hM rfl rfl rfl rfl (px_E_mono (by decide) (e_M_word_28 K N a0 (2 : Int32) s8 t9 _ hk16)) ?_
              refine px_blkif (c := v17 < (1 : Int32)) (t := 61) (e := 28) (L' := [some (.ref 28), some (.int a0), some (.int v17)]) (S' := []) (w' := px_w K s14 t15) (q := []) 4 hM rfl trivial (fun hc19 => ?_) (fun hc19 => ?_)
              · rw [if_pos hc19] at h
                refine px_blk (i' := 62) (L' := [some (.ref 28), some (.int a0), some (.int v17)]) (S' := [.int (0 : Int32)]) (w' := px_w K s14 t15) (q := []) 1 hM rfl trivial ?_
                cases h
                exact px_E_ret hM rfl rfl rfl (show (0 : Int32) = 0 ∨ (0 : Int32) = 1 from Or.inl rfl)
              · rw [if_neg hc19] at h
                refine px_blkif (c := (12 : Int32) < v17) (t := 61) (e := 31) (L' := [some (.ref 28), some (.int a0), some (.int v17)]) (S' := []) (w' := px_w K s14 t15) (q := []) 3 hM rfl trivial (fun hc20 => ?_) (fun hc20 => ?_)
                · rw [if_pos hc20] at h
                  refine px_blk (i' := 62) (L' := [some (.ref 28), some (.int a0), some (.int v17)]) (S' := [.int (0 : Int32)]) (w' := px_w K s14 t15) (q := []) 1 hM rfl trivial ?_
                  cases h
                  exact px_E_ret hM rfl rfl rfl (show (0 : Int32) = 0 ∨ (0 : Int32) = 1 from Or.inl rfl)
                · rw [if_neg hc20] at h
                  refine px_blkif (c := (28 : Int32) < ((a0 + v17) + (1 : Int32))) (t := 61) (e := 38) (L' := [some (.ref 28), some (.int a0), some (.int v17)]) (S' := []) (w' := px_w K s14 t15) (q := []) 7 hM rfl trivial (fun hc21 => ?_) (fun hc21 => ?_)
                  · rw [if_pos hc21] at h
                    refine px_blk (i' := 62) (L' := [some (.ref 28), some (.int a0), some (.int v17)]) (S' := [.int (0 : Int32)]) (w' := px_w K s14 t15) (q := []) 1 hM rfl trivial ?_
                    cases h
                    exact px_E_ret hM rfl rfl rfl (show (0 : Int32) = 0 ∨ (0 : Int32) = 1 from Or.inl rfl)
                  · rw [if_neg hc21] at h
                    refine px_blk (i' := 45) (L' := [some (.ref 28), some (.int a0), some (.int v17)]) (S' := [.int (0 : Int32), .int ((a0 + v17) + (1 : Int32)), .ref 28]) (w' := px_w K s14 t15) (q := []) 7 hM rfl trivial ?_
                    rcases px_bi_some h with ⟨v25, s22, t23, hk24, h⟩ | ⟨x26, s22, t23, hk24, h⟩
                    · refine px_E_call hM rfl rfl rfl rfl (px_E_mono (by decide) (e_M_word_28 K N ((a0 + v17) + (1 : Int32)) (0 : Int32) s14 t15 _ hk24)) ?_
                      refine px_blkif (c := ¬ v25 = (2 : Int32)) (t := 61) (e := 48) (L' := [some (.ref 28), some (.int a0), some (.int v17)]) (S' := []) (w' := px_w K s22 t23) (q := []) 2 hM rfl trivial (fun hc27 => ?_) (fun hc27 => ?_)
                      · rw [if_pos hc27] at h
                        refine px_blk (i' := 62) (L' := [some (.ref 28), some (.int a0), some (.int v17)]) (S' := [.int (0 : Int32)]) (w' := px_w K s22 t23) (q := []) 1 hM rfl trivial ?_
                        cases h
                        exact px_E_ret hM rfl rfl rfl (show (0 : Int32) = 0 ∨ (0 : Int32) = 1 from Or.inl rfl)
                      · rw [if_neg hc27] at h
                        refine px_blk (i' := 55) (L' := [some (.ref 28), some (.int a0), some (.int v17)]) (S' := [.int (1 : Int32), .int ((a0 + v17) + (1 : Int32)), .ref 28]) (w' := px_w K s22 t23) (q := []) 7 hM rfl trivial ?_
                        rcases px_bi_some h with ⟨v31, s28, t29, hk30, h⟩ | ⟨x32, s28, t29, hk30, h⟩
                        · refine px_E_call hM rfl rfl rfl rfl (px_E_mono (by decide) (e_M_word_28 K N ((a0 + v17) + (1 : Int32)) (1 : Int32) s22 t23 _ hk30)) ?_
                          refine px_blkif (c := ¬ v31 = (s28.1 36)) (t := 61) (e := 59) (L' := [some (.ref 28), some (.int a0), some (.int v17)]) (S' := []) (w' := px_w K s28 t29) (q := []) 3 hM rfl trivial (fun hc33 => ?_) (fun hc33 => ?_)
                          · rw [if_pos hc33] at h
                            refine px_blk (i' := 62) (L' := [some (.ref 28), some (.int a0), some (.int v17)]) (S' := [.int (0 : Int32)]) (w' := px_w K s28 t29) (q := []) 1 hM rfl trivial ?_
                            cases h
                            exact px_E_ret hM rfl rfl rfl (show (0 : Int32) = 0 ∨ (0 : Int32) = 1 from Or.inl rfl)
                          · rw [if_neg hc33] at h
                            refine px_blk (i' := 62) (L' := [some (.ref 28), some (.int a0), some (.int v17)]) (S' := [.int (1 : Int32)]) (w' := px_w K s28 t29) (q := []) 2 hM rfl trivial ?_
                            cases h
                            exact px_E_ret hM rfl rfl rfl (show (1 : Int32) = 0 ∨ (1 : Int32) = 1 from Or.inr rfl)
                        · cases h
                    · cases h
            · cases h
          · rw [if_neg hc13] at h
            refine px_blk (i' := 19) (L' := [some (.ref 28), some (.int a0), none]) (S' := [.int (0 : Int32)]) (w' := px_w K s8 t9) (q := []) 1 hM rfl trivial ?_
            cases h
            exact px_E_ret hM rfl rfl rfl (show (0 : Int32) = 0 ∨ (0 : Int32) = 1 from Or.inl rfl)
        · cases h
    · cases h
noncomputable def l_M_loadsTree_28_17 (K : px_K) (N : Nat) (n : Nat) (u1 : Int32) (m2 : Int32) (s : px_S) (t : px_W) : Option px_LO := match n with
  | 0 => none
  | n + 1 => (if (16 : Int32) ≤ m2 then (some (.inl (34, [], s, t))) else (px_bi (f_M_wordThere_28 K N u1 m2 s t) (fun v5 s2 t3 => (px_gd (vp_in (((16 : Int32) * u1) + m2) (K.2.2 39)) (px_let (sA s2 39 (((16 : Int32) * u1) + m2).toNatClampNeg v5) (fun s8 => (l_M_loadsTree_28_17 K N n u1 (m2 + (1 : Int32)) s8 t3))))) (fun x6 s2 t3 => none)))
def a_l_M_loadsTree_28_17 (K : px_K) (u1 : Int32) (z : px_LO) (o : Option Value ⊕ Nat) (w2 : px_W) : Prop := match z with
  | .inr (o', s', t') => o = o' ∧ w2 = px_w K s' t'
  | .inl (34, [], s', t') => px_E px_ET px_P 4 102 34 [some (.ref 28), some (.int u1), none, none, none, none, none] [] (px_w K s' t') o w2
  | _ => False
noncomputable def l_M_loadsTree_28_2 (K : px_K) (N : Nat) (n : Nat) (m1 : Int32) (s : px_S) (t : px_W) : Option px_LO := match n with
  | 0 => none
  | n + 1 => (if (106 : Int32) ≤ m1 then (some (.inl (36, [], s, t))) else (px_gd (vp_in m1 (K.2.2 41)) (px_let (sA s 41 m1.toNatClampNeg (0 : Int32)) (fun s3 => (px_gd (vp_in m1 (K.2.2 42)) (px_let (sA s3 42 m1.toNatClampNeg (0 : Int32)) (fun s6 => (px_lp (l_M_loadsTree_28_17 K N N m1 (0 : Int32) s6 t) (fun i8 vs9 s10 t11 => (if i8 = 34 then (px_v0 vs9 (l_M_loadsTree_28_2 K N n (m1 + (1 : Int32)) s10 t11)) else none)) (fun z13 => some (.inr z13))))))))))
def a_l_M_loadsTree_28_2 (K : px_K) (z : px_LO) (o : Option Value ⊕ Nat) (w2 : px_W) : Prop := match z with
  | .inr (o', s', t') => o = o' ∧ w2 = px_w K s' t'
  | .inl (36, [], s', t') => px_E px_ET px_P 4 102 36 [some (.ref 28), none, none, none, none, none, none] [] (px_w K s' t') o w2
  | _ => False
noncomputable def l_M_loadsTree_28_81 (K : px_K) (N : Nat) (n : Nat) (u1 : Int32) (u2 : Int32) (u3 : Int32) (u4 : Int32) (u5 : Int32) (m6 : Int32) (s : px_S) (t : px_W) : Option px_LO := match n with
  | 0 => none
  | n + 1 => (if (16 : Int32) ≤ m6 then (some (.inl (108, [], s, t))) else (if ¬ m6 = 0 then (px_bi (f_M_word_28 K N ((u1 + (1 : Int32)) + u3) m6 s t) (fun v6 s3 t4 => (px_gd (vp_in (((16 : Int32) * u4) + m6) (K.2.2 40)) (px_let (sA s3 40 (((16 : Int32) * u4) + m6).toNatClampNeg v6) (fun s9 => (l_M_loadsTree_28_81 K N n u1 u2 u3 u4 u5 (m6 + (1 : Int32)) s9 t4))))) (fun x7 s3 t4 => none)) else (if u5 ≤ 0 then (px_bi (f_M_word_28 K N ((u1 + (1 : Int32)) + u3) m6 s t) (fun v15 s12 t13 => (px_gd (vp_in (((16 : Int32) * u4) + m6) (K.2.2 40)) (px_let (sA s12 40 (((16 : Int32) * u4) + m6).toNatClampNeg v15) (fun s18 => (l_M_loadsTree_28_81 K N n u1 u2 u3 u4 u5 (m6 + (1 : Int32)) s18 t13))))) (fun x16 s12 t13 => none)) else (px_gd (vp_in (((16 : Int32) * u4) + m6) (K.2.2 40)) (px_let (sA s 40 (((16 : Int32) * u4) + m6).toNatClampNeg u5) (fun s21 => (l_M_loadsTree_28_81 K N n u1 u2 u3 u4 u5 (m6 + (1 : Int32)) s21 t)))))))
def a_l_M_loadsTree_28_81 (K : px_K) (u1 : Int32) (u2 : Int32) (u3 : Int32) (u4 : Int32) (u5 : Int32) (z : px_LO) (o : Option Value ⊕ Nat) (w2 : px_W) : Prop := match z with
  | .inr (o', s', t') => o = o' ∧ w2 = px_w K s' t'
  | .inl (108, [], s', t') => px_E px_ET px_P 4 102 108 [some (.ref 28), some (.int u1), some (.int u2), some (.int u3), some (.int u4), none, none] [] (px_w K s' t') o w2
  | _ => False
noncomputable def l_M_loadsTree_28_58 (K : px_K) (N : Nat) (n : Nat) (u1 : Int32) (u2 : Int32) (m3 : Int32) (s : px_S) (t : px_W) : Option px_LO := match n with
  | 0 => none
  | n + 1 => (if u2 ≤ m3 then (some (.inl (115, [], s, t))) else (px_bi (f_M_word_28 K N u1 ((3 : Int32) + m3) s t) (fun v5 s2 t3 => (px_bi (f_M_word_28 K N u1 (15 : Int32) s2 t3) (fun v10 s7 t8 => (px_let ((v10 >>> (((2 : Int32) * m3) &&& 31)) &&& (3 : Int32)) (fun v12 => (px_lp (l_M_loadsTree_28_81 K N N u1 u2 m3 v5 v12 (0 : Int32) s7 t8) (fun i14 vs15 s16 t17 => (if i14 = 108 then (px_v0 vs15 (px_gd (vp_in v5 (K.2.2 42)) (px_let (sA s16 42 v5.toNatClampNeg (1 : Int32)) (fun s22 => (l_M_loadsTree_28_58 K N n u1 u2 (m3 + (1 : Int32)) s22 t17))))) else none)) (fun z19 => some (.inr z19)))))) (fun x11 s7 t8 => none))) (fun x6 s2 t3 => none)))
def a_l_M_loadsTree_28_58 (K : px_K) (u1 : Int32) (u2 : Int32) (z : px_LO) (o : Option Value ⊕ Nat) (w2 : px_W) : Prop := match z with
  | .inr (o', s', t') => o = o' ∧ w2 = px_w K s' t'
  | .inl (115, [], s', t') => px_E px_ET px_P 4 102 115 [some (.ref 28), some (.int u1), some (.int u2), none, none, none, none] [] (px_w K s' t') o w2
  | _ => False
noncomputable def l_M_loadsTree_28_47 (K : px_K) (N : Nat) (n : Nat) (m1 : Int32) (s : px_S) (t : px_W) : Option px_LO := match n with
  | 0 => none
  | n + 1 => (px_bi (f_M_isCommit_28 K N m1 s t) (fun v4 s1 t2 => (if v4 = 0 then (some (.inl (128, [], s1, t2))) else (px_bi (f_M_word_28 K N m1 (2 : Int32) s1 t2) (fun v10 s7 t8 => (px_lp (l_M_loadsTree_28_58 K N N m1 v10 (0 : Int32) s7 t8) (fun i12 vs13 s14 t15 => (if i12 = 115 then (px_v0 vs13 (px_let (m1 + (v10 + (2 : Int32))) (fun v19 => (px_let (sR s14 36 ((s14.1 36) + (1 : Int32))) (fun s21 => (l_M_loadsTree_28_47 K N n v19 s21 t15)))))) else none)) (fun z17 => some (.inr z17)))) (fun x11 s7 t8 => none)))) (fun x5 s1 t2 => none))
def a_l_M_loadsTree_28_47 (K : px_K) (z : px_LO) (o : Option Value ⊕ Nat) (w2 : px_W) : Prop := match z with
  | .inr (o', s', t') => o = o' ∧ w2 = px_w K s' t'
  | .inl (128, [], s', t') => px_E px_ET px_P 4 102 128 [some (.ref 28), none, none, none, none, none, none] [] (px_w K s' t') o w2
  | _ => False
noncomputable def l_M_loadsTree_28_135 (K : px_K) (N : Nat) (n : Nat) (u2 : Int32) (m3 : Int32) (s : px_S) (t : px_W) : Option px_LO := match n with
  | 0 => none
  | n + 1 => (if (16 : Int32) ≤ m3 then (some (.inl (161, [], s, t))) else (px_gd (vp_in u2 (K.2.2 42)) (if ((s.2.2.1 42) u2.toNatClampNeg) = 0 then (some (.inl (161, [], s, t))) else (px_gd ((vp_in (((16 : Int32) * u2) + m3) (K.2.2 40)) ∧ (vp_in (((16 : Int32) * u2) + m3) (K.2.2 39))) (px_let (sA s 39 (((16 : Int32) * u2) + m3).toNatClampNeg ((s.2.2.1 40) (((16 : Int32) * u2) + m3).toNatClampNeg)) (fun s6 => (l_M_loadsTree_28_135 K N n u2 (m3 + (1 : Int32)) s6 t)))))))
def a_l_M_loadsTree_28_135 (K : px_K) (u2 : Int32) (z : px_LO) (o : Option Value ⊕ Nat) (w2 : px_W) : Prop := match z with
  | .inr (o', s', t') => o = o' ∧ w2 = px_w K s' t'
  | .inl (161, [], s', t') => px_E px_ET px_P 4 102 161 [some (.ref 28), none, some (.int u2), none, none, none, none] [] (px_w K s' t') o w2
  | _ => False
noncomputable def l_M_loadsTree_28_130 (K : px_K) (N : Nat) (n : Nat) (m2 : Int32) (s : px_S) (t : px_W) : Option px_LO := match n with
  | 0 => none
  | n + 1 => (if (106 : Int32) ≤ m2 then (some (.inl (163, [], s, t))) else (px_lp (l_M_loadsTree_28_135 K N N m2 (0 : Int32) s t) (fun i2 vs3 s4 t5 => (if i2 = 161 then (px_v0 vs3 (l_M_loadsTree_28_130 K N n (m2 + (1 : Int32)) s4 t5)) else none)) (fun z7 => some (.inr z7))))
def a_l_M_loadsTree_28_130 (K : px_K) (z : px_LO) (o : Option Value ⊕ Nat) (w2 : px_W) : Prop := match z with
  | .inr (o', s', t') => o = o' ∧ w2 = px_w K s' t'
  | .inl (163, [], s', t') => px_E px_ET px_P 4 102 163 [none, none, none, none, none, none, none] [] (px_w K s' t') o w2
  | _ => False
set_option maxRecDepth 100000 in
theorem e_l_M_loadsTree_28_17 (K : px_K) (N : Nat) (u1 : Int32) : ∀ (n : Nat) (m2 : Int32) (s : px_S) (t : px_W) (z : px_LO), l_M_loadsTree_28_17 K N n u1 m2 s t = some z → ∀ (o : Option Value ⊕ Nat) (w2 : px_W), a_l_M_loadsTree_28_17 K u1 z o w2 → px_E px_ET px_P 4 102 17 [some (.ref 28), some (.int u1), some (.int m2), none, none, none, none] [] (px_w K s t) o w2 := by
  have hM : px_P[102]? = some pm_M_loadsTree := rfl
  intro n
  induction n with
  | zero => intro m2 s t z h; cases h
  | succ n ih =>
    intro m2 s t z h o w2 ha
    unfold l_M_loadsTree_28_17 at h
    refine px_blkif (c := (16 : Int32) ≤ m2) (t := 34) (e := 20) (L' := [some (.ref 28), some (.int u1), some (.int m2), none, none, none, none]) (S' := []) (w' := px_w K s t) (q := []) 3 hM rfl trivial (fun hc1 => ?_) (fun hc1 => ?_)
    · rw [if_pos hc1] at h
      cases h
      exact px_E_le (px_leC_L _ _ (by simp [px_leC, px_le1, Value.category])) ha
    · rw [if_neg hc1] at h
      refine px_blk (i' := 30) (L' := [some (.ref 28), some (.int u1), some (.int m2), none, none, none, none]) (S' := [.int m2, .int u1, .ref 28, .int (((16 : Int32) * u1) + m2), .ref 39]) (w' := px_w K s t) (q := []) 10 hM rfl trivial ?_
      rcases px_bi_some h with ⟨v5, s2, t3, hk4, h⟩ | ⟨x6, s2, t3, hk4, h⟩
      · refine px_E_call hM rfl rfl rfl rfl (px_E_mono (by decide) (e_M_wordThere_28 K N u1 m2 s t _ hk4)) ?_
        obtain ⟨hq7, h⟩ := px_gd_some h
        refine px_blk (i' := 32) (L' := [some (.ref 28), some (.int u1), some (.int m2), none, none, none, none]) (S' := []) (w' := px_w K (sA s2 39 (((16 : Int32) * u1) + m2).toNatClampNeg v5) t3) (q := [vp_in (((16 : Int32) * u1) + m2) (K.2.2 39)]) 1 hM rfl (show vp_in (((16 : Int32) * u1) + m2) (K.2.2 39) from hq7) ?_
        obtain ⟨s8, hs9, h⟩ := px_let_some h
        rw [← hs9]
        refine px_blk (i' := 17) (L' := [some (.ref 28), some (.int u1), some (.int (m2 + (1 : Int32))), none, none, none, none]) (S' := []) (w' := px_w K s8 t3) (q := []) 2 hM rfl trivial ?_
        exact ih (m2 + (1 : Int32)) s8 t3 z h o w2 ha
      · cases h
set_option maxRecDepth 100000 in
theorem e_l_M_loadsTree_28_2 (K : px_K) (N : Nat) : ∀ (n : Nat) (m1 : Int32) (s : px_S) (t : px_W) (z : px_LO), l_M_loadsTree_28_2 K N n m1 s t = some z → ∀ (o : Option Value ⊕ Nat) (w2 : px_W), a_l_M_loadsTree_28_2 K z o w2 → px_E px_ET px_P 4 102 2 [some (.ref 28), some (.int m1), none, none, none, none, none] [] (px_w K s t) o w2 := by
  have hM : px_P[102]? = some pm_M_loadsTree := rfl
  intro n
  induction n with
  | zero => intro m1 s t z h; cases h
  | succ n ih =>
    intro m1 s t z h o w2 ha
    unfold l_M_loadsTree_28_2 at h
    refine px_blkif (c := (106 : Int32) ≤ m1) (t := 36) (e := 5) (L' := [some (.ref 28), some (.int m1), none, none, none, none, none]) (S' := []) (w' := px_w K s t) (q := []) 3 hM rfl trivial (fun hc1 => ?_) (fun hc1 => ?_)
    · rw [if_pos hc1] at h
      cases h
      exact px_E_le (px_leC_L _ _ (by simp [px_leC, px_le1, Value.category])) ha
    · rw [if_neg hc1] at h
      obtain ⟨hq2, h⟩ := px_gd_some h
      refine px_blk (i' := 10) (L' := [some (.ref 28), some (.int m1), none, none, none, none, none]) (S' := []) (w' := px_w K (sA s 41 m1.toNatClampNeg (0 : Int32)) t) (q := [vp_in m1 (K.2.2 41), (0 : Int32) = 0 ∨ (0 : Int32) = 1]) 5 hM rfl (show (vp_in m1 (K.2.2 41)) ∧ ((0 : Int32) = 0 ∨ (0 : Int32) = 1) from ⟨hq2, Or.inl rfl⟩) ?_
      obtain ⟨s3, hs4, h⟩ := px_let_some h
      rw [← hs4]
      obtain ⟨hq5, h⟩ := px_gd_some h
      refine px_blk (i' := 15) (L' := [some (.ref 28), some (.int m1), none, none, none, none, none]) (S' := []) (w' := px_w K (sA s3 42 m1.toNatClampNeg (0 : Int32)) t) (q := [vp_in m1 (K.2.2 42), (0 : Int32) = 0 ∨ (0 : Int32) = 1]) 5 hM rfl (show (vp_in m1 (K.2.2 42)) ∧ ((0 : Int32) = 0 ∨ (0 : Int32) = 1) from ⟨hq5, Or.inl rfl⟩) ?_
      obtain ⟨s6, hs7, h⟩ := px_let_some h
      rw [← hs7]
      refine px_blk (i' := 17) (L' := [some (.ref 28), some (.int m1), some (.int (0 : Int32)), none, none, none, none]) (S' := []) (w' := px_w K s6 t) (q := []) 2 hM rfl trivial ?_
      rcases px_lp_some h with ⟨i8, vs9, s10, t11, hl12, h⟩ | ⟨z13, hl12, h⟩
      · by_cases hi14 : i8 = 34
        · subst hi14
          rw [if_pos rfl] at h
          have h9 := px_v0_some h
          clear h
          obtain ⟨rfl, h⟩ := h9
          refine e_l_M_loadsTree_28_17 K N m1 N (0 : Int32) s6 t _ hl12 _ _ ?_
          show px_E px_ET px_P 4 102 34 [some (.ref 28), some (.int m1), none, none, none, none, none] [] (px_w K s10 t11) _ _
          refine px_blk (i' := 2) (L' := [some (.ref 28), some (.int (m1 + (1 : Int32))), none, none, none, none, none]) (S' := []) (w' := px_w K s10 t11) (q := []) 2 hM rfl trivial ?_
          exact ih (m1 + (1 : Int32)) s10 t11 z h o w2 ha
        · rw [if_neg hi14] at h
          cases h
      · cases h
        obtain ⟨rfl, rfl⟩ := ha
        exact e_l_M_loadsTree_28_17 K N m1 N (0 : Int32) s6 t _ hl12 _ _ ⟨rfl, rfl⟩
set_option maxRecDepth 100000 in
theorem e_l_M_loadsTree_28_81 (K : px_K) (N : Nat) (u1 : Int32) (u2 : Int32) (u3 : Int32) (u4 : Int32) (u5 : Int32) : ∀ (n : Nat) (m6 : Int32) (s : px_S) (t : px_W) (z : px_LO), l_M_loadsTree_28_81 K N n u1 u2 u3 u4 u5 m6 s t = some z → ∀ (o : Option Value ⊕ Nat) (w2 : px_W), a_l_M_loadsTree_28_81 K u1 u2 u3 u4 u5 z o w2 → px_E px_ET px_P 4 102 81 [some (.ref 28), some (.int u1), some (.int u2), some (.int u3), some (.int u4), some (.int u5), some (.int m6)] [] (px_w K s t) o w2 := by
  have hM : px_P[102]? = some pm_M_loadsTree := rfl
  intro n
  induction n with
  | zero => intro m6 s t z h; cases h
  | succ n ih =>
    intro m6 s t z h o w2 ha
    unfold l_M_loadsTree_28_81 at h
    refine px_blkif (c := (16 : Int32) ≤ m6) (t := 108) (e := 84) (L' := [some (.ref 28), some (.int u1), some (.int u2), some (.int u3), some (.int u4), some (.int u5), some (.int m6)]) (S' := []) (w' := px_w K s t) (q := []) 3 hM rfl trivial (fun hc1 => ?_) (fun hc1 => ?_)
    · rw [if_pos hc1] at h
      cases h
      exact px_E_le (px_leC_L _ _ (by simp [px_leC, px_le1, Value.category])) ha
    · rw [if_neg hc1] at h
      refine px_blkif (c := ¬ m6 = 0) (t := 97) (e := 93) (L' := [some (.ref 28), some (.int u1), some (.int u2), some (.int u3), some (.int u4), some (.int u5), some (.int m6)]) (S' := [.int (((16 : Int32) * u4) + m6), .ref 40]) (w' := px_w K s t) (q := []) 9 hM rfl trivial (fun hc2 => ?_) (fun hc2 => ?_)
      · rw [if_pos hc2] at h
        refine px_blk (i' := 104) (L' := [some (.ref 28), some (.int u1), some (.int u2), some (.int u3), some (.int u4), some (.int u5), some (.int m6)]) (S' := [.int m6, .int ((u1 + (1 : Int32)) + u3), .ref 28, .int (((16 : Int32) * u4) + m6), .ref 40]) (w' := px_w K s t) (q := []) 7 hM rfl trivial ?_
        rcases px_bi_some h with ⟨v6, s3, t4, hk5, h⟩ | ⟨x7, s3, t4, hk5, h⟩
        · refine px_E_call hM rfl rfl rfl rfl (px_E_mono (by decide) (e_M_word_28 K N ((u1 + (1 : Int32)) + u3) m6 s t _ hk5)) ?_
          obtain ⟨hq8, h⟩ := px_gd_some h
          refine px_blk (i' := 106) (L' := [some (.ref 28), some (.int u1), some (.int u2), some (.int u3), some (.int u4), some (.int u5), some (.int m6)]) (S' := []) (w' := px_w K (sA s3 40 (((16 : Int32) * u4) + m6).toNatClampNeg v6) t4) (q := [vp_in (((16 : Int32) * u4) + m6) (K.2.2 40)]) 1 hM rfl (show vp_in (((16 : Int32) * u4) + m6) (K.2.2 40) from hq8) ?_
          obtain ⟨s9, hs10, h⟩ := px_let_some h
          rw [← hs10]
          refine px_blk (i' := 81) (L' := [some (.ref 28), some (.int u1), some (.int u2), some (.int u3), some (.int u4), some (.int u5), some (.int (m6 + (1 : Int32)))]) (S' := []) (w' := px_w K s9 t4) (q := []) 2 hM rfl trivial ?_
          exact ih (m6 + (1 : Int32)) s9 t4 z h o w2 ha
        · cases h
      · rw [if_neg hc2] at h
        refine px_blkif (c := u5 ≤ 0) (t := 97) (e := 95) (L' := [some (.ref 28), some (.int u1), some (.int u2), some (.int u3), some (.int u4), some (.int u5), some (.int m6)]) (S' := [.int (((16 : Int32) * u4) + m6), .ref 40]) (w' := px_w K s t) (q := []) 2 hM rfl trivial (fun hc11 => ?_) (fun hc11 => ?_)
        · rw [if_pos hc11] at h
          refine px_blk (i' := 104) (L' := [some (.ref 28), some (.int u1), some (.int u2), some (.int u3), some (.int u4), some (.int u5), some (.int m6)]) (S' := [.int m6, .int ((u1 + (1 : Int32)) + u3), .ref 28, .int (((16 : Int32) * u4) + m6), .ref 40]) (w' := px_w K s t) (q := []) 7 hM rfl trivial ?_
          rcases px_bi_some h with ⟨v15, s12, t13, hk14, h⟩ | ⟨x16, s12, t13, hk14, h⟩
          · refine px_E_call hM rfl rfl rfl rfl (px_E_mono (by decide) (e_M_word_28 K N ((u1 + (1 : Int32)) + u3) m6 s t _ hk14)) ?_
            obtain ⟨hq17, h⟩ := px_gd_some h
            refine px_blk (i' := 106) (L' := [some (.ref 28), some (.int u1), some (.int u2), some (.int u3), some (.int u4), some (.int u5), some (.int m6)]) (S' := []) (w' := px_w K (sA s12 40 (((16 : Int32) * u4) + m6).toNatClampNeg v15) t13) (q := [vp_in (((16 : Int32) * u4) + m6) (K.2.2 40)]) 1 hM rfl (show vp_in (((16 : Int32) * u4) + m6) (K.2.2 40) from hq17) ?_
            obtain ⟨s18, hs19, h⟩ := px_let_some h
            rw [← hs19]
            refine px_blk (i' := 81) (L' := [some (.ref 28), some (.int u1), some (.int u2), some (.int u3), some (.int u4), some (.int u5), some (.int (m6 + (1 : Int32)))]) (S' := []) (w' := px_w K s18 t13) (q := []) 2 hM rfl trivial ?_
            exact ih (m6 + (1 : Int32)) s18 t13 z h o w2 ha
          · cases h
        · rw [if_neg hc11] at h
          obtain ⟨hq20, h⟩ := px_gd_some h
          refine px_blk (i' := 106) (L' := [some (.ref 28), some (.int u1), some (.int u2), some (.int u3), some (.int u4), some (.int u5), some (.int m6)]) (S' := []) (w' := px_w K (sA s 40 (((16 : Int32) * u4) + m6).toNatClampNeg u5) t) (q := [vp_in (((16 : Int32) * u4) + m6) (K.2.2 40)]) 3 hM rfl (show vp_in (((16 : Int32) * u4) + m6) (K.2.2 40) from hq20) ?_
          obtain ⟨s21, hs22, h⟩ := px_let_some h
          rw [← hs22]
          refine px_blk (i' := 81) (L' := [some (.ref 28), some (.int u1), some (.int u2), some (.int u3), some (.int u4), some (.int u5), some (.int (m6 + (1 : Int32)))]) (S' := []) (w' := px_w K s21 t) (q := []) 2 hM rfl trivial ?_
          exact ih (m6 + (1 : Int32)) s21 t z h o w2 ha
set_option maxRecDepth 100000 in
theorem e_l_M_loadsTree_28_58 (K : px_K) (N : Nat) (u1 : Int32) (u2 : Int32) : ∀ (n : Nat) (m3 : Int32) (s : px_S) (t : px_W) (z : px_LO), l_M_loadsTree_28_58 K N n u1 u2 m3 s t = some z → ∀ (o : Option Value ⊕ Nat) (w2 : px_W), a_l_M_loadsTree_28_58 K u1 u2 z o w2 → px_E px_ET px_P 4 102 58 [some (.ref 28), some (.int u1), some (.int u2), some (.int m3), none, none, none] [] (px_w K s t) o w2 := by
  have hM : px_P[102]? = some pm_M_loadsTree := rfl
  intro n
  induction n with
  | zero => intro m3 s t z h; cases h
  | succ n ih =>
    intro m3 s t z h o w2 ha
    unfold l_M_loadsTree_28_58 at h
    refine px_blkif (c := u2 ≤ m3) (t := 115) (e := 61) (L' := [some (.ref 28), some (.int u1), some (.int u2), some (.int m3), none, none, none]) (S' := []) (w' := px_w K s t) (q := []) 3 hM rfl trivial (fun hc1 => ?_) (fun hc1 => ?_)
    · rw [if_pos hc1] at h
      cases h
      exact px_E_le (px_leC_L _ _ (by simp [px_leC, px_le1, Value.category])) ha
    · rw [if_neg hc1] at h
      refine px_blk (i' := 66) (L' := [some (.ref 28), some (.int u1), some (.int u2), some (.int m3), none, none, none]) (S' := [.int ((3 : Int32) + m3), .int u1, .ref 28]) (w' := px_w K s t) (q := []) 5 hM rfl trivial ?_
      rcases px_bi_some h with ⟨v5, s2, t3, hk4, h⟩ | ⟨x6, s2, t3, hk4, h⟩
      · refine px_E_call hM rfl rfl rfl rfl (px_E_mono (by decide) (e_M_word_28 K N u1 ((3 : Int32) + m3) s t _ hk4)) ?_
        refine px_blk (i' := 71) (L' := [some (.ref 28), some (.int u1), some (.int u2), some (.int m3), some (.int v5), none, none]) (S' := [.int (15 : Int32), .int u1, .ref 28]) (w' := px_w K s2 t3) (q := []) 4 hM rfl trivial ?_
        rcases px_bi_some h with ⟨v10, s7, t8, hk9, h⟩ | ⟨x11, s7, t8, hk9, h⟩
        · refine px_E_call hM rfl rfl rfl rfl (px_E_mono (by decide) (e_M_word_28 K N u1 (15 : Int32) s2 t3 _ hk9)) ?_
          refine px_blk (i' := 79) (L' := [some (.ref 28), some (.int u1), some (.int u2), some (.int m3), some (.int v5), some (.int ((v10 >>> (((2 : Int32) * m3) &&& 31)) &&& (3 : Int32))), none]) (S' := []) (w' := px_w K s7 t8) (q := []) 7 hM rfl trivial ?_
          obtain ⟨v12, hv13, h⟩ := px_let_some h
          rw [← hv13]
          refine px_blk (i' := 81) (L' := [some (.ref 28), some (.int u1), some (.int u2), some (.int m3), some (.int v5), some (.int v12), some (.int (0 : Int32))]) (S' := []) (w' := px_w K s7 t8) (q := []) 2 hM rfl trivial ?_
          rcases px_lp_some h with ⟨i14, vs15, s16, t17, hl18, h⟩ | ⟨z19, hl18, h⟩
          · by_cases hi20 : i14 = 108
            · subst hi20
              rw [if_pos rfl] at h
              have h9 := px_v0_some h
              clear h
              obtain ⟨rfl, h⟩ := h9
              refine e_l_M_loadsTree_28_81 K N u1 u2 m3 v5 v12 N (0 : Int32) s7 t8 _ hl18 _ _ ?_
              show px_E px_ET px_P 4 102 108 [some (.ref 28), some (.int u1), some (.int u2), some (.int m3), some (.int v5), none, none] [] (px_w K s16 t17) _ _
              obtain ⟨hq21, h⟩ := px_gd_some h
              refine px_blk (i' := 113) (L' := [some (.ref 28), some (.int u1), some (.int u2), some (.int m3), some (.int v5), none, none]) (S' := []) (w' := px_w K (sA s16 42 v5.toNatClampNeg (1 : Int32)) t17) (q := [vp_in v5 (K.2.2 42), (1 : Int32) = 0 ∨ (1 : Int32) = 1]) 5 hM rfl (show (vp_in v5 (K.2.2 42)) ∧ ((1 : Int32) = 0 ∨ (1 : Int32) = 1) from ⟨hq21, Or.inr rfl⟩) ?_
              obtain ⟨s22, hs23, h⟩ := px_let_some h
              rw [← hs23]
              refine px_blk (i' := 58) (L' := [some (.ref 28), some (.int u1), some (.int u2), some (.int (m3 + (1 : Int32))), some (.int v5), none, none]) (S' := []) (w' := px_w K s22 t17) (q := []) 2 hM rfl trivial ?_
              exact px_E_le (px_leC_L _ _ (by simp [px_leC, px_le1, Value.category])) (ih (m3 + (1 : Int32)) s22 t17 z h o w2 ha)
            · rw [if_neg hi20] at h
              cases h
          · cases h
            obtain ⟨rfl, rfl⟩ := ha
            exact e_l_M_loadsTree_28_81 K N u1 u2 m3 v5 v12 N (0 : Int32) s7 t8 _ hl18 _ _ ⟨rfl, rfl⟩
        · cases h
      · cases h
set_option maxRecDepth 100000 in
theorem e_l_M_loadsTree_28_47 (K : px_K) (N : Nat) : ∀ (n : Nat) (m1 : Int32) (s : px_S) (t : px_W) (z : px_LO), l_M_loadsTree_28_47 K N n m1 s t = some z → ∀ (o : Option Value ⊕ Nat) (w2 : px_W), a_l_M_loadsTree_28_47 K z o w2 → px_E px_ET px_P 4 102 47 [some (.ref 28), some (.int m1), none, none, none, none, none] [] (px_w K s t) o w2 := by
  have hM : px_P[102]? = some pm_M_loadsTree := rfl
  intro n
  induction n with
  | zero => intro m1 s t z h; cases h
  | succ n ih =>
    intro m1 s t z h o w2 ha
    unfold l_M_loadsTree_28_47 at h
    refine px_blk (i' := 49) (L' := [some (.ref 28), some (.int m1), none, none, none, none, none]) (S' := [.int m1, .ref 28]) (w' := px_w K s t) (q := []) 2 hM rfl trivial ?_
    rcases px_bi_some h with ⟨v4, s1, t2, hk3, h⟩ | ⟨x5, s1, t2, hk3, h⟩
    · refine px_E_call hM rfl rfl rfl rfl (px_E_mono (by decide) (e_M_isCommit_28 K N m1 s t _ hk3)) ?_
      refine px_blkif (c := v4 = 0) (t := 128) (e := 51) (L' := [some (.ref 28), some (.int m1), none, none, none, none, none]) (S' := []) (w' := px_w K s1 t2) (q := []) 1 hM rfl trivial (fun hc6 => ?_) (fun hc6 => ?_)
      · rw [if_pos hc6] at h
        cases h
        exact px_E_le (px_leC_L _ _ (by simp [px_leC, px_le1, Value.category])) ha
      · rw [if_neg hc6] at h
        refine px_blk (i' := 54) (L' := [some (.ref 28), some (.int m1), none, none, none, none, none]) (S' := [.int (2 : Int32), .int m1, .ref 28]) (w' := px_w K s1 t2) (q := []) 3 hM rfl trivial ?_
        rcases px_bi_some h with ⟨v10, s7, t8, hk9, h⟩ | ⟨x11, s7, t8, hk9, h⟩
        · refine px_E_call hM rfl rfl rfl rfl (px_E_mono (by decide) (e_M_word_28 K N m1 (2 : Int32) s1 t2 _ hk9)) ?_
          refine px_blk (i' := 58) (L' := [some (.ref 28), some (.int m1), some (.int v10), some (.int (0 : Int32)), none, none, none]) (S' := []) (w' := px_w K s7 t8) (q := []) 3 hM rfl trivial ?_
          rcases px_lp_some h with ⟨i12, vs13, s14, t15, hl16, h⟩ | ⟨z17, hl16, h⟩
          · by_cases hi18 : i12 = 115
            · subst hi18
              rw [if_pos rfl] at h
              have h9 := px_v0_some h
              clear h
              obtain ⟨rfl, h⟩ := h9
              refine e_l_M_loadsTree_28_58 K N m1 v10 N (0 : Int32) s7 t8 _ hl16 _ _ ?_
              show px_E px_ET px_P 4 102 115 [some (.ref 28), some (.int m1), some (.int v10), none, none, none, none] [] (px_w K s14 t15) _ _
              refine px_blk (i' := 121) (L' := [some (.ref 28), some (.int (m1 + (v10 + (2 : Int32)))), some (.int v10), none, none, none, none]) (S' := []) (w' := px_w K s14 t15) (q := []) 6 hM rfl trivial ?_
              obtain ⟨v19, hv20, h⟩ := px_let_some h
              rw [← hv20]
              refine px_blk (i' := 127) (L' := [some (.ref 28), some (.int v19), some (.int v10), none, none, none, none]) (S' := []) (w' := px_w K (sR s14 36 ((s14.1 36) + (1 : Int32))) t15) (q := []) 6 hM rfl trivial ?_
              obtain ⟨s21, hs22, h⟩ := px_let_some h
              rw [← hs22]
              refine px_blk (i' := 47) (L' := [some (.ref 28), some (.int v19), some (.int v10), none, none, none, none]) (S' := []) (w' := px_w K s21 t15) (q := []) 1 hM rfl trivial ?_
              exact px_E_le (px_leC_L _ _ (by simp [px_leC, px_le1, Value.category])) (ih v19 s21 t15 z h o w2 ha)
            · rw [if_neg hi18] at h
              cases h
          · cases h
            obtain ⟨rfl, rfl⟩ := ha
            exact e_l_M_loadsTree_28_58 K N m1 v10 N (0 : Int32) s7 t8 _ hl16 _ _ ⟨rfl, rfl⟩
        · cases h
    · cases h
set_option maxRecDepth 100000 in
theorem e_l_M_loadsTree_28_135 (K : px_K) (N : Nat) (u2 : Int32) : ∀ (n : Nat) (m3 : Int32) (s : px_S) (t : px_W) (z : px_LO), l_M_loadsTree_28_135 K N n u2 m3 s t = some z → ∀ (o : Option Value ⊕ Nat) (w2 : px_W), a_l_M_loadsTree_28_135 K u2 z o w2 → px_E px_ET px_P 4 102 135 [some (.ref 28), none, some (.int u2), some (.int m3), none, none, none] [] (px_w K s t) o w2 := by
  have hM : px_P[102]? = some pm_M_loadsTree := rfl
  intro n
  induction n with
  | zero => intro m3 s t z h; cases h
  | succ n ih =>
    intro m3 s t z h o w2 ha
    unfold l_M_loadsTree_28_135 at h
    refine px_blkif (c := (16 : Int32) ≤ m3) (t := 161) (e := 138) (L' := [some (.ref 28), none, some (.int u2), some (.int m3), none, none, none]) (S' := []) (w' := px_w K s t) (q := []) 3 hM rfl trivial (fun hc1 => ?_) (fun hc1 => ?_)
    · rw [if_pos hc1] at h
      cases h
      exact px_E_le (px_leC_L _ _ (by simp [px_leC, px_le1, Value.category])) ha
    · rw [if_neg hc1] at h
      obtain ⟨hq2, h⟩ := px_gd_some h
      refine px_blkif (c := ((s.2.2.1 42) u2.toNatClampNeg) = 0) (t := 161) (e := 143) (L' := [some (.ref 28), none, some (.int u2), some (.int m3), none, none, none]) (S' := []) (w' := px_w K s t) (q := [vp_in u2 (K.2.2 42)]) 5 hM rfl (show vp_in u2 (K.2.2 42) from hq2) (fun hc3 => ?_) (fun hc3 => ?_)
      · rw [if_pos hc3] at h
        cases h
        exact px_E_le (px_leC_L _ _ (by simp [px_leC, px_le1, Value.category])) ha
      · rw [if_neg hc3] at h
        refine px_blk (i' := 155) (L' := [some (.ref 28), none, some (.int u2), some (.int m3), none, none, none]) (S' := [.int ((16 : Int32) * u2), .ref 40, .int (((16 : Int32) * u2) + m3), .ref 39]) (w' := px_w K s t) (q := []) 12 hM rfl trivial ?_
        obtain ⟨⟨hq4, hq5⟩, h⟩ := px_gd_some h
        refine px_blk (i' := 159) (L' := [some (.ref 28), none, some (.int u2), some (.int m3), none, none, none]) (S' := []) (w' := px_w K (sA s 39 (((16 : Int32) * u2) + m3).toNatClampNeg ((s.2.2.1 40) (((16 : Int32) * u2) + m3).toNatClampNeg)) t) (q := [vp_in (((16 : Int32) * u2) + m3) (K.2.2 40), vp_in (((16 : Int32) * u2) + m3) (K.2.2 39)]) 4 hM rfl (show (vp_in (((16 : Int32) * u2) + m3) (K.2.2 40)) ∧ (vp_in (((16 : Int32) * u2) + m3) (K.2.2 39)) from ⟨hq4, hq5⟩) ?_
        obtain ⟨s6, hs7, h⟩ := px_let_some h
        rw [← hs7]
        refine px_blk (i' := 135) (L' := [some (.ref 28), none, some (.int u2), some (.int (m3 + (1 : Int32))), none, none, none]) (S' := []) (w' := px_w K s6 t) (q := []) 2 hM rfl trivial ?_
        exact ih (m3 + (1 : Int32)) s6 t z h o w2 ha
set_option maxRecDepth 100000 in
theorem e_l_M_loadsTree_28_130 (K : px_K) (N : Nat) : ∀ (n : Nat) (m2 : Int32) (s : px_S) (t : px_W) (z : px_LO), l_M_loadsTree_28_130 K N n m2 s t = some z → ∀ (o : Option Value ⊕ Nat) (w2 : px_W), a_l_M_loadsTree_28_130 K z o w2 → px_E px_ET px_P 4 102 130 [some (.ref 28), none, some (.int m2), none, none, none, none] [] (px_w K s t) o w2 := by
  have hM : px_P[102]? = some pm_M_loadsTree := rfl
  intro n
  induction n with
  | zero => intro m2 s t z h; cases h
  | succ n ih =>
    intro m2 s t z h o w2 ha
    unfold l_M_loadsTree_28_130 at h
    refine px_blkif (c := (106 : Int32) ≤ m2) (t := 163) (e := 133) (L' := [some (.ref 28), none, some (.int m2), none, none, none, none]) (S' := []) (w' := px_w K s t) (q := []) 3 hM rfl trivial (fun hc1 => ?_) (fun hc1 => ?_)
    · rw [if_pos hc1] at h
      cases h
      exact px_E_le (px_leC_L _ _ (by simp [px_leC, px_le1, Value.category])) ha
    · rw [if_neg hc1] at h
      refine px_blk (i' := 135) (L' := [some (.ref 28), none, some (.int m2), some (.int (0 : Int32)), none, none, none]) (S' := []) (w' := px_w K s t) (q := []) 2 hM rfl trivial ?_
      rcases px_lp_some h with ⟨i2, vs3, s4, t5, hl6, h⟩ | ⟨z7, hl6, h⟩
      · by_cases hi8 : i2 = 161
        · subst hi8
          rw [if_pos rfl] at h
          have h9 := px_v0_some h
          clear h
          obtain ⟨rfl, h⟩ := h9
          refine e_l_M_loadsTree_28_135 K N m2 N (0 : Int32) s t _ hl6 _ _ ?_
          show px_E px_ET px_P 4 102 161 [some (.ref 28), none, some (.int m2), none, none, none, none] [] (px_w K s4 t5) _ _
          refine px_blk (i' := 130) (L' := [some (.ref 28), none, some (.int (m2 + (1 : Int32))), none, none, none, none]) (S' := []) (w' := px_w K s4 t5) (q := []) 2 hM rfl trivial ?_
          exact ih (m2 + (1 : Int32)) s4 t5 z h o w2 ha
        · rw [if_neg hi8] at h
          cases h
      · cases h
        obtain ⟨rfl, rfl⟩ := ha
        exact e_l_M_loadsTree_28_135 K N m2 N (0 : Int32) s t _ hl6 _ _ ⟨rfl, rfl⟩
noncomputable def f_M_loadsTree_28 (K : px_K) (N : Nat) (s : px_S) (t : px_W) : Option px_Res :=
  (px_lp (l_M_loadsTree_28_2 K N N (0 : Int32) s t) (fun i1 vs2 s3 t4 => (if i1 = 36 then (px_v0 vs2 (px_bi (f_M_word_28 K N (0 : Int32) (0 : Int32) s3 t4) (fun v11 s8 t9 => (px_let (sR s8 36 v11) (fun s13 => (px_let (sR s13 37 (1 : Int32)) (fun s15 => (px_lp (l_M_loadsTree_28_47 K N N (1 : Int32) s15 t9) (fun i17 vs18 s19 t20 => (if i17 = 128 then (px_v0 vs18 (px_lp (l_M_loadsTree_28_130 K N N (0 : Int32) s19 t20) (fun i24 vs25 s26 t27 => (if i24 = 163 then (px_v0 vs25 (some (.inl none, s26, t27))) else none)) (fun z29 => some z29))) else none)) (fun z22 => some z22))))))) (fun x12 s8 t9 => none))) else none)) (fun z6 => some z6))
set_option maxRecDepth 100000 in
theorem e_M_loadsTree_28 (K : px_K) (N : Nat) (s : px_S) (t : px_W) (r : px_Res) (h : f_M_loadsTree_28 K N s t = some r) : px_E px_ET px_P 4 102 0 (px_ent 7 [.ref 28]) [] (px_w K s t) r.1 (px_w K r.2.1 r.2.2) := by
  have hM : px_P[102]? = some pm_M_loadsTree := rfl
  unfold f_M_loadsTree_28 at h
  refine px_blk (i' := 2) (L' := [some (.ref 28), some (.int (0 : Int32)), none, none, none, none, none]) (S' := []) (w' := px_w K s t) (q := []) 2 hM rfl trivial ?_
  rcases px_lp_some h with ⟨i1, vs2, s3, t4, hl5, h⟩ | ⟨z6, hl5, h⟩
  · by_cases hi7 : i1 = 36
    · subst hi7
      rw [if_pos rfl] at h
      have h9 := px_v0_some h
      clear h
      obtain ⟨rfl, h⟩ := h9
      refine e_l_M_loadsTree_28_2 K N N (0 : Int32) s t _ hl5 _ _ ?_
      show px_E px_ET px_P 4 102 36 [some (.ref 28), none, none, none, none, none, none] [] (px_w K s3 t4) _ _
      refine px_blk (i' := 40) (L' := [some (.ref 28), none, none, none, none, none, none]) (S' := [.int (0 : Int32), .int (0 : Int32), .ref 28, .ref 28]) (w' := px_w K s3 t4) (q := []) 4 hM rfl trivial ?_
      rcases px_bi_some h with ⟨v11, s8, t9, hk10, h⟩ | ⟨x12, s8, t9, hk10, h⟩
      · refine px_E_call hM rfl rfl rfl rfl (px_E_mono (by decide) (e_M_word_28 K N (0 : Int32) (0 : Int32) s3 t4 _ hk10)) ?_
        refine px_blk (i' := 42) (L' := [some (.ref 28), none, none, none, none, none, none]) (S' := []) (w' := px_w K (sR s8 36 v11) t9) (q := []) 1 hM rfl trivial ?_
        obtain ⟨s13, hs14, h⟩ := px_let_some h
        rw [← hs14]
        refine px_blk (i' := 45) (L' := [some (.ref 28), none, none, none, none, none, none]) (S' := []) (w' := px_w K (sR s13 37 (1 : Int32)) t9) (q := []) 3 hM rfl trivial ?_
        obtain ⟨s15, hs16, h⟩ := px_let_some h
        rw [← hs16]
        refine px_blk (i' := 47) (L' := [some (.ref 28), some (.int (1 : Int32)), none, none, none, none, none]) (S' := []) (w' := px_w K s15 t9) (q := []) 2 hM rfl trivial ?_
        rcases px_lp_some h with ⟨i17, vs18, s19, t20, hl21, h⟩ | ⟨z22, hl21, h⟩
        · by_cases hi23 : i17 = 128
          · subst hi23
            rw [if_pos rfl] at h
            have h9 := px_v0_some h
            clear h
            obtain ⟨rfl, h⟩ := h9
            refine e_l_M_loadsTree_28_47 K N N (1 : Int32) s15 t9 _ hl21 _ _ ?_
            show px_E px_ET px_P 4 102 128 [some (.ref 28), none, none, none, none, none, none] [] (px_w K s19 t20) _ _
            refine px_blk (i' := 130) (L' := [some (.ref 28), none, some (.int (0 : Int32)), none, none, none, none]) (S' := []) (w' := px_w K s19 t20) (q := []) 2 hM rfl trivial ?_
            rcases px_lp_some h with ⟨i24, vs25, s26, t27, hl28, h⟩ | ⟨z29, hl28, h⟩
            · by_cases hi30 : i24 = 163
              · subst hi30
                rw [if_pos rfl] at h
                have h9 := px_v0_some h
                clear h
                obtain ⟨rfl, h⟩ := h9
                refine e_l_M_loadsTree_28_130 K N N (0 : Int32) s19 t20 _ hl28 _ _ ?_
                show px_E px_ET px_P 4 102 163 [none, none, none, none, none, none, none] [] (px_w K s26 t27) _ _
                cases h
                exact px_E_ret hM rfl rfl rfl trivial
              · rw [if_neg hi30] at h
                cases h
            · cases h
              exact e_l_M_loadsTree_28_130 K N N (0 : Int32) s19 t20 _ hl28 _ _ ⟨rfl, rfl⟩
          · rw [if_neg hi23] at h
            cases h
        · cases h
          exact e_l_M_loadsTree_28_47 K N N (1 : Int32) s15 t9 _ hl21 _ _ ⟨rfl, rfl⟩
      · cases h
    · rw [if_neg hi7] at h
      cases h
  · cases h
    exact e_l_M_loadsTree_28_2 K N N (0 : Int32) s t _ hl5 _ _ ⟨rfl, rfl⟩
