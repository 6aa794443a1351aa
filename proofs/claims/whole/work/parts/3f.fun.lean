/-! THE METHODS AS FUNCTIONS (by program). -/
noncomputable def l_T_isWithin_22_4 (K : px_K) (N : Nat) (n : Nat) (u2 : Int32) (m3 : Int32) (m4 : Int32) (s : px_S) (t : px_W) : Option px_LO := match n with
  | 0 => none
  | n + 1 => (if (24 : Int32) ≤ m4 then (some (.inl (20, [m3], s, t))) else (if m3 = 0 then (some (.inl (20, [m3], s, t))) else (if ¬ m3 = u2 then (px_bi (f_T_parentOf_22 K N m3 s t) (fun v7 s4 t5 => (l_T_isWithin_22_4 K N n u2 v7 (m4 + (1 : Int32)) s4 t5)) (fun x8 s4 t5 => none)) else (some (.inl (12, [], s, t))))))
def a_l_T_isWithin_22_4 (K : px_K) (u2 : Int32) (z : px_LO) (o : Option Value ⊕ Nat) (w2 : px_W) : Prop := match z with
  | .inr (o', s', t') => o = o' ∧ w2 = px_w K s' t'
  | .inl (12, [], s', t') => px_E px_ET px_P 6 162 12 [none, none, none, none, none] [] (px_w K s' t') o w2
  | .inl (20, [y3], s', t') => px_E px_ET px_P 6 162 20 [none, none, some (.int u2), some (.int y3), none] [] (px_w K s' t') o w2
  | _ => False
set_option maxRecDepth 100000 in
theorem e_l_T_isWithin_22_4 (K : px_K) (N : Nat) (u2 : Int32) : ∀ (n : Nat) (m3 : Int32) (m4 : Int32) (s : px_S) (t : px_W) (z : px_LO), l_T_isWithin_22_4 K N n u2 m3 m4 s t = some z → ∀ (o : Option Value ⊕ Nat) (w2 : px_W), a_l_T_isWithin_22_4 K u2 z o w2 → px_E px_ET px_P 6 162 4 [some (.ref 22), none, some (.int u2), some (.int m3), some (.int m4)] [] (px_w K s t) o w2 := by
  have hM : px_P[162]? = some pm_T_isWithin := rfl
  intro n
  induction n with
  | zero => intro m3 m4 s t z h; cases h
  | succ n ih =>
    intro m3 m4 s t z h o w2 ha
    unfold l_T_isWithin_22_4 at h
    refine px_blkif (c := (24 : Int32) ≤ m4) (t := 20) (e := 7) (L' := [some (.ref 22), none, some (.int u2), some (.int m3), some (.int m4)]) (S' := []) (w' := px_w K s t) (q := []) 3 hM rfl trivial (fun hc1 => ?_) (fun hc1 => ?_)
    · rw [if_pos hc1] at h
      cases h
      exact px_E_le (px_leC_L _ _ (by simp [px_leC, px_le1, Value.category])) ha
    · rw [if_neg hc1] at h
      refine px_blkif (c := m3 = 0) (t := 20) (e := 9) (L' := [some (.ref 22), none, some (.int u2), some (.int m3), some (.int m4)]) (S' := []) (w' := px_w K s t) (q := []) 2 hM rfl trivial (fun hc2 => ?_) (fun hc2 => ?_)
      · rw [if_pos hc2] at h
        cases h
        exact px_E_le (px_leC_L _ _ (by simp [px_leC, px_le1, Value.category])) ha
      · rw [if_neg hc2] at h
        refine px_blkif (c := ¬ m3 = u2) (t := 14) (e := 12) (L' := [some (.ref 22), none, some (.int u2), some (.int m3), some (.int m4)]) (S' := []) (w' := px_w K s t) (q := []) 3 hM rfl trivial (fun hc3 => ?_) (fun hc3 => ?_)
        · rw [if_pos hc3] at h
          refine px_blk (i' := 16) (L' := [some (.ref 22), none, some (.int u2), some (.int m3), some (.int m4)]) (S' := [.int m3, .ref 22]) (w' := px_w K s t) (q := []) 2 hM rfl trivial ?_
          rcases px_bi_some h with ⟨v7, s4, t5, hk6, h⟩ | ⟨x8, s4, t5, hk6, h⟩
          · refine px_E_call hM rfl rfl rfl rfl (px_E_mono (by decide) (e_T_parentOf_22 K N m3 s t _ hk6)) ?_
            refine px_blk (i' := 4) (L' := [some (.ref 22), none, some (.int u2), some (.int v7), some (.int (m4 + (1 : Int32)))]) (S' := []) (w' := px_w K s4 t5) (q := []) 3 hM rfl trivial ?_
            exact ih v7 (m4 + (1 : Int32)) s4 t5 z h o w2 ha
          · cases h
        · rw [if_neg hc3] at h
          cases h
          exact px_E_le (px_leC_L _ _ (by simp [px_leC, px_le1, Value.category])) ha
noncomputable def f_T_isWithin_22 (K : px_K) (N : Nat) (a0 : Int32) (a1 : Int32) (s : px_S) (t : px_W) : Option px_Res :=
  (px_lp (l_T_isWithin_22_4 K N N a1 a0 (0 : Int32) s t) (fun i1 vs2 s3 t4 => (if i1 = 12 then (px_v0 vs2 (some (.inl (some (.int (1 : Int32))), s3, t4))) else (if i1 = 20 then (px_v1 vs2 (fun y8 => (some (.inl (some (.int (if ¬ y8 = a1 then (0 : Int32) else (1 : Int32)))), s3, t4)))) else none))) (fun z6 => some z6))
set_option maxRecDepth 100000 in
theorem e_T_isWithin_22 (K : px_K) (N : Nat) (a0 : Int32) (a1 : Int32) (s : px_S) (t : px_W) (r : px_Res) (h : f_T_isWithin_22 K N a0 a1 s t = some r) : px_E px_ET px_P 6 162 0 (px_ent 5 [.ref 22, .int a0, .int a1]) [] (px_w K s t) r.1 (px_w K r.2.1 r.2.2) := by
  have hM : px_P[162]? = some pm_T_isWithin := rfl
  unfold f_T_isWithin_22 at h
  refine px_blk (i' := 4) (L' := [some (.ref 22), some (.int a0), some (.int a1), some (.int a0), some (.int (0 : Int32))]) (S' := []) (w' := px_w K s t) (q := []) 4 hM rfl trivial ?_
  rcases px_lp_some h with ⟨i1, vs2, s3, t4, hl5, h⟩ | ⟨z6, hl5, h⟩
  · by_cases hi7 : i1 = 12
    · subst hi7
      rw [if_pos rfl] at h
      have h9 := px_v0_some h
      clear h
      obtain ⟨rfl, h⟩ := h9
      refine px_E_le (px_leC_L _ _ (by simp [px_leC, px_le1, Value.category])) (e_l_T_isWithin_22_4 K N a1 N a0 (0 : Int32) s t _ hl5 _ _ ?_)
      show px_E px_ET px_P 6 162 12 [none, none, none, none, none] [] (px_w K s3 t4) _ _
      refine px_blk (i' := 13) (L' := [none, none, none, none, none]) (S' := [.int (1 : Int32)]) (w' := px_w K s3 t4) (q := []) 1 hM rfl trivial ?_
      cases h
      exact px_E_ret hM rfl rfl rfl (show (1 : Int32) = 0 ∨ (1 : Int32) = 1 from Or.inr rfl)
    · rw [if_neg hi7] at h
      by_cases hi9 : i1 = 20
      · subst hi9
        rw [if_pos rfl] at h
        have h9 := px_v1_some h
        clear h
        obtain ⟨y8, rfl, h⟩ := h9
        refine px_E_le (px_leC_L _ _ (by simp [px_leC, px_le1, Value.category])) (e_l_T_isWithin_22_4 K N a1 N a0 (0 : Int32) s t _ hl5 _ _ ?_)
        show px_E px_ET px_P 6 162 20 [none, none, some (.int a1), some (.int y8), none] [] (px_w K s3 t4) _ _
        refine px_blk (i' := 22) (L' := [none, none, some (.int a1), some (.int y8), none]) (S' := [.int a1, .int y8]) (w' := px_w K s3 t4) (q := []) 2 hM rfl trivial ?_
        have hK : px_E px_ET px_P 6 162 26 [none, none, some (.int a1), some (.int y8), none] [.int (if ¬ y8 = a1 then (0 : Int32) else (1 : Int32))] (px_w K s3 t4) r.1 (px_w K r.2.1 r.2.2) := by
          cases h
          exact px_E_ret hM rfl rfl rfl (show (if ¬ y8 = a1 then (0 : Int32) else (1 : Int32)) = 0 ∨ (if ¬ y8 = a1 then (0 : Int32) else (1 : Int32)) = 1 from (by split <;> simp))
        clear h
        refine px_blkif (c := ¬ y8 = a1) (t := 25) (e := 23) (L' := [none, none, some (.int a1), some (.int y8), none]) (S' := []) (w' := px_w K s3 t4) (q := []) 1 hM rfl trivial (fun hc10 => ?_) (fun hc10 => ?_)
        · rw [if_pos hc10] at hK
          exact px_blk (i' := 26) (L' := [none, none, some (.int a1), some (.int y8), none]) (S' := [.int (0 : Int32)]) (w' := px_w K s3 t4) (q := []) 1 hM rfl trivial hK
        · rw [if_neg hc10] at hK
          exact px_blk (i' := 26) (L' := [none, none, some (.int a1), some (.int y8), none]) (S' := [.int (1 : Int32)]) (w' := px_w K s3 t4) (q := []) 2 hM rfl trivial hK
      · rw [if_neg hi9] at h
        cases h
  · cases h
    exact px_E_le (px_leC_L _ _ (by simp [px_leC, px_le1, Value.category])) (e_l_T_isWithin_22_4 K N a1 N a0 (0 : Int32) s t _ hl5 _ _ ⟨rfl, rfl⟩)
noncomputable def f_T_rename_22 (K : px_K) (N : Nat) (a0 : Int32) (a1 : Int32) (a2 : Int32) (a3 : Int32) (s : px_S) (t : px_W) : Option px_Res :=
  (px_bi (f_T_isDirectory_22 K N a0 s t) (fun v4 s1 t2 => (if v4 = 0 then (some (.inl (some (.int (-4 : Int32))), s1, t2)) else (px_bi (f_T_isDirectory_22 K N a2 s1 t2) (fun v10 s7 t8 => (if v10 = 0 then (some (.inl (some (.int (-4 : Int32))), s7, t8)) else (if (1 : Int32) ≤ a3 then (if (1 : Int32) ≤ a1 then (px_bi (f_T_placeOf_22 K N a0 a1 s7 t8) (fun v18 s15 t16 => (if 0 ≤ v18 then (px_bi (f_T_placeOf_22 K N a2 a3 s15 t16) (fun v24 s21 t22 => (if v24 < 0 then (px_bi (f_T_entryWord_22 K N a0 v18 (1 : Int32) s21 t22) (fun v30 s27 t28 => (px_bi (f_T_isDirectory_22 K N v30 s27 t28) (fun v35 s32 t33 => (if v35 = 0 then (px_bi (f_T_placeForNew_22 K N a2 s32 t33) (fun v41 s38 t39 => (if 0 ≤ v41 then (px_bv (f_T_tellEntry_22 K N a2 v41 a3 v30 s38 t39) (fun s44 t45 => (px_bv (f_T_tellEntry_22 K N a0 v18 (0 : Int32) (0 : Int32) s44 t45) (fun s49 t50 => (some (.inl (some (.int (0 : Int32))), s49, t50))) (fun x53 s49 t50 => none))) (fun x48 s44 t45 => none)) else (some (.inl (some (.int (-3 : Int32))), s38, t39)))) (fun x42 s38 t39 => none)) else (px_bi (f_T_isWithin_22 K N a2 v30 s32 t33) (fun v57 s54 t55 => (if v57 = 0 then (px_bi (f_T_placeForNew_22 K N a2 s54 t55) (fun v63 s60 t61 => (if 0 ≤ v63 then (px_bv (f_T_tellEntry_22 K N a2 v63 a3 v30 s60 t61) (fun s66 t67 => (px_bv (f_T_tellEntry_22 K N a0 v18 (0 : Int32) (0 : Int32) s66 t67) (fun s71 t72 => (some (.inl (some (.int (0 : Int32))), s71, t72))) (fun x75 s71 t72 => none))) (fun x70 s66 t67 => none)) else (some (.inl (some (.int (-3 : Int32))), s60, t61)))) (fun x64 s60 t61 => none)) else (some (.inl (some (.int (-4 : Int32))), s54, t55)))) (fun x58 s54 t55 => none)))) (fun x36 s32 t33 => none))) (fun x31 s27 t28 => none)) else (some (.inl (some (.int (-2 : Int32))), s21, t22)))) (fun x25 s21 t22 => none)) else (some (.inl (some (.int (-1 : Int32))), s15, t16)))) (fun x19 s15 t16 => none)) else (if 0 ≤ (-1 : Int32) then (px_bi (f_T_placeOf_22 K N a2 a3 s7 t8) (fun v80 s77 t78 => (if v80 < 0 then (px_bi (f_T_entryWord_22 K N a0 (-1 : Int32) (1 : Int32) s77 t78) (fun v86 s83 t84 => (px_bi (f_T_isDirectory_22 K N v86 s83 t84) (fun v91 s88 t89 => (if v91 = 0 then (px_bi (f_T_placeForNew_22 K N a2 s88 t89) (fun v97 s94 t95 => (if 0 ≤ v97 then (px_bv (f_T_tellEntry_22 K N a2 v97 a3 v86 s94 t95) (fun s100 t101 => (px_bv (f_T_tellEntry_22 K N a0 (-1 : Int32) (0 : Int32) (0 : Int32) s100 t101) (fun s105 t106 => (some (.inl (some (.int (0 : Int32))), s105, t106))) (fun x109 s105 t106 => none))) (fun x104 s100 t101 => none)) else (some (.inl (some (.int (-3 : Int32))), s94, t95)))) (fun x98 s94 t95 => none)) else (px_bi (f_T_isWithin_22 K N a2 v86 s88 t89) (fun v113 s110 t111 => (if v113 = 0 then (px_bi (f_T_placeForNew_22 K N a2 s110 t111) (fun v119 s116 t117 => (if 0 ≤ v119 then (px_bv (f_T_tellEntry_22 K N a2 v119 a3 v86 s116 t117) (fun s122 t123 => (px_bv (f_T_tellEntry_22 K N a0 (-1 : Int32) (0 : Int32) (0 : Int32) s122 t123) (fun s127 t128 => (some (.inl (some (.int (0 : Int32))), s127, t128))) (fun x131 s127 t128 => none))) (fun x126 s122 t123 => none)) else (some (.inl (some (.int (-3 : Int32))), s116, t117)))) (fun x120 s116 t117 => none)) else (some (.inl (some (.int (-4 : Int32))), s110, t111)))) (fun x114 s110 t111 => none)))) (fun x92 s88 t89 => none))) (fun x87 s83 t84 => none)) else (some (.inl (some (.int (-2 : Int32))), s77, t78)))) (fun x81 s77 t78 => none)) else (some (.inl (some (.int (-1 : Int32))), s7, t8)))) else (some (.inl (some (.int (-4 : Int32))), s7, t8))))) (fun x11 s7 t8 => none)))) (fun x5 s1 t2 => none))
set_option maxRecDepth 100000 in
theorem e_T_rename_22 (K : px_K) (N : Nat) (a0 : Int32) (a1 : Int32) (a2 : Int32) (a3 : Int32) (s : px_S) (t : px_W) (r : px_Res) (h : f_T_rename_22 K N a0 a1 a2 a3 s t = some r) : px_E px_ET px_P 7 161 0 (px_ent 8 [.ref 22, .int a0, .int a1, .int a2, .int a3]) [] (px_w K s t) r.1 (px_w K r.2.1 r.2.2) := by
  have hM : px_P[161]? = some pm_T_rename := rfl
  unfold f_T_rename_22 at h
  refine px_blk (i' := 2) (L' := [some (.ref 22), some (.int a0), some (.int a1), some (.int a2), some (.int a3), none, none, none]) (S' := [.int a0, .ref 22]) (w' := px_w K s t) (q := []) 2 hM rfl trivial ?_
  rcases px_bi_some h with ⟨v4, s1, t2, hk3, h⟩ | ⟨x5, s1, t2, hk3, h⟩
  · refine px_E_call hM rfl rfl rfl rfl (px_E_mono (by decide) (e_T_isDirectory_22 K N a0 s t _ hk3)) ?_
    refine px_blkif (c := v4 = 0) (t := 11) (e := 4) (L' := [some (.ref 22), some (.int a0), some (.int a1), some (.int a2), some (.int a3), none, none, none]) (S' := []) (w' := px_w K s1 t2) (q := []) 1 hM rfl trivial (fun hc6 => ?_) (fun hc6 => ?_)
    · rw [if_pos hc6] at h
      refine px_blk (i' := 12) (L' := [some (.ref 22), some (.int a0), some (.int a1), some (.int a2), some (.int a3), none, none, none]) (S' := [.int (-4 : Int32)]) (w' := px_w K s1 t2) (q := []) 1 hM rfl trivial ?_
      cases h
      exact px_E_ret hM rfl rfl rfl trivial
    · rw [if_neg hc6] at h
      refine px_blk (i' := 6) (L' := [some (.ref 22), some (.int a0), some (.int a1), some (.int a2), some (.int a3), none, none, none]) (S' := [.int a2, .ref 22]) (w' := px_w K s1 t2) (q := []) 2 hM rfl trivial ?_
      rcases px_bi_some h with ⟨v10, s7, t8, hk9, h⟩ | ⟨x11, s7, t8, hk9, h⟩
      · refine px_E_call hM rfl rfl rfl rfl (px_E_mono (by decide) (e_T_isDirectory_22 K N a2 s1 t2 _ hk9)) ?_
        refine px_blkif (c := v10 = 0) (t := 11) (e := 8) (L' := [some (.ref 22), some (.int a0), some (.int a1), some (.int a2), some (.int a3), none, none, none]) (S' := []) (w' := px_w K s7 t8) (q := []) 1 hM rfl trivial (fun hc12 => ?_) (fun hc12 => ?_)
        · rw [if_pos hc12] at h
          refine px_blk (i' := 12) (L' := [some (.ref 22), some (.int a0), some (.int a1), some (.int a2), some (.int a3), none, none, none]) (S' := [.int (-4 : Int32)]) (w' := px_w K s7 t8) (q := []) 1 hM rfl trivial ?_
          cases h
          exact px_E_ret hM rfl rfl rfl trivial
        · rw [if_neg hc12] at h
          refine px_blkif (c := (1 : Int32) ≤ a3) (t := 13) (e := 11) (L' := [some (.ref 22), some (.int a0), some (.int a1), some (.int a2), some (.int a3), none, none, none]) (S' := []) (w' := px_w K s7 t8) (q := []) 3 hM rfl trivial (fun hc13 => ?_) (fun hc13 => ?_)
          · rw [if_pos hc13] at h
            refine px_blkif (c := (1 : Int32) ≤ a1) (t := 18) (e := 16) (L' := [some (.ref 22), some (.int a0), some (.int a1), some (.int a2), some (.int a3), none, none, none]) (S' := []) (w' := px_w K s7 t8) (q := []) 3 hM rfl trivial (fun hc14 => ?_) (fun hc14 => ?_)
            · rw [if_pos hc14] at h
              refine px_blk (i' := 21) (L' := [some (.ref 22), some (.int a0), some (.int a1), some (.int a2), some (.int a3), none, none, none]) (S' := [.int a1, .int a0, .ref 22]) (w' := px_w K s7 t8) (q := []) 3 hM rfl trivial ?_
              rcases px_bi_some h with ⟨v18, s15, t16, hk17, h⟩ | ⟨x19, s15, t16, hk17, h⟩
              · refine px_E_call hM rfl rfl rfl rfl (px_E_mono (by decide) (e_T_placeOf_22 K N a0 a1 s7 t8 _ hk17)) ?_
                refine px_blkif (c := 0 ≤ v18) (t := 27) (e := 25) (L' := [some (.ref 22), some (.int a0), some (.int a1), some (.int a2), some (.int a3), some (.int v18), none, none]) (S' := []) (w' := px_w K s15 t16) (q := []) 3 hM rfl trivial (fun hc20 => ?_) (fun hc20 => ?_)
                · rw [if_pos hc20] at h
                  refine px_blk (i' := 30) (L' := [some (.ref 22), some (.int a0), some (.int a1), some (.int a2), some (.int a3), some (.int v18), none, none]) (S' := [.int a3, .int a2, .ref 22]) (w' := px_w K s15 t16) (q := []) 3 hM rfl trivial ?_
                  rcases px_bi_some h with ⟨v24, s21, t22, hk23, h⟩ | ⟨x25, s21, t22, hk23, h⟩
                  · refine px_E_call hM rfl rfl rfl rfl (px_E_mono (by decide) (e_T_placeOf_22 K N a2 a3 s15 t16 _ hk23)) ?_
                    refine px_blkif (c := v24 < 0) (t := 34) (e := 32) (L' := [some (.ref 22), some (.int a0), some (.int a1), some (.int a2), some (.int a3), some (.int v18), none, none]) (S' := []) (w' := px_w K s21 t22) (q := []) 1 hM rfl trivial (fun hc26 => ?_) (fun hc26 => ?_)
                    · rw [if_pos hc26] at h
                      refine px_blk (i' := 38) (L' := [some (.ref 22), some (.int a0), some (.int a1), some (.int a2), some (.int a3), some (.int v18), none, none]) (S' := [.int (1 : Int32), .int v18, .int a0, .ref 22]) (w' := px_w K s21 t22) (q := []) 4 hM rfl trivial ?_
                      rcases px_bi_some h with ⟨v30, s27, t28, hk29, h⟩ | ⟨x31, s27, t28, hk29, h⟩
                      · refine px_E_call hM rfl rfl rfl rfl (px_E_mono (by decide) (e_T_entryWord_22 K N a0 v18 (1 : Int32) s21 t22 _ hk29)) ?_
                        refine px_blk (i' := 42) (L' := [some (.ref 22), some (.int a0), some (.int a1), some (.int a2), some (.int a3), some (.int v18), some (.int v30), none]) (S' := [.int v30, .ref 22]) (w' := px_w K s27 t28) (q := []) 3 hM rfl trivial ?_
                        rcases px_bi_some h with ⟨v35, s32, t33, hk34, h⟩ | ⟨x36, s32, t33, hk34, h⟩
                        · refine px_E_call hM rfl rfl rfl rfl (px_E_mono (by decide) (e_T_isDirectory_22 K N v30 s27 t28 _ hk34)) ?_
                          refine px_blkif (c := v35 = 0) (t := 51) (e := 44) (L' := [some (.ref 22), some (.int a0), some (.int a1), some (.int a2), some (.int a3), some (.int v18), some (.int v30), none]) (S' := []) (w' := px_w K s32 t33) (q := []) 1 hM rfl trivial (fun hc37 => ?_) (fun hc37 => ?_)
                          · rw [if_pos hc37] at h
                            refine px_blk (i' := 53) (L' := [some (.ref 22), some (.int a0), some (.int a1), some (.int a2), some (.int a3), some (.int v18), some (.int v30), none]) (S' := [.int a2, .ref 22]) (w' := px_w K s32 t33) (q := []) 2 hM rfl trivial ?_
                            rcases px_bi_some h with ⟨v41, s38, t39, hk40, h⟩ | ⟨x42, s38, t39, hk40, h⟩
                            · refine px_E_call hM rfl rfl rfl rfl (px_E_mono (by decide) (e_T_placeForNew_22 K N a2 s32 t33 _ hk40)) ?_
                              refine px_blkif (c := 0 ≤ v41) (t := 59) (e := 57) (L' := [some (.ref 22), some (.int a0), some (.int a1), some (.int a2), some (.int a3), some (.int v18), some (.int v30), some (.int v41)]) (S' := []) (w' := px_w K s38 t39) (q := []) 3 hM rfl trivial (fun hc43 => ?_) (fun hc43 => ?_)
                              · rw [if_pos hc43] at h
                                refine px_blk (i' := 64) (L' := [some (.ref 22), some (.int a0), some (.int a1), some (.int a2), some (.int a3), some (.int v18), some (.int v30), some (.int v41)]) (S' := [.int v30, .int a3, .int v41, .int a2, .ref 22]) (w' := px_w K s38 t39) (q := []) 5 hM rfl trivial ?_
                                rcases px_bv_some h with ⟨s44, t45, hk46, h⟩ | ⟨x48, s44, t45, hk46, h⟩
                                · refine px_E_call hM rfl rfl rfl rfl (px_E_mono (by decide) (e_T_tellEntry_22 K N a2 v41 a3 v30 s38 t39 _ hk46)) ?_
                                  refine px_blk (i' := 70) (L' := [some (.ref 22), some (.int a0), some (.int a1), some (.int a2), some (.int a3), some (.int v18), some (.int v30), some (.int v41)]) (S' := [.int (0 : Int32), .int (0 : Int32), .int v18, .int a0, .ref 22]) (w' := px_w K s44 t45) (q := []) 5 hM rfl trivial ?_
                                  rcases px_bv_some h with ⟨s49, t50, hk51, h⟩ | ⟨x53, s49, t50, hk51, h⟩
                                  · refine px_E_call hM rfl rfl rfl rfl (px_E_mono (by decide) (e_T_tellEntry_22 K N a0 v18 (0 : Int32) (0 : Int32) s44 t45 _ hk51)) ?_
                                    refine px_blk (i' := 72) (L' := [some (.ref 22), some (.int a0), some (.int a1), some (.int a2), some (.int a3), some (.int v18), some (.int v30), some (.int v41)]) (S' := [.int (0 : Int32)]) (w' := px_w K s49 t50) (q := []) 1 hM rfl trivial ?_
                                    cases h
                                    exact px_E_ret hM rfl rfl rfl trivial
                                  · cases h
                                · cases h
                              · rw [if_neg hc43] at h
                                refine px_blk (i' := 58) (L' := [some (.ref 22), some (.int a0), some (.int a1), some (.int a2), some (.int a3), some (.int v18), some (.int v30), some (.int v41)]) (S' := [.int (-3 : Int32)]) (w' := px_w K s38 t39) (q := []) 1 hM rfl trivial ?_
                                cases h
                                exact px_E_ret hM rfl rfl rfl trivial
                            · cases h
                          · rw [if_neg hc37] at h
                            refine px_blk (i' := 47) (L' := [some (.ref 22), some (.int a0), some (.int a1), some (.int a2), some (.int a3), some (.int v18), some (.int v30), none]) (S' := [.int v30, .int a2, .ref 22]) (w' := px_w K s32 t33) (q := []) 3 hM rfl trivial ?_
                            rcases px_bi_some h with ⟨v57, s54, t55, hk56, h⟩ | ⟨x58, s54, t55, hk56, h⟩
                            · refine px_E_call hM rfl rfl rfl rfl (px_E_mono (by decide) (e_T_isWithin_22 K N a2 v30 s32 t33 _ hk56)) ?_
                              refine px_blkif (c := v57 = 0) (t := 51) (e := 49) (L' := [some (.ref 22), some (.int a0), some (.int a1), some (.int a2), some (.int a3), some (.int v18), some (.int v30), none]) (S' := []) (w' := px_w K s54 t55) (q := []) 1 hM rfl trivial (fun hc59 => ?_) (fun hc59 => ?_)
                              · rw [if_pos hc59] at h
                                refine px_blk (i' := 53) (L' := [some (.ref 22), some (.int a0), some (.int a1), some (.int a2), some (.int a3), some (.int v18), some (.int v30), none]) (S' := [.int a2, .ref 22]) (w' := px_w K s54 t55) (q := []) 2 hM rfl trivial ?_
                                rcases px_bi_some h with ⟨v63, s60, t61, hk62, h⟩ | ⟨x64, s60, t61, hk62, h⟩
                                · refine px_E_call hM rfl rfl rfl rfl (px_E_mono (by decide) (e_T_placeForNew_22 K N a2 s54 t55 _ hk62)) ?_
                                  refine px_blkif (c := 0 ≤ v63) (t := 59) (e := 57) (L' := [some (.ref 22), some (.int a0), some (.int a1), some (.int a2), some (.int a3), some (.int v18), some (.int v30), some (.int v63)]) (S' := []) (w' := px_w K s60 t61) (q := []) 3 hM rfl trivial (fun hc65 => ?_) (fun hc65 => ?_)
                                  · rw [if_pos hc65] at h
                                    refine px_blk (i' := 64) (L' := [some (.ref 22), some (.int a0), some (.int a1), some (.int a2), some (.int a3), some (.int v18), some (.int v30), some (.int v63)]) (S' := [.int v30, .int a3, .int v63, .int a2, .ref 22]) (w' := px_w K s60 t61) (q := []) 5 hM rfl trivial ?_
                                    rcases px_bv_some h with ⟨s66, t67, hk68, h⟩ | ⟨x70, s66, t67, hk68, h⟩
                                    · refine px_E_call hM rfl rfl rfl rfl (px_E_mono (by decide) (e_T_tellEntry_22 K N a2 v63 a3 v30 s60 t61 _ hk68)) ?_
                                      refine px_blk (i' := 70) (L' := [some (.ref 22), some (.int a0), some (.int a1), some (.int a2), some (.int a3), some (.int v18), some (.int v30), some (.int v63)]) (S' := [.int (0 : Int32), .int (0 : Int32), .int v18, .int a0, .ref 22]) (w' := px_w K s66 t67) (q := []) 5 hM rfl trivial ?_
                                      rcases px_bv_some h with ⟨s71, t72, hk73, h⟩ | ⟨x75, s71, t72, hk73, h⟩
                                      · refine px_E_call hM rfl rfl rfl rfl (px_E_mono (by decide) (e_T_tellEntry_22 K N a0 v18 (0 : Int32) (0 : Int32) s66 t67 _ hk73)) ?_
                                        refine px_blk (i' := 72) (L' := [some (.ref 22), some (.int a0), some (.int a1), some (.int a2), some (.int a3), some (.int v18), some (.int v30), some (.int v63)]) (S' := [.int (0 : Int32)]) (w' := px_w K s71 t72) (q := []) 1 hM rfl trivial ?_
                                        cases h
                                        exact px_E_ret hM rfl rfl rfl trivial
                                      · cases h
                                    · cases h
                                  · rw [if_neg hc65] at h
                                    refine px_blk (i' := 58) (L' := [some (.ref 22), some (.int a0), some (.int a1), some (.int a2), some (.int a3), some (.int v18), some (.int v30), some (.int v63)]) (S' := [.int (-3 : Int32)]) (w' := px_w K s60 t61) (q := []) 1 hM rfl trivial ?_
                                    cases h
                                    exact px_E_ret hM rfl rfl rfl trivial
                                · cases h
                              · rw [if_neg hc59] at h
                                refine px_blk (i' := 50) (L' := [some (.ref 22), some (.int a0), some (.int a1), some (.int a2), some (.int a3), some (.int v18), some (.int v30), none]) (S' := [.int (-4 : Int32)]) (w' := px_w K s54 t55) (q := []) 1 hM rfl trivial ?_
                                cases h
                                exact px_E_ret hM rfl rfl rfl trivial
                            · cases h
                        · cases h
                      · cases h
                    · rw [if_neg hc26] at h
                      refine px_blk (i' := 33) (L' := [some (.ref 22), some (.int a0), some (.int a1), some (.int a2), some (.int a3), some (.int v18), none, none]) (S' := [.int (-2 : Int32)]) (w' := px_w K s21 t22) (q := []) 1 hM rfl trivial ?_
                      cases h
                      exact px_E_ret hM rfl rfl rfl trivial
                  · cases h
                · rw [if_neg hc20] at h
                  refine px_blk (i' := 26) (L' := [some (.ref 22), some (.int a0), some (.int a1), some (.int a2), some (.int a3), some (.int v18), none, none]) (S' := [.int (-1 : Int32)]) (w' := px_w K s15 t16) (q := []) 1 hM rfl trivial ?_
                  cases h
                  exact px_E_ret hM rfl rfl rfl trivial
              · cases h
            · rw [if_neg hc14] at h
              refine px_blkif (c := 0 ≤ (-1 : Int32)) (t := 27) (e := 25) (L' := [some (.ref 22), some (.int a0), some (.int a1), some (.int a2), some (.int a3), some (.int (-1 : Int32)), none, none]) (S' := []) (w' := px_w K s7 t8) (q := []) 5 hM rfl trivial (fun hc76 => ?_) (fun hc76 => ?_)
              · rw [if_pos hc76] at h
                refine px_blk (i' := 30) (L' := [some (.ref 22), some (.int a0), some (.int a1), some (.int a2), some (.int a3), some (.int (-1 : Int32)), none, none]) (S' := [.int a3, .int a2, .ref 22]) (w' := px_w K s7 t8) (q := []) 3 hM rfl trivial ?_
                rcases px_bi_some h with ⟨v80, s77, t78, hk79, h⟩ | ⟨x81, s77, t78, hk79, h⟩
                · refine px_E_call hM rfl rfl rfl rfl (px_E_mono (by decide) (e_T_placeOf_22 K N a2 a3 s7 t8 _ hk79)) ?_
                  refine px_blkif (c := v80 < 0) (t := 34) (e := 32) (L' := [some (.ref 22), some (.int a0), some (.int a1), some (.int a2), some (.int a3), some (.int (-1 : Int32)), none, none]) (S' := []) (w' := px_w K s77 t78) (q := []) 1 hM rfl trivial (fun hc82 => ?_) (fun hc82 => ?_)
                  · rw [if_pos hc82] at h
                    refine px_blk (i' := 38) (L' := [some (.ref 22), some (.int a0), some (.int a1), some (.int a2), some (.int a3), some (.int (-1 : Int32)), none, none]) (S' := [.int (1 : Int32), .int (-1 : Int32), .int a0, .ref 22]) (w' := px_w K s77 t78) (q := []) 4 hM rfl trivial ?_
                    rcases px_bi_some h with ⟨v86, s83, t84, hk85, h⟩ | ⟨x87, s83, t84, hk85, h⟩
                    · refine px_E_call hM rfl rfl rfl rfl (px_E_mono (by decide) (e_T_entryWord_22 K N a0 (-1 : Int32) (1 : Int32) s77 t78 _ hk85)) ?_
                      refine px_blk (i' := 42) (L' := [some (.ref 22), some (.int a0), some (.int a1), some (.int a2), some (.int a3), some (.int (-1 : Int32)), some (.int v86), none]) (S' := [.int v86, .ref 22]) (w' := px_w K s83 t84) (q := []) 3 hM rfl trivial ?_
                      rcases px_bi_some h with ⟨v91, s88, t89, hk90, h⟩ | ⟨x92, s88, t89, hk90, h⟩
                      · refine px_E_call hM rfl rfl rfl rfl (px_E_mono (by decide) (e_T_isDirectory_22 K N v86 s83 t84 _ hk90)) ?_
                        refine px_blkif (c := v91 = 0) (t := 51) (e := 44) (L' := [some (.ref 22), some (.int a0), some (.int a1), some (.int a2), some (.int a3), some (.int (-1 : Int32)), some (.int v86), none]) (S' := []) (w' := px_w K s88 t89) (q := []) 1 hM rfl trivial (fun hc93 => ?_) (fun hc93 => ?_)
                        · rw [if_pos hc93] at h
                          refine px_blk (i' := 53) (L' := [some (.ref 22), some (.int a0), some (.int a1), some (.int a2), some (.int a3), some (.int (-1 : Int32)), some (.int v86), none]) (S' := [.int a2, .ref 22]) (w' := px_w K s88 t89) (q := []) 2 hM rfl trivial ?_
                          rcases px_bi_some h with ⟨v97, s94, t95, hk96, h⟩ | ⟨x98, s94, t95, hk96, h⟩
                          · refine px_E_call hM rfl rfl rfl rfl (px_E_mono (by decide) (e_T_placeForNew_22 K N a2 s88 t89 _ hk96)) ?_
                            refine px_blkif (c := 0 ≤ v97) (t := 59) (e := 57) (L' := [some (.ref 22), some (.int a0), some (.int a1), some (.int a2), some (.int a3), some (.int (-1 : Int32)), some (.int v86), some (.int v97)]) (S' := []) (w' := px_w K s94 t95) (q := []) 3 hM rfl trivial (fun hc99 => ?_) (fun hc99 => ?_)
                            · rw [if_pos hc99] at h
                              refine px_blk (i' := 64) (L' := [some (.ref 22), some (.int a0), some (.int a1), some (.int a2), some (.int a3), some (.int (-1 : Int32)), some (.int v86), some (.int v97)]) (S' := [.int v86, .int a3, .int v97, .int a2, .ref 22]) (w' := px_w K s94 t95) (q := []) 5 hM rfl trivial ?_
                              rcases px_bv_some h with ⟨s100, t101, hk102, h⟩ | ⟨x104, s100, t101, hk102, h⟩
                              · refine px_E_call hM rfl rfl rfl rfl (px_E_mono (by decide) (e_T_tellEntry_22 K N a2 v97 a3 v86 s94 t95 _ hk102)) ?_
                                refine px_blk (i' := 70) (L' := [some (.ref 22), some (.int a0), some (.int a1), some (.int a2), some (.int a3), some (.int (-1 : Int32)), some (.int v86), some (.int v97)]) (S' := [.int (0 : Int32), .int (0 : Int32), .int (-1 : Int32), .int a0, .ref 22]) (w' := px_w K s100 t101) (q := []) 5 hM rfl trivial ?_
                                rcases px_bv_some h with ⟨s105, t106, hk107, h⟩ | ⟨x109, s105, t106, hk107, h⟩
                                · refine px_E_call hM rfl rfl rfl rfl (px_E_mono (by decide) (e_T_tellEntry_22 K N a0 (-1 : Int32) (0 : Int32) (0 : Int32) s100 t101 _ hk107)) ?_
                                  refine px_blk (i' := 72) (L' := [some (.ref 22), some (.int a0), some (.int a1), some (.int a2), some (.int a3), some (.int (-1 : Int32)), some (.int v86), some (.int v97)]) (S' := [.int (0 : Int32)]) (w' := px_w K s105 t106) (q := []) 1 hM rfl trivial ?_
                                  cases h
                                  exact px_E_ret hM rfl rfl rfl trivial
                                · cases h
                              · cases h
                            · rw [if_neg hc99] at h
                              refine px_blk (i' := 58) (L' := [some (.ref 22), some (.int a0), some (.int a1), some (.int a2), some (.int a3), some (.int (-1 : Int32)), some (.int v86), some (.int v97)]) (S' := [.int (-3 : Int32)]) (w' := px_w K s94 t95) (q := []) 1 hM rfl trivial ?_
                              cases h
                              exact px_E_ret hM rfl rfl rfl trivial
                          · cases h
                        · rw [if_neg hc93] at h
                          refine px_blk (i' := 47) (L' := [some (.ref 22), some (.int a0), some (.int a1), some (.int a2), some (.int a3), some (.int (-1 : Int32)), some (.int v86), none]) (S' := [.int v86, .int a2, .ref 22]) (w' := px_w K s88 t89) (q := []) 3 hM rfl trivial ?_
                          rcases px_bi_some h with ⟨v113, s110, t111, hk112, h⟩ | ⟨x114, s110, t111, hk112, h⟩
                          · refine px_E_call hM rfl rfl rfl rfl (px_E_mono (by decide) (e_T_isWithin_22 K N a2 v86 s88 t89 _ hk112)) ?_
                            refine px_blkif (c := v113 = 0) (t := 51) (e := 49) (L' := [some (.ref 22), some (.int a0), some (.int a1), some (.int a2), some (.int a3), some (.int (-1 : Int32)), some (.int v86), none]) (S' := []) (w' := px_w K s110 t111) (q := []) 1 hM rfl trivial (fun hc115 => ?_) (fun hc115 => ?_)
                            · rw [if_pos hc115] at h
                              refine px_blk (i' := 53) (L' := [some (.ref 22), some (.int a0), some (.int a1), some (.int a2), some (.int a3), some (.int (-1 : Int32)), some (.int v86), none]) (S' := [.int a2, .ref 22]) (w' := px_w K s110 t111) (q := []) 2 hM rfl trivial ?_
                              rcases px_bi_some h with ⟨v119, s116, t117, hk118, h⟩ | ⟨x120, s116, t117, hk118, h⟩
                              · refine px_E_call hM rfl rfl rfl rfl (px_E_mono (by decide) (e_T_placeForNew_22 K N a2 s110 t111 _ hk118)) ?_
                                refine px_blkif (c := 0 ≤ v119) (t := 59) (e := 57) (L' := [some (.ref 22), some (.int a0), some (.int a1), some (.int a2), some (.int a3), some (.int (-1 : Int32)), some (.int v86), some (.int v119)]) (S' := []) (w' := px_w K s116 t117) (q := []) 3 hM rfl trivial (fun hc121 => ?_) (fun hc121 => ?_)
                                · rw [if_pos hc121] at h
                                  refine px_blk (i' := 64) (L' := [some (.ref 22), some (.int a0), some (.int a1), some (.int a2), some (.int a3), some (.int (-1 : Int32)), some (.int v86), some (.int v119)]) (S' := [.int v86, .int a3, .int v119, .int a2, .ref 22]) (w' := px_w K s116 t117) (q := []) 5 hM rfl trivial ?_
                                  rcases px_bv_some h with ⟨s122, t123, hk124, h⟩ | ⟨x126, s122, t123, hk124, h⟩
                                  · refine px_E_call hM rfl rfl rfl rfl (px_E_mono (by decide) (e_T_tellEntry_22 K N a2 v119 a3 v86 s116 t117 _ hk124)) ?_
                                    refine px_blk (i' := 70) (L' := [some (.ref 22), some (.int a0), some (.int a1), some (.int a2), some (.int a3), some (.int (-1 : Int32)), some (.int v86), some (.int v119)]) (S' := [.int (0 : Int32), .int (0 : Int32), .int (-1 : Int32), .int a0, .ref 22]) (w' := px_w K s122 t123) (q := []) 5 hM rfl trivial ?_
                                    rcases px_bv_some h with ⟨s127, t128, hk129, h⟩ | ⟨x131, s127, t128, hk129, h⟩
                                    · refine px_E_call hM rfl rfl rfl rfl (px_E_mono (by decide) (e_T_tellEntry_22 K N a0 (-1 : Int32) (0 : Int32) (0 : Int32) s122 t123 _ hk129)) ?_
                                      refine px_blk (i' := 72) (L' := [some (.ref 22), some (.int a0), some (.int a1), some (.int a2), some (.int a3), some (.int (-1 : Int32)), some (.int v86), some (.int v119)]) (S' := [.int (0 : Int32)]) (w' := px_w K s127 t128) (q := []) 1 hM rfl trivial ?_
                                      cases h
                                      exact px_E_ret hM rfl rfl rfl trivial
                                    · cases h
                                  · cases h
                                · rw [if_neg hc121] at h
                                  refine px_blk (i' := 58) (L' := [some (.ref 22), some (.int a0), some (.int a1), some (.int a2), some (.int a3), some (.int (-1 : Int32)), some (.int v86), some (.int v119)]) (S' := [.int (-3 : Int32)]) (w' := px_w K s116 t117) (q := []) 1 hM rfl trivial ?_
                                  cases h
                                  exact px_E_ret hM rfl rfl rfl trivial
                              · cases h
                            · rw [if_neg hc115] at h
                              refine px_blk (i' := 50) (L' := [some (.ref 22), some (.int a0), some (.int a1), some (.int a2), some (.int a3), some (.int (-1 : Int32)), some (.int v86), none]) (S' := [.int (-4 : Int32)]) (w' := px_w K s110 t111) (q := []) 1 hM rfl trivial ?_
                              cases h
                              exact px_E_ret hM rfl rfl rfl trivial
                          · cases h
                      · cases h
                    · cases h
                  · rw [if_neg hc82] at h
                    refine px_blk (i' := 33) (L' := [some (.ref 22), some (.int a0), some (.int a1), some (.int a2), some (.int a3), some (.int (-1 : Int32)), none, none]) (S' := [.int (-2 : Int32)]) (w' := px_w K s77 t78) (q := []) 1 hM rfl trivial ?_
                    cases h
                    exact px_E_ret hM rfl rfl rfl trivial
                · cases h
              · rw [if_neg hc76] at h
                refine px_blk (i' := 26) (L' := [some (.ref 22), some (.int a0), some (.int a1), some (.int a2), some (.int a3), some (.int (-1 : Int32)), none, none]) (S' := [.int (-1 : Int32)]) (w' := px_w K s7 t8) (q := []) 1 hM rfl trivial ?_
                cases h
                exact px_E_ret hM rfl rfl rfl trivial
          · rw [if_neg hc13] at h
            refine px_blk (i' := 12) (L' := [some (.ref 22), some (.int a0), some (.int a1), some (.int a2), some (.int a3), none, none, none]) (S' := [.int (-4 : Int32)]) (w' := px_w K s7 t8) (q := []) 1 hM rfl trivial ?_
            cases h
            exact px_E_ret hM rfl rfl rfl trivial
      · cases h
  · cases h
noncomputable def f_E_move_1 (K : px_K) (N : Nat) (a0 : Int32) (a1 : Int32) (a2 : Int32) (a3 : Int32) (s : px_S) (t : px_W) : Option px_Res :=
  (if ¬ (s.1 0) = 0 then (px_bv (f_T_commitAbove_22 K N (7 : Int32) s t) (fun s2 t3 => (px_bi (f_T_rename_22 K N a0 a1 a2 a3 s2 t3) (fun v10 s7 t8 => (some (.inl (some (.int v10)), s7, t8))) (fun x11 s7 t8 => none))) (fun x6 s2 t3 => (px_gd (px_isx t3 x6 7) (px_bi (f_E_goDown_1 K N (s2.2.1 2) s2 t3) (fun v15 s12 t13 => (some (.inl (some (.int v15)), s12, t13))) (fun x16 s12 t13 => none))))) else (some (.inl (some (.int (-9 : Int32))), s, t)))
set_option maxRecDepth 100000 in
theorem e_E_move_1 (K : px_K) (N : Nat) (a0 : Int32) (a1 : Int32) (a2 : Int32) (a3 : Int32) (s : px_S) (t : px_W) (r : px_Res) (h : f_E_move_1 K N a0 a1 a2 a3 s t = some r) : px_E px_ET px_P 15 7 0 (px_ent 6 [.ref 1, .int a0, .int a1, .int a2, .int a3]) [] (px_w K s t) r.1 (px_w K r.2.1 r.2.2) := by
  have hM : px_P[7]? = some pm_E_move := rfl
  unfold f_E_move_1 at h
  refine px_blkif (c := ¬ (s.1 0) = 0) (t := 6) (e := 4) (L' := [some (.ref 1), some (.int a0), some (.int a1), some (.int a2), some (.int a3), none]) (S' := []) (w' := px_w K s t) (q := []) 4 hM rfl trivial (fun hc1 => ?_) (fun hc1 => ?_)
  · rw [if_pos hc1] at h
    refine px_blk (i' := 9) (L' := [some (.ref 1), some (.int a0), some (.int a1), some (.int a2), some (.int a3), none]) (S' := [.int (7 : Int32), .ref 22]) (w' := px_w K s t) (q := []) 3 hM rfl trivial ?_
    rcases px_bv_some h with ⟨s2, t3, hk4, h⟩ | ⟨x6, s2, t3, hk4, h⟩
    · refine px_E_call hM rfl rfl rfl rfl (px_E_mono (by decide) (e_T_commitAbove_22 K N (7 : Int32) s t _ hk4)) ?_
      refine px_blk (i' := 16) (L' := [some (.ref 1), some (.int a0), some (.int a1), some (.int a2), some (.int a3), none]) (S' := [.int a3, .int a2, .int a1, .int a0, .ref 22]) (w' := px_w K s2 t3) (q := []) 6 hM rfl trivial ?_
      rcases px_bi_some h with ⟨v10, s7, t8, hk9, h⟩ | ⟨x11, s7, t8, hk9, h⟩
      · refine px_E_call hM rfl rfl rfl rfl (px_E_mono (by decide) (e_T_rename_22 K N a0 a1 a2 a3 s2 t3 _ hk9)) ?_
        cases h
        exact px_E_ret hM rfl rfl rfl trivial
      · cases h
    · obtain ⟨hx17, h⟩ := px_gd_some h
      refine px_E_callC hM rfl rfl rfl rfl (px_E_mono (by decide) (e_T_commitAbove_22 K N (7 : Int32) s t _ hk4)) (px_hnd_of rfl rfl hx17) ?_
      refine px_blk (i' := 23) (L' := [some (.ref 1), some (.int a0), some (.int a1), some (.int a2), some (.int a3), some (.ref (x6))]) (S' := [.long (s2.2.1 2), .ref 1]) (w' := px_w K s2 t3) (q := []) 5 hM rfl trivial ?_
      rcases px_bi_some h with ⟨v15, s12, t13, hk14, h⟩ | ⟨x16, s12, t13, hk14, h⟩
      · refine px_E_call hM rfl rfl rfl rfl (px_E_mono (by decide) (e_E_goDown_1 K N (s2.2.1 2) s2 t3 _ hk14)) ?_
        cases h
        exact px_E_ret hM rfl rfl rfl trivial
      · cases h
  · rw [if_neg hc1] at h
    refine px_blk (i' := 5) (L' := [some (.ref 1), some (.int a0), some (.int a1), some (.int a2), some (.int a3), none]) (S' := [.int (-9 : Int32)]) (w' := px_w K s t) (q := []) 1 hM rfl trivial ?_
    cases h
    exact px_E_ret hM rfl rfl rfl trivial
noncomputable def l_T_blocksOf_22_10 (K : px_K) (N : Nat) (n : Nat) (u1 : Int32) (m2 : Int32) (m3 : Int32) (s : px_S) (t : px_W) : Option px_LO := match n with
  | 0 => none
  | n + 1 => (if (20 : Int32) ≤ m3 then (some (.inl (21, [m2], s, t))) else (px_bi (f_T_blockOf_22 K N u1 m3 s t) (fun v5 s2 t3 => (if v5 = 0 then (l_T_blocksOf_22_10 K N n u1 m2 (m3 + (1 : Int32)) s2 t3) else (l_T_blocksOf_22_10 K N n u1 (m2 + (1 : Int32)) (m3 + (1 : Int32)) s2 t3))) (fun x6 s2 t3 => none)))
def a_l_T_blocksOf_22_10 (K : px_K) (u1 : Int32) (z : px_LO) (o : Option Value ⊕ Nat) (w2 : px_W) : Prop := match z with
  | .inr (o', s', t') => o = o' ∧ w2 = px_w K s' t'
  | .inl (21, [y2], s', t') => px_E px_ET px_P 4 147 21 [none, none, some (.int y2), none] [] (px_w K s' t') o w2
  | _ => False
set_option maxRecDepth 100000 in
theorem e_l_T_blocksOf_22_10 (K : px_K) (N : Nat) (u1 : Int32) : ∀ (n : Nat) (m2 : Int32) (m3 : Int32) (s : px_S) (t : px_W) (z : px_LO), l_T_blocksOf_22_10 K N n u1 m2 m3 s t = some z → ∀ (o : Option Value ⊕ Nat) (w2 : px_W), a_l_T_blocksOf_22_10 K u1 z o w2 → px_E px_ET px_P 4 147 10 [some (.ref 22), some (.int u1), some (.int m2), some (.int m3)] [] (px_w K s t) o w2 := by
  have hM : px_P[147]? = some pm_T_blocksOf := rfl
  intro n
  induction n with
  | zero => intro m2 m3 s t z h; cases h
  | succ n ih =>
    intro m2 m3 s t z h o w2 ha
    unfold l_T_blocksOf_22_10 at h
    refine px_blkif (c := (20 : Int32) ≤ m3) (t := 21) (e := 13) (L' := [some (.ref 22), some (.int u1), some (.int m2), some (.int m3)]) (S' := []) (w' := px_w K s t) (q := []) 3 hM rfl trivial (fun hc1 => ?_) (fun hc1 => ?_)
    · rw [if_pos hc1] at h
      cases h
      exact px_E_le (px_leC_L _ _ (by simp [px_leC, px_le1, Value.category])) ha
    · rw [if_neg hc1] at h
      refine px_blk (i' := 16) (L' := [some (.ref 22), some (.int u1), some (.int m2), some (.int m3)]) (S' := [.int m3, .int u1, .ref 22]) (w' := px_w K s t) (q := []) 3 hM rfl trivial ?_
      rcases px_bi_some h with ⟨v5, s2, t3, hk4, h⟩ | ⟨x6, s2, t3, hk4, h⟩
      · refine px_E_call hM rfl rfl rfl rfl (px_E_mono (by decide) (e_T_blockOf_22 K N u1 m3 s t _ hk4)) ?_
        refine px_blkif (c := v5 = 0) (t := 19) (e := 18) (L' := [some (.ref 22), some (.int u1), some (.int m2), some (.int m3)]) (S' := []) (w' := px_w K s2 t3) (q := []) 1 hM rfl trivial (fun hc7 => ?_) (fun hc7 => ?_)
        · rw [if_pos hc7] at h
          refine px_blk (i' := 10) (L' := [some (.ref 22), some (.int u1), some (.int m2), some (.int (m3 + (1 : Int32)))]) (S' := []) (w' := px_w K s2 t3) (q := []) 2 hM rfl trivial ?_
          exact ih m2 (m3 + (1 : Int32)) s2 t3 z h o w2 ha
        · rw [if_neg hc7] at h
          refine px_blk (i' := 10) (L' := [some (.ref 22), some (.int u1), some (.int (m2 + (1 : Int32))), some (.int (m3 + (1 : Int32)))]) (S' := []) (w' := px_w K s2 t3) (q := []) 3 hM rfl trivial ?_
          exact ih (m2 + (1 : Int32)) (m3 + (1 : Int32)) s2 t3 z h o w2 ha
      · cases h
noncomputable def f_T_blocksOf_22 (K : px_K) (N : Nat) (a0 : Int32) (s : px_S) (t : px_W) : Option px_Res :=
  (px_bi (f_T_indirectOf_22 K N a0 s t) (fun v4 s1 t2 => (px_let (if ¬ v4 = 0 then (1 : Int32) else (0 : Int32)) (fun v6 => (px_lp (l_T_blocksOf_22_10 K N N a0 v6 (0 : Int32) s1 t2) (fun i8 vs9 s10 t11 => (if i8 = 21 then (px_v1 vs9 (fun y14 => (some (.inl (some (.int y14)), s10, t11)))) else none)) (fun z13 => some z13))))) (fun x5 s1 t2 => none))
set_option maxRecDepth 100000 in
theorem e_T_blocksOf_22 (K : px_K) (N : Nat) (a0 : Int32) (s : px_S) (t : px_W) (r : px_Res) (h : f_T_blocksOf_22 K N a0 s t = some r) : px_E px_ET px_P 4 147 0 (px_ent 4 [.ref 22, .int a0]) [] (px_w K s t) r.1 (px_w K r.2.1 r.2.2) := by
  have hM : px_P[147]? = some pm_T_blocksOf := rfl
  unfold f_T_blocksOf_22 at h
  refine px_blk (i' := 2) (L' := [some (.ref 22), some (.int a0), none, none]) (S' := [.int a0, .ref 22]) (w' := px_w K s t) (q := []) 2 hM rfl trivial ?_
  rcases px_bi_some h with ⟨v4, s1, t2, hk3, h⟩ | ⟨x5, s1, t2, hk3, h⟩
  · refine px_E_call hM rfl rfl rfl rfl (px_E_mono (by decide) (e_T_indirectOf_22 K N a0 s t _ hk3)) ?_
    have hK : px_E px_ET px_P 4 147 7 [some (.ref 22), some (.int a0), none, none] [.int (if ¬ v4 = 0 then (1 : Int32) else (0 : Int32))] (px_w K s1 t2) r.1 (px_w K r.2.1 r.2.2) := by
      refine px_blk (i' := 8) (L' := [some (.ref 22), some (.int a0), some (.int (if ¬ v4 = 0 then (1 : Int32) else (0 : Int32))), none]) (S' := []) (w' := px_w K s1 t2) (q := []) 1 hM rfl trivial ?_
      obtain ⟨v6, hv7, h⟩ := px_let_some h
      rw [← hv7]
      refine px_blk (i' := 10) (L' := [some (.ref 22), some (.int a0), some (.int v6), some (.int (0 : Int32))]) (S' := []) (w' := px_w K s1 t2) (q := []) 2 hM rfl trivial ?_
      rcases px_lp_some h with ⟨i8, vs9, s10, t11, hl12, h⟩ | ⟨z13, hl12, h⟩
      · by_cases hi15 : i8 = 21
        · subst hi15
          rw [if_pos rfl] at h
          have h9 := px_v1_some h
          clear h
          obtain ⟨y14, rfl, h⟩ := h9
          refine e_l_T_blocksOf_22_10 K N a0 N v6 (0 : Int32) s1 t2 _ hl12 _ _ ?_
          show px_E px_ET px_P 4 147 21 [none, none, some (.int y14), none] [] (px_w K s10 t11) _ _
          refine px_blk (i' := 22) (L' := [none, none, some (.int y14), none]) (S' := [.int y14]) (w' := px_w K s10 t11) (q := []) 1 hM rfl trivial ?_
          cases h
          exact px_E_ret hM rfl rfl rfl trivial
        · rw [if_neg hi15] at h
          cases h
      · cases h
        exact e_l_T_blocksOf_22_10 K N a0 N v6 (0 : Int32) s1 t2 _ hl12 _ _ ⟨rfl, rfl⟩
    clear h
    refine px_blkif (c := ¬ v4 = 0) (t := 6) (e := 4) (L' := [some (.ref 22), some (.int a0), none, none]) (S' := []) (w' := px_w K s1 t2) (q := []) 1 hM rfl trivial (fun hc16 => ?_) (fun hc16 => ?_)
    · rw [if_pos hc16] at hK
      exact px_blk (i' := 7) (L' := [some (.ref 22), some (.int a0), none, none]) (S' := [.int (1 : Int32)]) (w' := px_w K s1 t2) (q := []) 1 hM rfl trivial hK
    · rw [if_neg hc16] at hK
      exact px_blk (i' := 7) (L' := [some (.ref 22), some (.int a0), none, none]) (S' := [.int (0 : Int32)]) (w' := px_w K s1 t2) (q := []) 2 hM rfl trivial hK
  · cases h
noncomputable def f_E_inode_1 (K : px_K) (N : Nat) (a0 : Int32) (a1 : Int32) (s : px_S) (t : px_W) : Option px_Res :=
  (if (s.1 0) = 0 then (some (.inl (some (.int (-1 : Int32))), s, t)) else (if a0 < 0 then (some (.inl (some (.int (-1 : Int32))), s, t)) else (if a0 < (24 : Int32) then (if a1.toInt = 0 then (px_bi (f_T_inodeWord_22 K N a0 (0 : Int32) s t) (fun v8 s5 t6 => (some (.inl (some (.int v8)), s5, t6))) (fun x9 s5 t6 => none)) else (if a1.toInt = 1 then (px_bi (f_T_inodeWord_22 K N a0 (1 : Int32) s t) (fun v14 s11 t12 => (some (.inl (some (.int v14)), s11, t12))) (fun x15 s11 t12 => none)) else (if a1.toInt = 2 then (px_bi (f_T_isDirectory_22 K N a0 s t) (fun v20 s17 t18 => (if v20 = 0 then (some (.inl (some (.int (0 : Int32))), s17, t18)) else (px_bi (f_T_namesIn_22 K N a0 s17 t18) (fun v26 s23 t24 => (some (.inl (some (.int v26)), s23, t24))) (fun x27 s23 t24 => none)))) (fun x21 s17 t18 => none)) else (if a1.toInt = 3 then (px_bi (f_T_blocksOf_22 K N a0 s t) (fun v32 s29 t30 => (some (.inl (some (.int v32)), s29, t30))) (fun x33 s29 t30 => none)) else (some (.inl (some (.int (-1 : Int32))), s, t)))))) else (some (.inl (some (.int (-1 : Int32))), s, t)))))
set_option maxRecDepth 100000 in
theorem e_E_inode_1 (K : px_K) (N : Nat) (a0 : Int32) (a1 : Int32) (s : px_S) (t : px_W) (r : px_Res) (h : f_E_inode_1 K N a0 a1 s t = some r) : px_E px_ET px_P 6 8 0 (px_ent 3 [.ref 1, .int a0, .int a1]) [] (px_w K s t) r.1 (px_w K r.2.1 r.2.2) := by
  have hM : px_P[8]? = some pm_E_inode := rfl
  unfold f_E_inode_1 at h
  refine px_blkif (c := (s.1 0) = 0) (t := 9) (e := 4) (L' := [some (.ref 1), some (.int a0), some (.int a1)]) (S' := []) (w' := px_w K s t) (q := []) 4 hM rfl trivial (fun hc1 => ?_) (fun hc1 => ?_)
  · rw [if_pos hc1] at h
    refine px_blk (i' := 10) (L' := [some (.ref 1), some (.int a0), some (.int a1)]) (S' := [.int (-1 : Int32)]) (w' := px_w K s t) (q := []) 1 hM rfl trivial ?_
    cases h
    exact px_E_ret hM rfl rfl rfl trivial
  · rw [if_neg hc1] at h
    refine px_blkif (c := a0 < 0) (t := 9) (e := 6) (L' := [some (.ref 1), some (.int a0), some (.int a1)]) (S' := []) (w' := px_w K s t) (q := []) 2 hM rfl trivial (fun hc2 => ?_) (fun hc2 => ?_)
    · rw [if_pos hc2] at h
      refine px_blk (i' := 10) (L' := [some (.ref 1), some (.int a0), some (.int a1)]) (S' := [.int (-1 : Int32)]) (w' := px_w K s t) (q := []) 1 hM rfl trivial ?_
      cases h
      exact px_E_ret hM rfl rfl rfl trivial
    · rw [if_neg hc2] at h
      refine px_blkif (c := a0 < (24 : Int32)) (t := 11) (e := 9) (L' := [some (.ref 1), some (.int a0), some (.int a1)]) (S' := []) (w' := px_w K s t) (q := []) 3 hM rfl trivial (fun hc3 => ?_) (fun hc3 => ?_)
      · rw [if_pos hc3] at h
        refine px_blk (i' := 12) (L' := [some (.ref 1), some (.int a0), some (.int a1)]) (S' := [.int a1]) (w' := px_w K s t) (q := []) 1 hM rfl trivial ?_
        by_cases hs4 : a1.toInt = 0
        · rw [if_pos hs4] at h
          refine px_E_step hM rfl rfl (px_tb_at hs4 rfl) trivial ?_
          refine px_blk (i' := 17) (L' := [some (.ref 1), some (.int a0), some (.int a1)]) (S' := [.int (0 : Int32), .int a0, .ref 22]) (w' := px_w K s t) (q := []) 4 hM rfl trivial ?_
          rcases px_bi_some h with ⟨v8, s5, t6, hk7, h⟩ | ⟨x9, s5, t6, hk7, h⟩
          · refine px_E_call hM rfl rfl rfl rfl (px_E_mono (by decide) (e_T_inodeWord_22 K N a0 (0 : Int32) s t _ hk7)) ?_
            cases h
            exact px_E_ret hM rfl rfl rfl trivial
          · cases h
        · rw [if_neg hs4] at h
          by_cases hs10 : a1.toInt = 1
          · rw [if_pos hs10] at h
            refine px_E_step hM rfl rfl (px_tb_at hs10 rfl) trivial ?_
            refine px_blk (i' := 23) (L' := [some (.ref 1), some (.int a0), some (.int a1)]) (S' := [.int (1 : Int32), .int a0, .ref 22]) (w' := px_w K s t) (q := []) 4 hM rfl trivial ?_
            rcases px_bi_some h with ⟨v14, s11, t12, hk13, h⟩ | ⟨x15, s11, t12, hk13, h⟩
            · refine px_E_call hM rfl rfl rfl rfl (px_E_mono (by decide) (e_T_inodeWord_22 K N a0 (1 : Int32) s t _ hk13)) ?_
              cases h
              exact px_E_ret hM rfl rfl rfl trivial
            · cases h
          · rw [if_neg hs10] at h
            by_cases hs16 : a1.toInt = 2
            · rw [if_pos hs16] at h
              refine px_E_step hM rfl rfl (px_tb_at hs16 rfl) trivial ?_
              refine px_blk (i' := 28) (L' := [some (.ref 1), some (.int a0), some (.int a1)]) (S' := [.int a0, .ref 22]) (w' := px_w K s t) (q := []) 3 hM rfl trivial ?_
              rcases px_bi_some h with ⟨v20, s17, t18, hk19, h⟩ | ⟨x21, s17, t18, hk19, h⟩
              · refine px_E_call hM rfl rfl rfl rfl (px_E_mono (by decide) (e_T_isDirectory_22 K N a0 s t _ hk19)) ?_
                refine px_blkif (c := v20 = 0) (t := 35) (e := 30) (L' := [some (.ref 1), some (.int a0), some (.int a1)]) (S' := []) (w' := px_w K s17 t18) (q := []) 1 hM rfl trivial (fun hc22 => ?_) (fun hc22 => ?_)
                · rw [if_pos hc22] at h
                  refine px_blk (i' := 36) (L' := [some (.ref 1), some (.int a0), some (.int a1)]) (S' := [.int (0 : Int32)]) (w' := px_w K s17 t18) (q := []) 1 hM rfl trivial ?_
                  cases h
                  exact px_E_ret hM rfl rfl rfl trivial
                · rw [if_neg hc22] at h
                  refine px_blk (i' := 33) (L' := [some (.ref 1), some (.int a0), some (.int a1)]) (S' := [.int a0, .ref 22]) (w' := px_w K s17 t18) (q := []) 3 hM rfl trivial ?_
                  rcases px_bi_some h with ⟨v26, s23, t24, hk25, h⟩ | ⟨x27, s23, t24, hk25, h⟩
                  · refine px_E_call hM rfl rfl rfl rfl (px_E_mono (by decide) (e_T_namesIn_22 K N a0 s17 t18 _ hk25)) ?_
                    refine px_blk (i' := 36) (L' := [some (.ref 1), some (.int a0), some (.int a1)]) (S' := [.int v26]) (w' := px_w K s23 t24) (q := []) 1 hM rfl trivial ?_
                    cases h
                    exact px_E_ret hM rfl rfl rfl trivial
                  · cases h
              · cases h
            · rw [if_neg hs16] at h
              by_cases hs28 : a1.toInt = 3
              · rw [if_pos hs28] at h
                refine px_E_step hM rfl rfl (px_tb_at hs28 rfl) trivial ?_
                refine px_blk (i' := 40) (L' := [some (.ref 1), some (.int a0), some (.int a1)]) (S' := [.int a0, .ref 22]) (w' := px_w K s t) (q := []) 3 hM rfl trivial ?_
                rcases px_bi_some h with ⟨v32, s29, t30, hk31, h⟩ | ⟨x33, s29, t30, hk31, h⟩
                · refine px_E_call hM rfl rfl rfl rfl (px_E_mono (by decide) (e_T_blocksOf_22 K N a0 s t _ hk31)) ?_
                  cases h
                  exact px_E_ret hM rfl rfl rfl trivial
                · cases h
              · rw [if_neg hs28] at h
                refine px_E_step hM rfl rfl (px_tb_df (by omega) rfl) trivial ?_
                refine px_blk (i' := 43) (L' := [some (.ref 1), some (.int a0), some (.int a1)]) (S' := [.int (-1 : Int32)]) (w' := px_w K s t) (q := []) 1 hM rfl trivial ?_
                cases h
                exact px_E_ret hM rfl rfl rfl trivial
      · rw [if_neg hc3] at h
        refine px_blk (i' := 10) (L' := [some (.ref 1), some (.int a0), some (.int a1)]) (S' := [.int (-1 : Int32)]) (w' := px_w K s t) (q := []) 1 hM rfl trivial ?_
        cases h
        exact px_E_ret hM rfl rfl rfl trivial
noncomputable def f_E_entry_1 (K : px_K) (N : Nat) (a0 : Int32) (a1 : Int32) (a2 : Int32) (s : px_S) (t : px_W) : Option px_Res :=
  (if (s.1 0) = 0 then (some (.inl (some (.int (-1 : Int32))), s, t)) else (px_bi (f_T_isDirectory_22 K N a0 s t) (fun v5 s2 t3 => (if v5 = 0 then (some (.inl (some (.int (-1 : Int32))), s2, t3)) else (if a2 < 0 then (some (.inl (some (.int (-1 : Int32))), s2, t3)) else (if a2 ≤ (1 : Int32) then (if a1 < 0 then (some (.inl (some (.int (-1 : Int32))), s2, t3)) else (px_bi (f_T_inodeWord_22 K N a0 (1 : Int32) s2 t3) (fun v14 s11 t12 => (if a1 < v14 then (px_bi (f_T_entryWord_22 K N a0 a1 a2 s11 t12) (fun v20 s17 t18 => (some (.inl (some (.int v20)), s17, t18))) (fun x21 s17 t18 => none)) else (some (.inl (some (.int (-1 : Int32))), s11, t12)))) (fun x15 s11 t12 => none))) else (some (.inl (some (.int (-1 : Int32))), s2, t3)))))) (fun x6 s2 t3 => none)))
set_option maxRecDepth 100000 in
theorem e_E_entry_1 (K : px_K) (N : Nat) (a0 : Int32) (a1 : Int32) (a2 : Int32) (s : px_S) (t : px_W) (r : px_Res) (h : f_E_entry_1 K N a0 a1 a2 s t = some r) : px_E px_ET px_P 5 9 0 (px_ent 4 [.ref 1, .int a0, .int a1, .int a2]) [] (px_w K s t) r.1 (px_w K r.2.1 r.2.2) := by
  have hM : px_P[9]? = some pm_E_entry := rfl
  unfold f_E_entry_1 at h
  refine px_blkif (c := (s.1 0) = 0) (t := 14) (e := 4) (L' := [some (.ref 1), some (.int a0), some (.int a1), some (.int a2)]) (S' := []) (w' := px_w K s t) (q := []) 4 hM rfl trivial (fun hc1 => ?_) (fun hc1 => ?_)
  · rw [if_pos hc1] at h
    refine px_blk (i' := 15) (L' := [some (.ref 1), some (.int a0), some (.int a1), some (.int a2)]) (S' := [.int (-1 : Int32)]) (w' := px_w K s t) (q := []) 1 hM rfl trivial ?_
    cases h
    exact px_E_ret hM rfl rfl rfl trivial
  · rw [if_neg hc1] at h
    refine px_blk (i' := 7) (L' := [some (.ref 1), some (.int a0), some (.int a1), some (.int a2)]) (S' := [.int a0, .ref 22]) (w' := px_w K s t) (q := []) 3 hM rfl trivial ?_
    rcases px_bi_some h with ⟨v5, s2, t3, hk4, h⟩ | ⟨x6, s2, t3, hk4, h⟩
    · refine px_E_call hM rfl rfl rfl rfl (px_E_mono (by decide) (e_T_isDirectory_22 K N a0 s t _ hk4)) ?_
      refine px_blkif (c := v5 = 0) (t := 14) (e := 9) (L' := [some (.ref 1), some (.int a0), some (.int a1), some (.int a2)]) (S' := []) (w' := px_w K s2 t3) (q := []) 1 hM rfl trivial (fun hc7 => ?_) (fun hc7 => ?_)
      · rw [if_pos hc7] at h
        refine px_blk (i' := 15) (L' := [some (.ref 1), some (.int a0), some (.int a1), some (.int a2)]) (S' := [.int (-1 : Int32)]) (w' := px_w K s2 t3) (q := []) 1 hM rfl trivial ?_
        cases h
        exact px_E_ret hM rfl rfl rfl trivial
      · rw [if_neg hc7] at h
        refine px_blkif (c := a2 < 0) (t := 14) (e := 11) (L' := [some (.ref 1), some (.int a0), some (.int a1), some (.int a2)]) (S' := []) (w' := px_w K s2 t3) (q := []) 2 hM rfl trivial (fun hc8 => ?_) (fun hc8 => ?_)
        · rw [if_pos hc8] at h
          refine px_blk (i' := 15) (L' := [some (.ref 1), some (.int a0), some (.int a1), some (.int a2)]) (S' := [.int (-1 : Int32)]) (w' := px_w K s2 t3) (q := []) 1 hM rfl trivial ?_
          cases h
          exact px_E_ret hM rfl rfl rfl trivial
        · rw [if_neg hc8] at h
          refine px_blkif (c := a2 ≤ (1 : Int32)) (t := 16) (e := 14) (L' := [some (.ref 1), some (.int a0), some (.int a1), some (.int a2)]) (S' := []) (w' := px_w K s2 t3) (q := []) 3 hM rfl trivial (fun hc9 => ?_) (fun hc9 => ?_)
          · rw [if_pos hc9] at h
            refine px_blkif (c := a1 < 0) (t := 25) (e := 18) (L' := [some (.ref 1), some (.int a0), some (.int a1), some (.int a2)]) (S' := []) (w' := px_w K s2 t3) (q := []) 2 hM rfl trivial (fun hc10 => ?_) (fun hc10 => ?_)
            · rw [if_pos hc10] at h
              refine px_blk (i' := 26) (L' := [some (.ref 1), some (.int a0), some (.int a1), some (.int a2)]) (S' := [.int (-1 : Int32)]) (w' := px_w K s2 t3) (q := []) 1 hM rfl trivial ?_
              cases h
              exact px_E_ret hM rfl rfl rfl trivial
            · rw [if_neg hc10] at h
              refine px_blk (i' := 23) (L' := [some (.ref 1), some (.int a0), some (.int a1), some (.int a2)]) (S' := [.int (1 : Int32), .int a0, .ref 22, .int a1]) (w' := px_w K s2 t3) (q := []) 5 hM rfl trivial ?_
              rcases px_bi_some h with ⟨v14, s11, t12, hk13, h⟩ | ⟨x15, s11, t12, hk13, h⟩
              · refine px_E_call hM rfl rfl rfl rfl (px_E_mono (by decide) (e_T_inodeWord_22 K N a0 (1 : Int32) s2 t3 _ hk13)) ?_
                refine px_blkif (c := a1 < v14) (t := 27) (e := 25) (L' := [some (.ref 1), some (.int a0), some (.int a1), some (.int a2)]) (S' := []) (w' := px_w K s11 t12) (q := []) 1 hM rfl trivial (fun hc16 => ?_) (fun hc16 => ?_)
                · rw [if_pos hc16] at h
                  refine px_blk (i' := 32) (L' := [some (.ref 1), some (.int a0), some (.int a1), some (.int a2)]) (S' := [.int a2, .int a1, .int a0, .ref 22]) (w' := px_w K s11 t12) (q := []) 5 hM rfl trivial ?_
                  rcases px_bi_some h with ⟨v20, s17, t18, hk19, h⟩ | ⟨x21, s17, t18, hk19, h⟩
                  · refine px_E_call hM rfl rfl rfl rfl (px_E_mono (by decide) (e_T_entryWord_22 K N a0 a1 a2 s11 t12 _ hk19)) ?_
                    cases h
                    exact px_E_ret hM rfl rfl rfl trivial
                  · cases h
                · rw [if_neg hc16] at h
                  refine px_blk (i' := 26) (L' := [some (.ref 1), some (.int a0), some (.int a1), some (.int a2)]) (S' := [.int (-1 : Int32)]) (w' := px_w K s11 t12) (q := []) 1 hM rfl trivial ?_
                  cases h
                  exact px_E_ret hM rfl rfl rfl trivial
              · cases h
          · rw [if_neg hc9] at h
            refine px_blk (i' := 15) (L' := [some (.ref 1), some (.int a0), some (.int a1), some (.int a2)]) (S' := [.int (-1 : Int32)]) (w' := px_w K s2 t3) (q := []) 1 hM rfl trivial ?_
            cases h
            exact px_E_ret hM rfl rfl rfl trivial
    · cases h
noncomputable def f_V_greatestClosed_13 (K : px_K) (N : Nat) (s : px_S) (t : px_W) : Option px_Res :=
  (if (s.1 12) = 0 then (px_bi (f_V_landed_13 K N s t) (fun v5 s2 t3 => (some (.inl (some (.int v5)), s2, t3))) (fun x6 s2 t3 => none)) else (some (.inl (some (.int ((s.1 16) - (1 : Int32)))), s, t)))
set_option maxRecDepth 100000 in
theorem e_V_greatestClosed_13 (K : px_K) (N : Nat) (s : px_S) (t : px_W) (r : px_Res) (h : f_V_greatestClosed_13 K N s t = some r) : px_E px_ET px_P 2 182 0 (px_ent 1 [.ref 13]) [] (px_w K s t) r.1 (px_w K r.2.1 r.2.2) := by
  have hM : px_P[182]? = some pm_V_greatestClosed := rfl
  unfold f_V_greatestClosed_13 at h
  refine px_blkif (c := (s.1 12) = 0) (t := 8) (e := 3) (L' := [some (.ref 13)]) (S' := []) (w' := px_w K s t) (q := []) 3 hM rfl trivial (fun hc1 => ?_) (fun hc1 => ?_)
  · rw [if_pos hc1] at h
    refine px_blk (i' := 9) (L' := [some (.ref 13)]) (S' := [.ref 13]) (w' := px_w K s t) (q := []) 1 hM rfl trivial ?_
    rcases px_bi_some h with ⟨v5, s2, t3, hk4, h⟩ | ⟨x6, s2, t3, hk4, h⟩
    · refine px_E_call hM rfl rfl rfl rfl (px_E_mono (by decide) (e_V_landed_13 K N s t _ hk4)) ?_
      cases h
      exact px_E_ret hM rfl rfl rfl trivial
    · cases h
  · rw [if_neg hc1] at h
    refine px_blk (i' := 10) (L' := [some (.ref 13)]) (S' := [.int ((s.1 16) - (1 : Int32))]) (w' := px_w K s t) (q := []) 5 hM rfl trivial ?_
    cases h
    exact px_E_ret hM rfl rfl rfl trivial
noncomputable def f_E_sync_1 (K : px_K) (N : Nat) (s : px_S) (t : px_W) : Option px_Res :=
  (if ¬ (s.1 0) = 0 then (px_bv (f_T_commitAbove_22 K N (0 : Int32) s t) (fun s2 t3 => (px_bi (f_V_greatestClosed_13 K N s2 t3) (fun v10 s7 t8 => (some (.inl (some (.int v10)), s7, t8))) (fun x11 s7 t8 => none))) (fun x6 s2 t3 => (px_gd (px_isx t3 x6 7) (px_bi (f_E_goDown_1 K N (s2.2.1 2) s2 t3) (fun v15 s12 t13 => (some (.inl (some (.int v15)), s12, t13))) (fun x16 s12 t13 => none))))) else (some (.inl (some (.int (-9 : Int32))), s, t)))
set_option maxRecDepth 100000 in
theorem e_E_sync_1 (K : px_K) (N : Nat) (s : px_S) (t : px_W) (r : px_Res) (h : f_E_sync_1 K N s t = some r) : px_E px_ET px_P 15 10 0 (px_ent 2 [.ref 1]) [] (px_w K s t) r.1 (px_w K r.2.1 r.2.2) := by
  have hM : px_P[10]? = some pm_E_sync := rfl
  unfold f_E_sync_1 at h
  refine px_blkif (c := ¬ (s.1 0) = 0) (t := 6) (e := 4) (L' := [some (.ref 1), none]) (S' := []) (w' := px_w K s t) (q := []) 4 hM rfl trivial (fun hc1 => ?_) (fun hc1 => ?_)
  · rw [if_pos hc1] at h
    refine px_blk (i' := 9) (L' := [some (.ref 1), none]) (S' := [.int (0 : Int32), .ref 22]) (w' := px_w K s t) (q := []) 3 hM rfl trivial ?_
    rcases px_bv_some h with ⟨s2, t3, hk4, h⟩ | ⟨x6, s2, t3, hk4, h⟩
    · refine px_E_call hM rfl rfl rfl rfl (px_E_mono (by decide) (e_T_commitAbove_22 K N (0 : Int32) s t _ hk4)) ?_
      refine px_blk (i' := 12) (L' := [some (.ref 1), none]) (S' := [.ref 13]) (w' := px_w K s2 t3) (q := []) 2 hM rfl trivial ?_
      rcases px_bi_some h with ⟨v10, s7, t8, hk9, h⟩ | ⟨x11, s7, t8, hk9, h⟩
      · refine px_E_call hM rfl rfl rfl rfl (px_E_mono (by decide) (e_V_greatestClosed_13 K N s2 t3 _ hk9)) ?_
        cases h
        exact px_E_ret hM rfl rfl rfl trivial
      · cases h
    · obtain ⟨hx17, h⟩ := px_gd_some h
      refine px_E_callC hM rfl rfl rfl rfl (px_E_mono (by decide) (e_T_commitAbove_22 K N (0 : Int32) s t _ hk4)) (px_hnd_of rfl rfl hx17) ?_
      refine px_blk (i' := 19) (L' := [some (.ref 1), some (.ref (x6))]) (S' := [.long (s2.2.1 2), .ref 1]) (w' := px_w K s2 t3) (q := []) 5 hM rfl trivial ?_
      rcases px_bi_some h with ⟨v15, s12, t13, hk14, h⟩ | ⟨x16, s12, t13, hk14, h⟩
      · refine px_E_call hM rfl rfl rfl rfl (px_E_mono (by decide) (e_E_goDown_1 K N (s2.2.1 2) s2 t3 _ hk14)) ?_
        cases h
        exact px_E_ret hM rfl rfl rfl trivial
      · cases h
  · rw [if_neg hc1] at h
    refine px_blk (i' := 5) (L' := [some (.ref 1), none]) (S' := [.int (-9 : Int32)]) (w' := px_w K s t) (q := []) 1 hM rfl trivial ?_
    cases h
    exact px_E_ret hM rfl rfl rfl trivial
noncomputable def f_E_land_1 (K : px_K) (N : Nat) (s : px_S) (t : px_W) : Option px_Res :=
  (if ¬ (s.1 0) = 0 then (if ¬ (s.1 12) = 0 then (px_bi (f_V_landOldest_13 K N s t) (fun v6 s3 t4 => (some (.inl (some (.int v6)), s3, t4))) (fun x7 s3 t4 => (px_gd (px_isx t4 x7 7) (px_bi (f_E_goDown_1 K N (s3.2.1 2) s3 t4) (fun v11 s8 t9 => (some (.inl (some (.int v11)), s8, t9))) (fun x12 s8 t9 => none))))) else (some (.inl (some (.int (0 : Int32))), s, t))) else (some (.inl (some (.int (-9 : Int32))), s, t)))
set_option maxRecDepth 100000 in
theorem e_E_land_1 (K : px_K) (N : Nat) (s : px_S) (t : px_W) (r : px_Res) (h : f_E_land_1 K N s t = some r) : px_E px_ET px_P 11 11 0 (px_ent 2 [.ref 1]) [] (px_w K s t) r.1 (px_w K r.2.1 r.2.2) := by
  have hM : px_P[11]? = some pm_E_land := rfl
  unfold f_E_land_1 at h
  refine px_blkif (c := ¬ (s.1 0) = 0) (t := 6) (e := 4) (L' := [some (.ref 1), none]) (S' := []) (w' := px_w K s t) (q := []) 4 hM rfl trivial (fun hc1 => ?_) (fun hc1 => ?_)
  · rw [if_pos hc1] at h
    refine px_blkif (c := ¬ (s.1 12) = 0) (t := 12) (e := 10) (L' := [some (.ref 1), none]) (S' := []) (w' := px_w K s t) (q := []) 4 hM rfl trivial (fun hc2 => ?_) (fun hc2 => ?_)
    · rw [if_pos hc2] at h
      refine px_blk (i' := 14) (L' := [some (.ref 1), none]) (S' := [.ref 13]) (w' := px_w K s t) (q := []) 2 hM rfl trivial ?_
      rcases px_bi_some h with ⟨v6, s3, t4, hk5, h⟩ | ⟨x7, s3, t4, hk5, h⟩
      · refine px_E_call hM rfl rfl rfl rfl (px_E_mono (by decide) (e_V_landOldest_13 K N s t _ hk5)) ?_
        cases h
        exact px_E_ret hM rfl rfl rfl trivial
      · obtain ⟨hx13, h⟩ := px_gd_some h
        refine px_E_callC hM rfl rfl rfl rfl (px_E_mono (by decide) (e_V_landOldest_13 K N s t _ hk5)) (px_hnd_of rfl rfl hx13) ?_
        refine px_blk (i' := 21) (L' := [some (.ref 1), some (.ref (x7))]) (S' := [.long (s3.2.1 2), .ref 1]) (w' := px_w K s3 t4) (q := []) 5 hM rfl trivial ?_
        rcases px_bi_some h with ⟨v11, s8, t9, hk10, h⟩ | ⟨x12, s8, t9, hk10, h⟩
        · refine px_E_call hM rfl rfl rfl rfl (px_E_mono (by decide) (e_E_goDown_1 K N (s3.2.1 2) s3 t4 _ hk10)) ?_
          cases h
          exact px_E_ret hM rfl rfl rfl trivial
        · cases h
    · rw [if_neg hc2] at h
      refine px_blk (i' := 11) (L' := [some (.ref 1), none]) (S' := [.int (0 : Int32)]) (w' := px_w K s t) (q := []) 1 hM rfl trivial ?_
      cases h
      exact px_E_ret hM rfl rfl rfl trivial
  · rw [if_neg hc1] at h
    refine px_blk (i' := 5) (L' := [some (.ref 1), none]) (S' := [.int (-9 : Int32)]) (w' := px_w K s t) (q := []) 1 hM rfl trivial ?_
    cases h
    exact px_E_ret hM rfl rfl rfl trivial
noncomputable def f_E_home_1 (K : px_K) (N : Nat) (s : px_S) (t : px_W) : Option px_Res :=
  (if ¬ (s.1 0) = 0 then (px_bv (f_T_commitAbove_22 K N (0 : Int32) s t) (fun s2 t3 => (px_bv (f_T_bringHome_22 K N s2 t3) (fun s7 t8 => (some (.inl (some (.int (s2.1 22))), s7, t8))) (fun x11 s7 t8 => (px_gd (px_isx t8 x11 7) (px_bi (f_E_goDown_1 K N (s7.2.1 2) s7 t8) (fun v15 s12 t13 => (some (.inl (some (.int v15)), s12, t13))) (fun x16 s12 t13 => none)))))) (fun x6 s2 t3 => (px_gd (px_isx t3 x6 7) (px_bi (f_E_goDown_1 K N (s2.2.1 2) s2 t3) (fun v21 s18 t19 => (some (.inl (some (.int v21)), s18, t19))) (fun x22 s18 t19 => none))))) else (some (.inl (some (.int (-9 : Int32))), s, t)))
set_option maxRecDepth 100000 in
theorem e_E_home_1 (K : px_K) (N : Nat) (s : px_S) (t : px_W) (r : px_Res) (h : f_E_home_1 K N s t = some r) : px_E px_ET px_P 15 12 0 (px_ent 2 [.ref 1]) [] (px_w K s t) r.1 (px_w K r.2.1 r.2.2) := by
  have hM : px_P[12]? = some pm_E_home := rfl
  unfold f_E_home_1 at h
  refine px_blkif (c := ¬ (s.1 0) = 0) (t := 6) (e := 4) (L' := [some (.ref 1), none]) (S' := []) (w' := px_w K s t) (q := []) 4 hM rfl trivial (fun hc1 => ?_) (fun hc1 => ?_)
  · rw [if_pos hc1] at h
    refine px_blk (i' := 9) (L' := [some (.ref 1), none]) (S' := [.int (0 : Int32), .ref 22]) (w' := px_w K s t) (q := []) 3 hM rfl trivial ?_
    rcases px_bv_some h with ⟨s2, t3, hk4, h⟩ | ⟨x6, s2, t3, hk4, h⟩
    · refine px_E_call hM rfl rfl rfl rfl (px_E_mono (by decide) (e_T_commitAbove_22 K N (0 : Int32) s t _ hk4)) ?_
      refine px_blk (i' := 16) (L' := [some (.ref 1), some (.int (s2.1 22))]) (S' := [.ref 22]) (w' := px_w K s2 t3) (q := []) 6 hM rfl trivial ?_
      rcases px_bv_some h with ⟨s7, t8, hk9, h⟩ | ⟨x11, s7, t8, hk9, h⟩
      · refine px_E_call hM rfl rfl rfl rfl (px_E_mono (by decide) (e_T_bringHome_22 K N s2 t3 _ hk9)) ?_
        refine px_blk (i' := 18) (L' := [some (.ref 1), some (.int (s2.1 22))]) (S' := [.int (s2.1 22)]) (w' := px_w K s7 t8) (q := []) 1 hM rfl trivial ?_
        cases h
        exact px_E_ret hM rfl rfl rfl trivial
      · obtain ⟨hx17, h⟩ := px_gd_some h
        refine px_E_callC hM rfl rfl rfl rfl (px_E_mono (by decide) (e_T_bringHome_22 K N s2 t3 _ hk9)) (px_hnd_of rfl rfl hx17) ?_
        refine px_blk (i' := 24) (L' := [some (.ref 1), some (.ref (x11))]) (S' := [.long (s7.2.1 2), .ref 1]) (w' := px_w K s7 t8) (q := []) 5 hM rfl trivial ?_
        rcases px_bi_some h with ⟨v15, s12, t13, hk14, h⟩ | ⟨x16, s12, t13, hk14, h⟩
        · refine px_E_call hM rfl rfl rfl rfl (px_E_mono (by decide) (e_E_goDown_1 K N (s7.2.1 2) s7 t8 _ hk14)) ?_
          cases h
          exact px_E_ret hM rfl rfl rfl trivial
        · cases h
    · obtain ⟨hx23, h⟩ := px_gd_some h
      refine px_E_callC hM rfl rfl rfl rfl (px_E_mono (by decide) (e_T_commitAbove_22 K N (0 : Int32) s t _ hk4)) (px_hnd_of rfl rfl hx23) ?_
      refine px_blk (i' := 24) (L' := [some (.ref 1), some (.ref (x6))]) (S' := [.long (s2.2.1 2), .ref 1]) (w' := px_w K s2 t3) (q := []) 5 hM rfl trivial ?_
      rcases px_bi_some h with ⟨v21, s18, t19, hk20, h⟩ | ⟨x22, s18, t19, hk20, h⟩
      · refine px_E_call hM rfl rfl rfl rfl (px_E_mono (by decide) (e_E_goDown_1 K N (s2.2.1 2) s2 t3 _ hk20)) ?_
        cases h
        exact px_E_ret hM rfl rfl rfl trivial
      · cases h
  · rw [if_neg hc1] at h
    refine px_blk (i' := 5) (L' := [some (.ref 1), none]) (S' := [.int (-9 : Int32)]) (w' := px_w K s t) (q := []) 1 hM rfl trivial ?_
    cases h
    exact px_E_ret hM rfl rfl rfl trivial
noncomputable def f_E_limit_1 (K : px_K) (N : Nat) (a0 : Int32) (a1 : Int64) (s : px_S) (t : px_W) : Option px_Res :=
  (if (s.1 0) = 0 then (some (.inl (some (.int (0 : Int32))), s, t)) else (if a0 < (1 : Int32) then (some (.inl (some (.int (0 : Int32))), s, t)) else (if a0 ≤ (1000 : Int32) then (px_bv (f_P_limitTo_2 K N a0 a1 s t) (fun s4 t5 => (some (.inl (some (.int (1 : Int32))), s4, t5))) (fun x8 s4 t5 => none)) else (some (.inl (some (.int (0 : Int32))), s, t)))))
set_option maxRecDepth 100000 in
theorem e_E_limit_1 (K : px_K) (N : Nat) (a0 : Int32) (a1 : Int64) (s : px_S) (t : px_W) (r : px_Res) (h : f_E_limit_1 K N a0 a1 s t = some r) : px_E px_ET px_P 2 13 0 (px_ent 4 [.ref 1, .int a0, .long a1]) [] (px_w K s t) r.1 (px_w K r.2.1 r.2.2) := by
  have hM : px_P[13]? = some pm_E_limit := rfl
  unfold f_E_limit_1 at h
  refine px_blkif (c := (s.1 0) = 0) (t := 10) (e := 4) (L' := [some (.ref 1), some (.int a0), some (.long a1), none]) (S' := []) (w' := px_w K s t) (q := []) 4 hM rfl trivial (fun hc1 => ?_) (fun hc1 => ?_)
  · rw [if_pos hc1] at h
    refine px_blk (i' := 11) (L' := [some (.ref 1), some (.int a0), some (.long a1), none]) (S' := [.int (0 : Int32)]) (w' := px_w K s t) (q := []) 1 hM rfl trivial ?_
    cases h
    exact px_E_ret hM rfl rfl rfl (show (0 : Int32) = 0 ∨ (0 : Int32) = 1 from Or.inl rfl)
  · rw [if_neg hc1] at h
    refine px_blkif (c := a0 < (1 : Int32)) (t := 10) (e := 7) (L' := [some (.ref 1), some (.int a0), some (.long a1), none]) (S' := []) (w' := px_w K s t) (q := []) 3 hM rfl trivial (fun hc2 => ?_) (fun hc2 => ?_)
    · rw [if_pos hc2] at h
      refine px_blk (i' := 11) (L' := [some (.ref 1), some (.int a0), some (.long a1), none]) (S' := [.int (0 : Int32)]) (w' := px_w K s t) (q := []) 1 hM rfl trivial ?_
      cases h
      exact px_E_ret hM rfl rfl rfl (show (0 : Int32) = 0 ∨ (0 : Int32) = 1 from Or.inl rfl)
    · rw [if_neg hc2] at h
      refine px_blkif (c := a0 ≤ (1000 : Int32)) (t := 12) (e := 10) (L' := [some (.ref 1), some (.int a0), some (.long a1), none]) (S' := []) (w' := px_w K s t) (q := []) 3 hM rfl trivial (fun hc3 => ?_) (fun hc3 => ?_)
      · rw [if_pos hc3] at h
        refine px_blk (i' := 16) (L' := [some (.ref 1), some (.int a0), some (.long a1), none]) (S' := [.long a1, .int a0, .ref 2]) (w' := px_w K s t) (q := []) 4 hM rfl trivial ?_
        rcases px_bv_some h with ⟨s4, t5, hk6, h⟩ | ⟨x8, s4, t5, hk6, h⟩
        · refine px_E_call hM rfl rfl rfl rfl (px_E_mono (by decide) (e_P_limitTo_2 K N a0 a1 s t _ hk6)) ?_
          refine px_blk (i' := 18) (L' := [some (.ref 1), some (.int a0), some (.long a1), none]) (S' := [.int (1 : Int32)]) (w' := px_w K s4 t5) (q := []) 1 hM rfl trivial ?_
          cases h
          exact px_E_ret hM rfl rfl rfl (show (1 : Int32) = 0 ∨ (1 : Int32) = 1 from Or.inr rfl)
        · cases h
      · rw [if_neg hc3] at h
        refine px_blk (i' := 11) (L' := [some (.ref 1), some (.int a0), some (.long a1), none]) (S' := [.int (0 : Int32)]) (w' := px_w K s t) (q := []) 1 hM rfl trivial ?_
        cases h
        exact px_E_ret hM rfl rfl rfl (show (0 : Int32) = 0 ∨ (0 : Int32) = 1 from Or.inl rfl)
noncomputable def f_E_crash_1 (K : px_K) (N : Nat) (a0 : Int64) (s : px_S) (t : px_W) : Option px_Res :=
  (if ¬ (s.1 0) = 0 then (px_bi (f_E_goDown_1 K N a0 s t) (fun v5 s2 t3 => (some (.inl (some (.int (1 : Int32))), s2, t3))) (fun x6 s2 t3 => none)) else (some (.inl (some (.int (0 : Int32))), s, t)))
set_option maxRecDepth 100000 in
theorem e_E_crash_1 (K : px_K) (N : Nat) (a0 : Int64) (s : px_S) (t : px_W) (r : px_Res) (h : f_E_crash_1 K N a0 s t = some r) : px_E px_ET px_P 3 14 0 (px_ent 3 [.ref 1, .long a0]) [] (px_w K s t) r.1 (px_w K r.2.1 r.2.2) := by
  have hM : px_P[14]? = some pm_E_crash := rfl
  unfold f_E_crash_1 at h
  refine px_blkif (c := ¬ (s.1 0) = 0) (t := 6) (e := 4) (L' := [some (.ref 1), some (.long a0), none]) (S' := []) (w' := px_w K s t) (q := []) 4 hM rfl trivial (fun hc1 => ?_) (fun hc1 => ?_)
  · rw [if_pos hc1] at h
    refine px_blk (i' := 8) (L' := [some (.ref 1), some (.long a0), none]) (S' := [.long a0, .ref 1]) (w' := px_w K s t) (q := []) 2 hM rfl trivial ?_
    rcases px_bi_some h with ⟨v5, s2, t3, hk4, h⟩ | ⟨x6, s2, t3, hk4, h⟩
    · refine px_E_call hM rfl rfl rfl rfl (px_E_mono (by decide) (e_E_goDown_1 K N a0 s t _ hk4)) ?_
      refine px_blk (i' := 11) (L' := [some (.ref 1), some (.long a0), none]) (S' := [.int (1 : Int32)]) (w' := px_w K s2 t3) (q := []) 2 hM rfl trivial ?_
      cases h
      exact px_E_ret hM rfl rfl rfl (show (1 : Int32) = 0 ∨ (1 : Int32) = 1 from Or.inr rfl)
    · cases h
  · rw [if_neg hc1] at h
    refine px_blk (i' := 5) (L' := [some (.ref 1), some (.long a0), none]) (S' := [.int (0 : Int32)]) (w' := px_w K s t) (q := []) 1 hM rfl trivial ?_
    cases h
    exact px_E_ret hM rfl rfl rfl (show (0 : Int32) = 0 ∨ (0 : Int32) = 1 from Or.inl rfl)
noncomputable def l_Arrays_fill_11_5 (K : px_K) (N : Nat) (n : Nat) (u1 : Int32) (u3 : Int32) (m2 : Int32) (s : px_S) (t : px_W) : Option px_LO := match n with
  | 0 => none
  | n + 1 => (if u3 ≤ m2 then (some (.inl (14, [], s, t))) else (px_gd (vp_in m2 (K.2.2 11)) (px_let (sA s 11 m2.toNatClampNeg u1) (fun s3 => (l_Arrays_fill_11_5 K N n u1 u3 (m2 + (1 : Int32)) s3 t)))))
def a_l_Arrays_fill_11_5 (K : px_K) (u1 : Int32) (u3 : Int32) (z : px_LO) (o : Option Value ⊕ Nat) (w2 : px_W) : Prop := match z with
  | .inr (o', s', t') => o = o' ∧ w2 = px_w K s' t'
  | .inl (14, [], s', t') => px_E px_ET px_P 1 206 14 [none, none, none, none] [] (px_w K s' t') o w2
  | _ => False
set_option maxRecDepth 100000 in
theorem e_l_Arrays_fill_11_5 (K : px_K) (N : Nat) (u1 : Int32) (u3 : Int32) : ∀ (n : Nat) (m2 : Int32) (s : px_S) (t : px_W) (z : px_LO), l_Arrays_fill_11_5 K N n u1 u3 m2 s t = some z → ∀ (o : Option Value ⊕ Nat) (w2 : px_W), a_l_Arrays_fill_11_5 K u1 u3 z o w2 → px_E px_ET px_P 1 206 5 [some (.ref 11), some (.int u1), some (.int m2), some (.int u3)] [] (px_w K s t) o w2 := by
  have hM : px_P[206]? = some pm_Arrays_fill := rfl
  intro n
  induction n with
  | zero => intro m2 s t z h; cases h
  | succ n ih =>
    intro m2 s t z h o w2 ha
    unfold l_Arrays_fill_11_5 at h
    refine px_blkif (c := u3 ≤ m2) (t := 14) (e := 8) (L' := [some (.ref 11), some (.int u1), some (.int m2), some (.int u3)]) (S' := []) (w' := px_w K s t) (q := []) 3 hM rfl trivial (fun hc1 => ?_) (fun hc1 => ?_)
    · rw [if_pos hc1] at h
      cases h
      exact px_E_le (px_leC_L _ _ (by simp [px_leC, px_le1, Value.category])) ha
    · rw [if_neg hc1] at h
      obtain ⟨hq2, h⟩ := px_gd_some h
      refine px_blk (i' := 12) (L' := [some (.ref 11), some (.int u1), some (.int m2), some (.int u3)]) (S' := []) (w' := px_w K (sA s 11 m2.toNatClampNeg u1) t) (q := [vp_in m2 (K.2.2 11)]) 4 hM rfl (show vp_in m2 (K.2.2 11) from hq2) ?_
      obtain ⟨s3, hs4, h⟩ := px_let_some h
      rw [← hs4]
      refine px_blk (i' := 5) (L' := [some (.ref 11), some (.int u1), some (.int (m2 + (1 : Int32))), some (.int u3)]) (S' := []) (w' := px_w K s3 t) (q := []) 2 hM rfl trivial ?_
      exact ih (m2 + (1 : Int32)) s3 t z h o w2 ha
noncomputable def f_Arrays_fill_11 (K : px_K) (N : Nat) (a0 : Int32) (s : px_S) (t : px_W) : Option px_Res :=
  (px_let (Int32.ofNat (K.2.2 11)) (fun v1 => (px_lp (l_Arrays_fill_11_5 K N N a0 v1 (0 : Int32) s t) (fun i3 vs4 s5 t6 => (if i3 = 14 then (px_v0 vs4 (some (.inl none, s5, t6))) else none)) (fun z8 => some z8))))
set_option maxRecDepth 100000 in
theorem e_Arrays_fill_11 (K : px_K) (N : Nat) (a0 : Int32) (s : px_S) (t : px_W) (r : px_Res) (h : f_Arrays_fill_11 K N a0 s t = some r) : px_E px_ET px_P 1 206 0 (px_ent 4 [.ref 11, .int a0]) [] (px_w K s t) r.1 (px_w K r.2.1 r.2.2) := by
  have hM : px_P[206]? = some pm_Arrays_fill := rfl
  unfold f_Arrays_fill_11 at h
  refine px_blk (i' := 5) (L' := [some (.ref 11), some (.int a0), some (.int (0 : Int32)), some (.int (Int32.ofNat (K.2.2 11)))]) (S' := []) (w' := px_w K s t) (q := []) 5 hM rfl trivial ?_
  obtain ⟨v1, hv2, h⟩ := px_let_some h
  rw [← hv2]
  rcases px_lp_some h with ⟨i3, vs4, s5, t6, hl7, h⟩ | ⟨z8, hl7, h⟩
  · by_cases hi9 : i3 = 14
    · subst hi9
      rw [if_pos rfl] at h
      have h9 := px_v0_some h
      clear h
      obtain ⟨rfl, h⟩ := h9
      refine e_l_Arrays_fill_11_5 K N a0 v1 N (0 : Int32) s t _ hl7 _ _ ?_
      show px_E px_ET px_P 1 206 14 [none, none, none, none] [] (px_w K s5 t6) _ _
      cases h
      exact px_E_ret hM rfl rfl rfl trivial
    · rw [if_neg hi9] at h
      cases h
  · cases h
    exact e_l_Arrays_fill_11_5 K N a0 v1 N (0 : Int32) s t _ hl7 _ _ ⟨rfl, rfl⟩
noncomputable def l_Arrays_fill_12_5 (K : px_K) (N : Nat) (n : Nat) (u1 : Int32) (u3 : Int32) (m2 : Int32) (s : px_S) (t : px_W) : Option px_LO := match n with
  | 0 => none
  | n + 1 => (if u3 ≤ m2 then (some (.inl (14, [], s, t))) else (px_gd (vp_in m2 (K.2.2 12)) (px_let (sA s 12 m2.toNatClampNeg u1) (fun s3 => (l_Arrays_fill_12_5 K N n u1 u3 (m2 + (1 : Int32)) s3 t)))))
def a_l_Arrays_fill_12_5 (K : px_K) (u1 : Int32) (u3 : Int32) (z : px_LO) (o : Option Value ⊕ Nat) (w2 : px_W) : Prop := match z with
  | .inr (o', s', t') => o = o' ∧ w2 = px_w K s' t'
  | .inl (14, [], s', t') => px_E px_ET px_P 1 206 14 [none, none, none, none] [] (px_w K s' t') o w2
  | _ => False
set_option maxRecDepth 100000 in
theorem e_l_Arrays_fill_12_5 (K : px_K) (N : Nat) (u1 : Int32) (u3 : Int32) : ∀ (n : Nat) (m2 : Int32) (s : px_S) (t : px_W) (z : px_LO), l_Arrays_fill_12_5 K N n u1 u3 m2 s t = some z → ∀ (o : Option Value ⊕ Nat) (w2 : px_W), a_l_Arrays_fill_12_5 K u1 u3 z o w2 → px_E px_ET px_P 1 206 5 [some (.ref 12), some (.int u1), some (.int m2), some (.int u3)] [] (px_w K s t) o w2 := by
  have hM : px_P[206]? = some pm_Arrays_fill := rfl
  intro n
  induction n with
  | zero => intro m2 s t z h; cases h
  | succ n ih =>
    intro m2 s t z h o w2 ha
    unfold l_Arrays_fill_12_5 at h
    refine px_blkif (c := u3 ≤ m2) (t := 14) (e := 8) (L' := [some (.ref 12), some (.int u1), some (.int m2), some (.int u3)]) (S' := []) (w' := px_w K s t) (q := []) 3 hM rfl trivial (fun hc1 => ?_) (fun hc1 => ?_)
    · rw [if_pos hc1] at h
      cases h
      exact px_E_le (px_leC_L _ _ (by simp [px_leC, px_le1, Value.category])) ha
    · rw [if_neg hc1] at h
      obtain ⟨hq2, h⟩ := px_gd_some h
      refine px_blk (i' := 12) (L' := [some (.ref 12), some (.int u1), some (.int m2), some (.int u3)]) (S' := []) (w' := px_w K (sA s 12 m2.toNatClampNeg u1) t) (q := [vp_in m2 (K.2.2 12)]) 4 hM rfl (show vp_in m2 (K.2.2 12) from hq2) ?_
      obtain ⟨s3, hs4, h⟩ := px_let_some h
      rw [← hs4]
      refine px_blk (i' := 5) (L' := [some (.ref 12), some (.int u1), some (.int (m2 + (1 : Int32))), some (.int u3)]) (S' := []) (w' := px_w K s3 t) (q := []) 2 hM rfl trivial ?_
      exact ih (m2 + (1 : Int32)) s3 t z h o w2 ha
noncomputable def f_Arrays_fill_12 (K : px_K) (N : Nat) (a0 : Int32) (s : px_S) (t : px_W) : Option px_Res :=
  (px_let (Int32.ofNat (K.2.2 12)) (fun v1 => (px_lp (l_Arrays_fill_12_5 K N N a0 v1 (0 : Int32) s t) (fun i3 vs4 s5 t6 => (if i3 = 14 then (px_v0 vs4 (some (.inl none, s5, t6))) else none)) (fun z8 => some z8))))
set_option maxRecDepth 100000 in
theorem e_Arrays_fill_12 (K : px_K) (N : Nat) (a0 : Int32) (s : px_S) (t : px_W) (r : px_Res) (h : f_Arrays_fill_12 K N a0 s t = some r) : px_E px_ET px_P 1 206 0 (px_ent 4 [.ref 12, .int a0]) [] (px_w K s t) r.1 (px_w K r.2.1 r.2.2) := by
  have hM : px_P[206]? = some pm_Arrays_fill := rfl
  unfold f_Arrays_fill_12 at h
  refine px_blk (i' := 5) (L' := [some (.ref 12), some (.int a0), some (.int (0 : Int32)), some (.int (Int32.ofNat (K.2.2 12)))]) (S' := []) (w' := px_w K s t) (q := []) 5 hM rfl trivial ?_
  obtain ⟨v1, hv2, h⟩ := px_let_some h
  rw [← hv2]
  rcases px_lp_some h with ⟨i3, vs4, s5, t6, hl7, h⟩ | ⟨z8, hl7, h⟩
  · by_cases hi9 : i3 = 14
    · subst hi9
      rw [if_pos rfl] at h
      have h9 := px_v0_some h
      clear h
      obtain ⟨rfl, h⟩ := h9
      refine e_l_Arrays_fill_12_5 K N a0 v1 N (0 : Int32) s t _ hl7 _ _ ?_
      show px_E px_ET px_P 1 206 14 [none, none, none, none] [] (px_w K s5 t6) _ _
      cases h
      exact px_E_ret hM rfl rfl rfl trivial
    · rw [if_neg hi9] at h
      cases h
  · cases h
    exact e_l_Arrays_fill_12_5 K N a0 v1 N (0 : Int32) s t _ hl7 _ _ ⟨rfl, rfl⟩
noncomputable def f_D_wipe_8 (K : px_K) (N : Nat) (s : px_S) (t : px_W) : Option px_Res :=
  (px_bv (f_Arrays_fill_11 K N (0 : Int32) s t) (fun s1 t2 => (px_bv (f_Arrays_fill_12 K N (0 : Int32) s1 t2) (fun s6 t7 => (px_let (sR s6 8 (0 : Int32)) (fun s11 => (some (.inl none, s11, t7))))) (fun x10 s6 t7 => none))) (fun x5 s1 t2 => none))
set_option maxRecDepth 100000 in
theorem e_D_wipe_8 (K : px_K) (N : Nat) (s : px_S) (t : px_W) (r : px_Res) (h : f_D_wipe_8 K N s t = some r) : px_E px_ET px_P 2 116 0 (px_ent 1 [.ref 8]) [] (px_w K s t) r.1 (px_w K r.2.1 r.2.2) := by
  have hM : px_P[116]? = some pm_D_wipe := rfl
  unfold f_D_wipe_8 at h
  refine px_blk (i' := 3) (L' := [some (.ref 8)]) (S' := [.int (0 : Int32), .ref 11]) (w' := px_w K s t) (q := []) 3 hM rfl trivial ?_
  rcases px_bv_some h with ⟨s1, t2, hk3, h⟩ | ⟨x5, s1, t2, hk3, h⟩
  · refine px_E_call hM rfl rfl rfl rfl (px_E_mono (by decide) (e_Arrays_fill_11 K N (0 : Int32) s t _ hk3)) ?_
    refine px_blk (i' := 7) (L' := [some (.ref 8)]) (S' := [.int (0 : Int32), .ref 12]) (w' := px_w K s1 t2) (q := []) 3 hM rfl trivial ?_
    rcases px_bv_some h with ⟨s6, t7, hk8, h⟩ | ⟨x10, s6, t7, hk8, h⟩
    · refine px_E_call hM rfl rfl rfl rfl (px_E_mono (by decide) (e_Arrays_fill_12 K N (0 : Int32) s1 t2 _ hk8)) ?_
      refine px_blk (i' := 11) (L' := [some (.ref 8)]) (S' := []) (w' := px_w K (sR s6 8 (0 : Int32)) t7) (q := []) 3 hM rfl trivial ?_
      obtain ⟨s11, hs12, h⟩ := px_let_some h
      rw [← hs12]
      cases h
      exact px_E_ret hM rfl rfl rfl trivial
    · cases h
  · cases h
noncomputable def f_E_lose_1 (K : px_K) (N : Nat) (a0 : Int64) (s : px_S) (t : px_W) : Option px_Res :=
  (px_bv (f_D_wipe_8 K N s t) (fun s1 t2 => (if (s1.1 0) = 0 then (some (.inl (some (.int (1 : Int32))), s1, t2)) else (px_bi (f_E_goDown_1 K N a0 s1 t2) (fun v10 s7 t8 => (some (.inl (some (.int (1 : Int32))), s7, t8))) (fun x11 s7 t8 => none)))) (fun x5 s1 t2 => none))
set_option maxRecDepth 100000 in
theorem e_E_lose_1 (K : px_K) (N : Nat) (a0 : Int64) (s : px_S) (t : px_W) (r : px_Res) (h : f_E_lose_1 K N a0 s t = some r) : px_E px_ET px_P 3 15 0 (px_ent 3 [.ref 1, .long a0]) [] (px_w K s t) r.1 (px_w K r.2.1 r.2.2) := by
  have hM : px_P[15]? = some pm_E_lose := rfl
  unfold f_E_lose_1 at h
  refine px_blk (i' := 2) (L' := [some (.ref 1), some (.long a0), none]) (S' := [.ref 8]) (w' := px_w K s t) (q := []) 2 hM rfl trivial ?_
  rcases px_bv_some h with ⟨s1, t2, hk3, h⟩ | ⟨x5, s1, t2, hk3, h⟩
  · refine px_E_call hM rfl rfl rfl rfl (px_E_mono (by decide) (e_D_wipe_8 K N s t _ hk3)) ?_
    refine px_blkif (c := (s1.1 0) = 0) (t := 11) (e := 7) (L' := [some (.ref 1), some (.long a0), none]) (S' := []) (w' := px_w K s1 t2) (q := []) 4 hM rfl trivial (fun hc6 => ?_) (fun hc6 => ?_)
    · rw [if_pos hc6] at h
      refine px_blk (i' := 12) (L' := [some (.ref 1), some (.long a0), none]) (S' := [.int (1 : Int32)]) (w' := px_w K s1 t2) (q := []) 1 hM rfl trivial ?_
      cases h
      exact px_E_ret hM rfl rfl rfl (show (1 : Int32) = 0 ∨ (1 : Int32) = 1 from Or.inr rfl)
    · rw [if_neg hc6] at h
      refine px_blk (i' := 9) (L' := [some (.ref 1), some (.long a0), none]) (S' := [.long a0, .ref 1]) (w' := px_w K s1 t2) (q := []) 2 hM rfl trivial ?_
      rcases px_bi_some h with ⟨v10, s7, t8, hk9, h⟩ | ⟨x11, s7, t8, hk9, h⟩
      · refine px_E_call hM rfl rfl rfl rfl (px_E_mono (by decide) (e_E_goDown_1 K N a0 s1 t2 _ hk9)) ?_
        refine px_blk (i' := 12) (L' := [some (.ref 1), some (.long a0), none]) (S' := [.int (1 : Int32)]) (w' := px_w K s7 t8) (q := []) 2 hM rfl trivial ?_
        cases h
        exact px_E_ret hM rfl rfl rfl (show (1 : Int32) = 0 ∨ (1 : Int32) = 1 from Or.inr rfl)
      · cases h
  · cases h
noncomputable def f_D_put_3_6 (K : px_K) (N : Nat) (a0 : Int32) (a1 : Int32) (s : px_S) (t : px_W) : Option px_Res :=
  (px_bi (f_D_has_3 K N a0 s t) (fun v4 s1 t2 => (if v4 = 0 then (some (.inl none, s1, t2)) else (if a1 < 0 then (some (.inl none, s1, t2)) else (if a1 ≤ ((Int32.ofNat (K.2.2 6)) - (16 : Int32)) then (px_let (sQ s1 0 ((s1.2.1 0) + (1 : Int64))) (fun s9 => (if ¬ (lg_cmp (s9.2.1 0) (s9.2.1 1)) = 0 then (if ¬ (s9.1 3) = (64 : Int32) then (px_let (((s9.1 2) + (s9.1 3)) - ((s9.1 2) + (s9.1 3)) / (64 : Int32) * (64 : Int32)) (fun v13 => (px_gd (vp_in v13 (K.2.2 4)) (px_let (sA s9 4 v13.toNatClampNeg a0) (fun s16 => (px_gd (¬ a1 < 0 ∧ ¬ (v13 * (16 : Int32)) < 0 ∧ ¬ (16 : Int32) < 0 ∧ a1.toNatClampNeg + (16 : Int32).toNatClampNeg ≤ K.2.2 6 ∧ (v13 * (16 : Int32)).toNatClampNeg + (16 : Int32).toNatClampNeg ≤ K.2.2 5) (px_let (sF s16 5 (va_cpy (s16.2.2.1 6) (s16.2.2.1 5) a1.toNatClampNeg (v13 * (16 : Int32)).toNatClampNeg (16 : Int32).toNatClampNeg)) (fun s19 => (px_gd (¬ a1 < 0 ∧ ¬ (a0 * (16 : Int32)) < 0 ∧ ¬ (16 : Int32) < 0 ∧ a1.toNatClampNeg + (16 : Int32).toNatClampNeg ≤ K.2.2 6 ∧ (a0 * (16 : Int32)).toNatClampNeg + (16 : Int32).toNatClampNeg ≤ K.2.2 6) (px_let (sF s19 6 (va_cpy (s19.2.2.1 6) (s19.2.2.1 6) a1.toNatClampNeg (a0 * (16 : Int32)).toNatClampNeg (16 : Int32).toNatClampNeg)) (fun s22 => (px_let (sR s22 3 ((s22.1 3) + (1 : Int32))) (fun s24 => (px_let (sR s24 4 ((s24.1 4) + (1 : Int32))) (fun s26 => (some (.inl none, s26, t2))))))))))))))))) else (px_gd ((vp_in (s9.1 2) (K.2.2 4)) ∧ (¬ ((s9.1 2) * (16 : Int32)) < 0 ∧ ¬ (((s9.2.2.1 4) (s9.1 2).toNatClampNeg) * (16 : Int32)) < 0 ∧ ¬ (16 : Int32) < 0 ∧ ((s9.1 2) * (16 : Int32)).toNatClampNeg + (16 : Int32).toNatClampNeg ≤ K.2.2 5 ∧ (((s9.2.2.1 4) (s9.1 2).toNatClampNeg) * (16 : Int32)).toNatClampNeg + (16 : Int32).toNatClampNeg ≤ K.2.2 7)) (px_let (sF s9 7 (va_cpy (s9.2.2.1 5) (s9.2.2.1 7) ((s9.1 2) * (16 : Int32)).toNatClampNeg (((s9.2.2.1 4) (s9.1 2).toNatClampNeg) * (16 : Int32)).toNatClampNeg (16 : Int32).toNatClampNeg)) (fun s30 => (px_let (sR s30 2 (((s30.1 2) + (1 : Int32)) - ((s30.1 2) + (1 : Int32)) / (64 : Int32) * (64 : Int32))) (fun s32 => (px_let (sR s32 3 ((s32.1 3) - (1 : Int32))) (fun s34 => (px_let (((s34.1 2) + (s34.1 3)) - ((s34.1 2) + (s34.1 3)) / (64 : Int32) * (64 : Int32)) (fun v36 => (px_gd (vp_in v36 (K.2.2 4)) (px_let (sA s34 4 v36.toNatClampNeg a0) (fun s39 => (px_gd (¬ a1 < 0 ∧ ¬ (v36 * (16 : Int32)) < 0 ∧ ¬ (16 : Int32) < 0 ∧ a1.toNatClampNeg + (16 : Int32).toNatClampNeg ≤ K.2.2 6 ∧ (v36 * (16 : Int32)).toNatClampNeg + (16 : Int32).toNatClampNeg ≤ K.2.2 5) (px_let (sF s39 5 (va_cpy (s39.2.2.1 6) (s39.2.2.1 5) a1.toNatClampNeg (v36 * (16 : Int32)).toNatClampNeg (16 : Int32).toNatClampNeg)) (fun s42 => (px_gd (¬ a1 < 0 ∧ ¬ (a0 * (16 : Int32)) < 0 ∧ ¬ (16 : Int32) < 0 ∧ a1.toNatClampNeg + (16 : Int32).toNatClampNeg ≤ K.2.2 6 ∧ (a0 * (16 : Int32)).toNatClampNeg + (16 : Int32).toNatClampNeg ≤ K.2.2 6) (px_let (sF s42 6 (va_cpy (s42.2.2.1 6) (s42.2.2.1 6) a1.toNatClampNeg (a0 * (16 : Int32)).toNatClampNeg (16 : Int32).toNatClampNeg)) (fun s45 => (px_let (sR s45 3 ((s45.1 3) + (1 : Int32))) (fun s47 => (px_let (sR s47 4 ((s47.1 4) + (1 : Int32))) (fun s49 => (some (.inl none, s49, t2))))))))))))))))))))))))) else (some (.inr (t2.length + 47), s9, t2 ++ [px_exc 7]))))) else (some (.inl none, s1, t2)))))) (fun x5 s1 t2 => none))
set_option maxRecDepth 100000 in
theorem e_D_put_3_6 (K : px_K) (N : Nat) (a0 : Int32) (a1 : Int32) (s : px_S) (t : px_W) (r : px_Res) (h : f_D_put_3_6 K N a0 a1 s t = some r) : px_E px_ET px_P 9 113 0 (px_ent 5 [.ref 3, .int a0, .ref 6, .int a1]) [] (px_w K s t) r.1 (px_w K r.2.1 r.2.2) := by
  have hM : px_P[113]? = some pm_D_put := rfl
  unfold f_D_put_3_6 at h
  refine px_blk (i' := 2) (L' := [some (.ref 3), some (.int a0), some (.ref 6), some (.int a1), none]) (S' := [.int a0, .ref 3]) (w' := px_w K s t) (q := []) 2 hM rfl trivial ?_
  rcases px_bi_some h with ⟨v4, s1, t2, hk3, h⟩ | ⟨x5, s1, t2, hk3, h⟩
  · refine px_E_call hM rfl rfl rfl rfl (px_E_mono (by decide) (e_D_has_3 K N a0 s t _ hk3)) ?_
    refine px_blkif (c := v4 = 0) (t := 12) (e := 4) (L' := [some (.ref 3), some (.int a0), some (.ref 6), some (.int a1), none]) (S' := []) (w' := px_w K s1 t2) (q := []) 1 hM rfl trivial (fun hc6 => ?_) (fun hc6 => ?_)
    · rw [if_pos hc6] at h
      cases h
      exact px_E_ret hM rfl rfl rfl trivial
    · rw [if_neg hc6] at h
      refine px_blkif (c := a1 < 0) (t := 12) (e := 6) (L' := [some (.ref 3), some (.int a0), some (.ref 6), some (.int a1), none]) (S' := []) (w' := px_w K s1 t2) (q := []) 2 hM rfl trivial (fun hc7 => ?_) (fun hc7 => ?_)
      · rw [if_pos hc7] at h
        cases h
        exact px_E_ret hM rfl rfl rfl trivial
      · rw [if_neg hc7] at h
        refine px_blkif (c := a1 ≤ ((Int32.ofNat (K.2.2 6)) - (16 : Int32))) (t := 13) (e := 12) (L' := [some (.ref 3), some (.int a0), some (.ref 6), some (.int a1), none]) (S' := []) (w' := px_w K s1 t2) (q := []) 6 hM rfl trivial (fun hc8 => ?_) (fun hc8 => ?_)
        · rw [if_pos hc8] at h
          refine px_blk (i' := 20) (L' := [some (.ref 3), some (.int a0), some (.ref 6), some (.int a1), none]) (S' := []) (w' := px_w K (sQ s1 0 ((s1.2.1 0) + (1 : Int64))) t2) (q := []) 7 hM rfl trivial ?_
          obtain ⟨s9, hs10, h⟩ := px_let_some h
          rw [← hs10]
          refine px_blkif (c := ¬ (lg_cmp (s9.2.1 0) (s9.2.1 1)) = 0) (t := 29) (e := 28) (L' := [some (.ref 3), some (.int a0), some (.ref 6), some (.int a1), none]) (S' := []) (w' := px_w K s9 t2) (q := []) 8 hM rfl trivial (fun hc11 => ?_) (fun hc11 => ?_)
          · rw [if_pos hc11] at h
            refine px_blkif (c := ¬ (s9.1 3) = (64 : Int32)) (t := 64) (e := 33) (L' := [some (.ref 3), some (.int a0), some (.ref 6), some (.int a1), none]) (S' := []) (w' := px_w K s9 t2) (q := []) 4 hM rfl trivial (fun hc12 => ?_) (fun hc12 => ?_)
            · rw [if_pos hc12] at h
              refine px_blk (i' := 72) (L' := [some (.ref 3), some (.int a0), some (.ref 6), some (.int a1), some (.int (((s9.1 2) + (s9.1 3)) - ((s9.1 2) + (s9.1 3)) / (64 : Int32) * (64 : Int32)))]) (S' := []) (w' := px_w K s9 t2) (q := [¬ (64 : Int32) = 0]) 8 hM rfl (show ¬ (64 : Int32) = 0 from (by decide)) ?_
              obtain ⟨v13, hv14, h⟩ := px_let_some h
              rw [← hv14]
              obtain ⟨hq15, h⟩ := px_gd_some h
              refine px_blk (i' := 77) (L' := [some (.ref 3), some (.int a0), some (.ref 6), some (.int a1), some (.int v13)]) (S' := []) (w' := px_w K (sA s9 4 v13.toNatClampNeg a0) t2) (q := [vp_in v13 (K.2.2 4)]) 5 hM rfl (show vp_in v13 (K.2.2 4) from hq15) ?_
              obtain ⟨s16, hs17, h⟩ := px_let_some h
              rw [← hs17]
              obtain ⟨hq18, h⟩ := px_gd_some h
              refine px_blk (i' := 86) (L' := [some (.ref 3), some (.int a0), some (.ref 6), some (.int a1), some (.int v13)]) (S' := []) (w' := px_w K (sF s16 5 (va_cpy (s16.2.2.1 6) (s16.2.2.1 5) a1.toNatClampNeg (v13 * (16 : Int32)).toNatClampNeg (16 : Int32).toNatClampNeg)) t2) (q := [¬ a1 < 0 ∧ ¬ (v13 * (16 : Int32)) < 0 ∧ ¬ (16 : Int32) < 0 ∧ a1.toNatClampNeg + (16 : Int32).toNatClampNeg ≤ K.2.2 6 ∧ (v13 * (16 : Int32)).toNatClampNeg + (16 : Int32).toNatClampNeg ≤ K.2.2 5]) 9 hM rfl (show ¬ a1 < 0 ∧ ¬ (v13 * (16 : Int32)) < 0 ∧ ¬ (16 : Int32) < 0 ∧ a1.toNatClampNeg + (16 : Int32).toNatClampNeg ≤ K.2.2 6 ∧ (v13 * (16 : Int32)).toNatClampNeg + (16 : Int32).toNatClampNeg ≤ K.2.2 5 from hq18) ?_
              obtain ⟨s19, hs20, h⟩ := px_let_some h
              rw [← hs20]
              obtain ⟨hq21, h⟩ := px_gd_some h
              refine px_blk (i' := 95) (L' := [some (.ref 3), some (.int a0), some (.ref 6), some (.int a1), some (.int v13)]) (S' := []) (w' := px_w K (sF s19 6 (va_cpy (s19.2.2.1 6) (s19.2.2.1 6) a1.toNatClampNeg (a0 * (16 : Int32)).toNatClampNeg (16 : Int32).toNatClampNeg)) t2) (q := [¬ a1 < 0 ∧ ¬ (a0 * (16 : Int32)) < 0 ∧ ¬ (16 : Int32) < 0 ∧ a1.toNatClampNeg + (16 : Int32).toNatClampNeg ≤ K.2.2 6 ∧ (a0 * (16 : Int32)).toNatClampNeg + (16 : Int32).toNatClampNeg ≤ K.2.2 6]) 9 hM rfl (show ¬ a1 < 0 ∧ ¬ (a0 * (16 : Int32)) < 0 ∧ ¬ (16 : Int32) < 0 ∧ a1.toNatClampNeg + (16 : Int32).toNatClampNeg ≤ K.2.2 6 ∧ (a0 * (16 : Int32)).toNatClampNeg + (16 : Int32).toNatClampNeg ≤ K.2.2 6 from hq21) ?_
              obtain ⟨s22, hs23, h⟩ := px_let_some h
              rw [← hs23]
              refine px_blk (i' := 101) (L' := [some (.ref 3), some (.int a0), some (.ref 6), some (.int a1), some (.int v13)]) (S' := []) (w' := px_w K (sR s22 3 ((s22.1 3) + (1 : Int32))) t2) (q := []) 6 hM rfl trivial ?_
              obtain ⟨s24, hs25, h⟩ := px_let_some h
              rw [← hs25]
              refine px_blk (i' := 107) (L' := [some (.ref 3), some (.int a0), some (.ref 6), some (.int a1), some (.int v13)]) (S' := []) (w' := px_w K (sR s24 4 ((s24.1 4) + (1 : Int32))) t2) (q := []) 6 hM rfl trivial ?_
              obtain ⟨s26, hs27, h⟩ := px_let_some h
              rw [← hs27]
              cases h
              exact px_E_ret hM rfl rfl rfl trivial
            · rw [if_neg hc12] at h
              refine px_blk (i' := 45) (L' := [some (.ref 3), some (.int a0), some (.ref 6), some (.int a1), none]) (S' := [.int (s9.1 2), .ref 4, .ref 7, .int ((s9.1 2) * (16 : Int32)), .ref 5]) (w' := px_w K s9 t2) (q := []) 12 hM rfl trivial ?_
              obtain ⟨⟨hq28, hq29⟩, h⟩ := px_gd_some h
              refine px_blk (i' := 50) (L' := [some (.ref 3), some (.int a0), some (.ref 6), some (.int a1), none]) (S' := []) (w' := px_w K (sF s9 7 (va_cpy (s9.2.2.1 5) (s9.2.2.1 7) ((s9.1 2) * (16 : Int32)).toNatClampNeg (((s9.2.2.1 4) (s9.1 2).toNatClampNeg) * (16 : Int32)).toNatClampNeg (16 : Int32).toNatClampNeg)) t2) (q := [vp_in (s9.1 2) (K.2.2 4), ¬ ((s9.1 2) * (16 : Int32)) < 0 ∧ ¬ (((s9.2.2.1 4) (s9.1 2).toNatClampNeg) * (16 : Int32)) < 0 ∧ ¬ (16 : Int32) < 0 ∧ ((s9.1 2) * (16 : Int32)).toNatClampNeg + (16 : Int32).toNatClampNeg ≤ K.2.2 5 ∧ (((s9.2.2.1 4) (s9.1 2).toNatClampNeg) * (16 : Int32)).toNatClampNeg + (16 : Int32).toNatClampNeg ≤ K.2.2 7]) 5 hM rfl (show (vp_in (s9.1 2) (K.2.2 4)) ∧ (¬ ((s9.1 2) * (16 : Int32)) < 0 ∧ ¬ (((s9.2.2.1 4) (s9.1 2).toNatClampNeg) * (16 : Int32)) < 0 ∧ ¬ (16 : Int32) < 0 ∧ ((s9.1 2) * (16 : Int32)).toNatClampNeg + (16 : Int32).toNatClampNeg ≤ K.2.2 5 ∧ (((s9.2.2.1 4) (s9.1 2).toNatClampNeg) * (16 : Int32)).toNatClampNeg + (16 : Int32).toNatClampNeg ≤ K.2.2 7) from ⟨hq28, hq29⟩) ?_
              obtain ⟨s30, hs31, h⟩ := px_let_some h
              rw [← hs31]
              refine px_blk (i' := 58) (L' := [some (.ref 3), some (.int a0), some (.ref 6), some (.int a1), none]) (S' := []) (w' := px_w K (sR s30 2 (((s30.1 2) + (1 : Int32)) - ((s30.1 2) + (1 : Int32)) / (64 : Int32) * (64 : Int32))) t2) (q := [¬ (64 : Int32) = 0]) 8 hM rfl (show ¬ (64 : Int32) = 0 from (by decide)) ?_
              obtain ⟨s32, hs33, h⟩ := px_let_some h
              rw [← hs33]
              refine px_blk (i' := 64) (L' := [some (.ref 3), some (.int a0), some (.ref 6), some (.int a1), none]) (S' := []) (w' := px_w K (sR s32 3 ((s32.1 3) - (1 : Int32))) t2) (q := []) 6 hM rfl trivial ?_
              obtain ⟨s34, hs35, h⟩ := px_let_some h
              rw [← hs35]
              refine px_blk (i' := 72) (L' := [some (.ref 3), some (.int a0), some (.ref 6), some (.int a1), some (.int (((s34.1 2) + (s34.1 3)) - ((s34.1 2) + (s34.1 3)) / (64 : Int32) * (64 : Int32)))]) (S' := []) (w' := px_w K s34 t2) (q := [¬ (64 : Int32) = 0]) 8 hM rfl (show ¬ (64 : Int32) = 0 from (by decide)) ?_
              obtain ⟨v36, hv37, h⟩ := px_let_some h
              rw [← hv37]
              obtain ⟨hq38, h⟩ := px_gd_some h
              refine px_blk (i' := 77) (L' := [some (.ref 3), some (.int a0), some (.ref 6), some (.int a1), some (.int v36)]) (S' := []) (w' := px_w K (sA s34 4 v36.toNatClampNeg a0) t2) (q := [vp_in v36 (K.2.2 4)]) 5 hM rfl (show vp_in v36 (K.2.2 4) from hq38) ?_
              obtain ⟨s39, hs40, h⟩ := px_let_some h
              rw [← hs40]
              obtain ⟨hq41, h⟩ := px_gd_some h
              refine px_blk (i' := 86) (L' := [some (.ref 3), some (.int a0), some (.ref 6), some (.int a1), some (.int v36)]) (S' := []) (w' := px_w K (sF s39 5 (va_cpy (s39.2.2.1 6) (s39.2.2.1 5) a1.toNatClampNeg (v36 * (16 : Int32)).toNatClampNeg (16 : Int32).toNatClampNeg)) t2) (q := [¬ a1 < 0 ∧ ¬ (v36 * (16 : Int32)) < 0 ∧ ¬ (16 : Int32) < 0 ∧ a1.toNatClampNeg + (16 : Int32).toNatClampNeg ≤ K.2.2 6 ∧ (v36 * (16 : Int32)).toNatClampNeg + (16 : Int32).toNatClampNeg ≤ K.2.2 5]) 9 hM rfl (show ¬ a1 < 0 ∧ ¬ (v36 * (16 : Int32)) < 0 ∧ ¬ (16 : Int32) < 0 ∧ a1.toNatClampNeg + (16 : Int32).toNatClampNeg ≤ K.2.2 6 ∧ (v36 * (16 : Int32)).toNatClampNeg + (16 : Int32).toNatClampNeg ≤ K.2.2 5 from hq41) ?_
              obtain ⟨s42, hs43, h⟩ := px_let_some h
              rw [← hs43]
              obtain ⟨hq44, h⟩ := px_gd_some h
              refine px_blk (i' := 95) (L' := [some (.ref 3), some (.int a0), some (.ref 6), some (.int a1), some (.int v36)]) (S' := []) (w' := px_w K (sF s42 6 (va_cpy (s42.2.2.1 6) (s42.2.2.1 6) a1.toNatClampNeg (a0 * (16 : Int32)).toNatClampNeg (16 : Int32).toNatClampNeg)) t2) (q := [¬ a1 < 0 ∧ ¬ (a0 * (16 : Int32)) < 0 ∧ ¬ (16 : Int32) < 0 ∧ a1.toNatClampNeg + (16 : Int32).toNatClampNeg ≤ K.2.2 6 ∧ (a0 * (16 : Int32)).toNatClampNeg + (16 : Int32).toNatClampNeg ≤ K.2.2 6]) 9 hM rfl (show ¬ a1 < 0 ∧ ¬ (a0 * (16 : Int32)) < 0 ∧ ¬ (16 : Int32) < 0 ∧ a1.toNatClampNeg + (16 : Int32).toNatClampNeg ≤ K.2.2 6 ∧ (a0 * (16 : Int32)).toNatClampNeg + (16 : Int32).toNatClampNeg ≤ K.2.2 6 from hq44) ?_
              obtain ⟨s45, hs46, h⟩ := px_let_some h
              rw [← hs46]
              refine px_blk (i' := 101) (L' := [some (.ref 3), some (.int a0), some (.ref 6), some (.int a1), some (.int v36)]) (S' := []) (w' := px_w K (sR s45 3 ((s45.1 3) + (1 : Int32))) t2) (q := []) 6 hM rfl trivial ?_
              obtain ⟨s47, hs48, h⟩ := px_let_some h
              rw [← hs48]
              refine px_blk (i' := 107) (L' := [some (.ref 3), some (.int a0), some (.ref 6), some (.int a1), some (.int v36)]) (S' := []) (w' := px_w K (sR s47 4 ((s47.1 4) + (1 : Int32))) t2) (q := []) 6 hM rfl trivial ?_
              obtain ⟨s49, hs50, h⟩ := px_let_some h
              rw [← hs50]
              cases h
              exact px_E_ret hM rfl rfl rfl trivial
          · rw [if_neg hc11] at h
            cases h
            exact px_E_throw2 hM rfl rfl (by decide) (by decide) rfl rfl
        · rw [if_neg hc8] at h
          cases h
          exact px_E_ret hM rfl rfl rfl trivial
  · cases h
noncomputable def l_V_finishLanding_13_18 (K : px_K) (N : Nat) (n : Nat) (u1 : Int32) (m2 : Int32) (s : px_S) (t : px_W) : Option px_LO := match n with
  | 0 => none
  | n + 1 => (if u1 ≤ m2 then (some (.inl (48, [], s, t))) else (px_bi (f_D_at_3 K N (2 : Int32) m2 s t) (fun v5 s2 t3 => (if v5 < 0 then (l_V_finishLanding_13_18 K N n u1 (m2 + (1 : Int32)) s2 t3) else (if (106 : Int32) ≤ v5 then (l_V_finishLanding_13_18 K N n u1 (m2 + (1 : Int32)) s2 t3) else (px_bv (f_D_put_3_6 K N ((19 : Int32) + v5) (((3 : Int32) + m2) * (16 : Int32)) s2 t3) (fun s9 t10 => (l_V_finishLanding_13_18 K N n u1 (m2 + (1 : Int32)) s9 t10)) (fun x13 s9 t10 => (some (.inr (.inr x13, s9, t10)))))))) (fun x6 s2 t3 => none)))
def a_l_V_finishLanding_13_18 (K : px_K) (u1 : Int32) (z : px_LO) (o : Option Value ⊕ Nat) (w2 : px_W) : Prop := match z with
  | .inr (o', s', t') => o = o' ∧ w2 = px_w K s' t'
  | .inl (48, [], s', t') => px_E px_ET px_P 10 193 48 [some (.ref 13), none, none, none] [] (px_w K s' t') o w2
  | _ => False
set_option maxRecDepth 100000 in
theorem e_l_V_finishLanding_13_18 (K : px_K) (N : Nat) (u1 : Int32) : ∀ (n : Nat) (m2 : Int32) (s : px_S) (t : px_W) (z : px_LO), l_V_finishLanding_13_18 K N n u1 m2 s t = some z → ∀ (o : Option Value ⊕ Nat) (w2 : px_W), a_l_V_finishLanding_13_18 K u1 z o w2 → px_E px_ET px_P 10 193 18 [some (.ref 13), some (.int u1), some (.int m2), none] [] (px_w K s t) o w2 := by
  have hM : px_P[193]? = some pm_V_finishLanding := rfl
  intro n
  induction n with
  | zero => intro m2 s t z h; cases h
  | succ n ih =>
    intro m2 s t z h o w2 ha
    unfold l_V_finishLanding_13_18 at h
    refine px_blkif (c := u1 ≤ m2) (t := 48) (e := 21) (L' := [some (.ref 13), some (.int u1), some (.int m2), none]) (S' := []) (w' := px_w K s t) (q := []) 3 hM rfl trivial (fun hc1 => ?_) (fun hc1 => ?_)
    · rw [if_pos hc1] at h
      cases h
      exact px_E_le (px_leC_L _ _ (by simp [px_leC, px_le1, Value.category])) ha
    · rw [if_neg hc1] at h
      refine px_blk (i' := 25) (L' := [some (.ref 13), some (.int u1), some (.int m2), none]) (S' := [.int m2, .int (2 : Int32), .ref 3]) (w' := px_w K s t) (q := []) 4 hM rfl trivial ?_
      rcases px_bi_some h with ⟨v5, s2, t3, hk4, h⟩ | ⟨x6, s2, t3, hk4, h⟩
      · refine px_E_call hM rfl rfl rfl rfl (px_E_mono (by decide) (e_D_at_3 K N (2 : Int32) m2 s t _ hk4)) ?_
        refine px_blkif (c := v5 < 0) (t := 46) (e := 29) (L' := [some (.ref 13), some (.int u1), some (.int m2), some (.int v5)]) (S' := []) (w' := px_w K s2 t3) (q := []) 3 hM rfl trivial (fun hc7 => ?_) (fun hc7 => ?_)
        · rw [if_pos hc7] at h
          refine px_blk (i' := 18) (L' := [some (.ref 13), some (.int u1), some (.int (m2 + (1 : Int32))), some (.int v5)]) (S' := []) (w' := px_w K s2 t3) (q := []) 2 hM rfl trivial ?_
          exact px_E_le (px_leC_L _ _ (by simp [px_leC, px_le1, Value.category])) (ih (m2 + (1 : Int32)) s2 t3 z h o w2 ha)
        · rw [if_neg hc7] at h
          refine px_blkif (c := (106 : Int32) ≤ v5) (t := 46) (e := 32) (L' := [some (.ref 13), some (.int u1), some (.int m2), some (.int v5)]) (S' := []) (w' := px_w K s2 t3) (q := []) 3 hM rfl trivial (fun hc8 => ?_) (fun hc8 => ?_)
          · rw [if_pos hc8] at h
            refine px_blk (i' := 18) (L' := [some (.ref 13), some (.int u1), some (.int (m2 + (1 : Int32))), some (.int v5)]) (S' := []) (w' := px_w K s2 t3) (q := []) 2 hM rfl trivial ?_
            exact px_E_le (px_leC_L _ _ (by simp [px_leC, px_le1, Value.category])) (ih (m2 + (1 : Int32)) s2 t3 z h o w2 ha)
          · rw [if_neg hc8] at h
            refine px_blk (i' := 44) (L' := [some (.ref 13), some (.int u1), some (.int m2), some (.int v5)]) (S' := [.int (16 : Int32), .int ((3 : Int32) + m2), .ref 6, .int ((19 : Int32) + v5), .ref 3]) (w' := px_w K s2 t3) (q := []) 12 hM rfl trivial ?_
            refine px_blk (i' := 45) (L' := [some (.ref 13), some (.int u1), some (.int m2), some (.int v5)]) (S' := [.int (((3 : Int32) + m2) * (16 : Int32)), .ref 6, .int ((19 : Int32) + v5), .ref 3]) (w' := px_w K s2 t3) (q := []) 1 hM rfl trivial ?_
            rcases px_bv_some h with ⟨s9, t10, hk11, h⟩ | ⟨x13, s9, t10, hk11, h⟩
            · refine px_E_call hM rfl rfl rfl rfl (px_E_mono (by decide) (e_D_put_3_6 K N ((19 : Int32) + v5) (((3 : Int32) + m2) * (16 : Int32)) s2 t3 _ hk11)) ?_
              refine px_blk (i' := 18) (L' := [some (.ref 13), some (.int u1), some (.int (m2 + (1 : Int32))), some (.int v5)]) (S' := []) (w' := px_w K s9 t10) (q := []) 2 hM rfl trivial ?_
              exact px_E_le (px_leC_L _ _ (by simp [px_leC, px_le1, Value.category])) (ih (m2 + (1 : Int32)) s9 t10 z h o w2 ha)
            · cases h
              obtain ⟨rfl, rfl⟩ := ha
              exact px_E_callT hM rfl rfl rfl rfl (px_E_mono (by decide) (e_D_put_3_6 K N ((19 : Int32) + v5) (((3 : Int32) + m2) * (16 : Int32)) s2 t3 _ hk11)) rfl
      · cases h
noncomputable def f_V_finishLanding_13 (K : px_K) (N : Nat) (s : px_S) (t : px_W) : Option px_Res :=
  (px_bi (f_D_at_3 K N (1 : Int32) (0 : Int32) s t) (fun v4 s1 t2 => (if v4 = (1 : Int32) then (px_bi (f_D_at_3 K N (1 : Int32) (2 : Int32) s1 t2) (fun v10 s7 t8 => (px_bi (f_Math_min K N (16 : Int32) v10 s7 t8) (fun v15 s12 t13 => (px_lp (l_V_finishLanding_13_18 K N N v15 (0 : Int32) s12 t13) (fun i17 vs18 s19 t20 => (if i17 = 48 then (px_v0 vs18 (px_bv (f_D_flush_3 K N s19 t20) (fun s24 t25 => (px_bi (f_V_landed_13 K N s24 t25) (fun v32 s29 t30 => (px_bv (f_V_setRow_13 K N (0 : Int32) v32 (0 : Int32) s29 t30) (fun s34 t35 => (px_bv (f_D_put_3_20 K N (1 : Int32) (0 : Int32) s34 t35) (fun s39 t40 => (px_bv (f_D_flush_3 K N s39 t40) (fun s44 t45 => (some (.inl none, s44, t45))) (fun x48 s44 t45 => (some (.inr x48, s44, t45))))) (fun x43 s39 t40 => (some (.inr x43, s39, t40))))) (fun x38 s34 t35 => none))) (fun x33 s29 t30 => none))) (fun x28 s24 t25 => (some (.inr x28, s24, t25))))) else none)) (fun z22 => some z22))) (fun x16 s12 t13 => none))) (fun x11 s7 t8 => none)) else (some (.inl none, s1, t2)))) (fun x5 s1 t2 => none))
set_option maxRecDepth 100000 in
theorem e_V_finishLanding_13 (K : px_K) (N : Nat) (s : px_S) (t : px_W) (r : px_Res) (h : f_V_finishLanding_13 K N s t = some r) : px_E px_ET px_P 10 193 0 (px_ent 4 [.ref 13]) [] (px_w K s t) r.1 (px_w K r.2.1 r.2.2) := by
  have hM : px_P[193]? = some pm_V_finishLanding := rfl
  unfold f_V_finishLanding_13 at h
  refine px_blk (i' := 4) (L' := [some (.ref 13), none, none, none]) (S' := [.int (0 : Int32), .int (1 : Int32), .ref 3]) (w' := px_w K s t) (q := []) 4 hM rfl trivial ?_
  rcases px_bi_some h with ⟨v4, s1, t2, hk3, h⟩ | ⟨x5, s1, t2, hk3, h⟩
  · refine px_E_call hM rfl rfl rfl rfl (px_E_mono (by decide) (e_D_at_3 K N (1 : Int32) (0 : Int32) s t _ hk3)) ?_
    refine px_blkif (c := v4 = (1 : Int32)) (t := 8) (e := 7) (L' := [some (.ref 13), none, none, none]) (S' := []) (w' := px_w K s1 t2) (q := []) 2 hM rfl trivial (fun hc6 => ?_) (fun hc6 => ?_)
    · rw [if_pos hc6] at h
      refine px_blk (i' := 13) (L' := [some (.ref 13), none, none, none]) (S' := [.int (2 : Int32), .int (1 : Int32), .ref 3, .int (16 : Int32)]) (w' := px_w K s1 t2) (q := []) 5 hM rfl trivial ?_
      rcases px_bi_some h with ⟨v10, s7, t8, hk9, h⟩ | ⟨x11, s7, t8, hk9, h⟩
      · refine px_E_call hM rfl rfl rfl rfl (px_E_mono (by decide) (e_D_at_3 K N (1 : Int32) (2 : Int32) s1 t2 _ hk9)) ?_
        rcases px_bi_some h with ⟨v15, s12, t13, hk14, h⟩ | ⟨x16, s12, t13, hk14, h⟩
        · refine px_E_call hM rfl rfl rfl rfl (px_E_mono (by decide) (e_Math_min K N (16 : Int32) v10 s7 t8 _ hk14)) ?_
          refine px_blk (i' := 18) (L' := [some (.ref 13), some (.int v15), some (.int (0 : Int32)), none]) (S' := []) (w' := px_w K s12 t13) (q := []) 3 hM rfl trivial ?_
          rcases px_lp_some h with ⟨i17, vs18, s19, t20, hl21, h⟩ | ⟨z22, hl21, h⟩
          · by_cases hi23 : i17 = 48
            · subst hi23
              rw [if_pos rfl] at h
              have h9 := px_v0_some h
              clear h
              obtain ⟨rfl, h⟩ := h9
              refine e_l_V_finishLanding_13_18 K N v15 N (0 : Int32) s12 t13 _ hl21 _ _ ?_
              show px_E px_ET px_P 10 193 48 [some (.ref 13), none, none, none] [] (px_w K s19 t20) _ _
              refine px_blk (i' := 50) (L' := [some (.ref 13), none, none, none]) (S' := [.ref 3]) (w' := px_w K s19 t20) (q := []) 2 hM rfl trivial ?_
              rcases px_bv_some h with ⟨s24, t25, hk26, h⟩ | ⟨x28, s24, t25, hk26, h⟩
              · refine px_E_call hM rfl rfl rfl rfl (px_E_mono (by decide) (e_D_flush_3 K N s19 t20 _ hk26)) ?_
                refine px_blk (i' := 54) (L' := [some (.ref 13), none, none, none]) (S' := [.ref 13, .int (0 : Int32), .ref 13]) (w' := px_w K s24 t25) (q := []) 3 hM rfl trivial ?_
                rcases px_bi_some h with ⟨v32, s29, t30, hk31, h⟩ | ⟨x33, s29, t30, hk31, h⟩
                · refine px_E_call hM rfl rfl rfl rfl (px_E_mono (by decide) (e_V_landed_13 K N s24 t25 _ hk31)) ?_
                  refine px_blk (i' := 56) (L' := [some (.ref 13), none, none, none]) (S' := [.int (0 : Int32), .int v32, .int (0 : Int32), .ref 13]) (w' := px_w K s29 t30) (q := []) 1 hM rfl trivial ?_
                  rcases px_bv_some h with ⟨s34, t35, hk36, h⟩ | ⟨x38, s34, t35, hk36, h⟩
                  · refine px_E_call hM rfl rfl rfl rfl (px_E_mono (by decide) (e_V_setRow_13 K N (0 : Int32) v32 (0 : Int32) s29 t30 _ hk36)) ?_
                    refine px_blk (i' := 63) (L' := [some (.ref 13), none, none, none]) (S' := [.int (0 : Int32), .ref 20, .int (1 : Int32), .ref 3]) (w' := px_w K s34 t35) (q := []) 6 hM rfl trivial ?_
                    rcases px_bv_some h with ⟨s39, t40, hk41, h⟩ | ⟨x43, s39, t40, hk41, h⟩
                    · refine px_E_call hM rfl rfl rfl rfl (px_E_mono (by decide) (e_D_put_3_20 K N (1 : Int32) (0 : Int32) s34 t35 _ hk41)) ?_
                      refine px_blk (i' := 66) (L' := [some (.ref 13), none, none, none]) (S' := [.ref 3]) (w' := px_w K s39 t40) (q := []) 2 hM rfl trivial ?_
                      rcases px_bv_some h with ⟨s44, t45, hk46, h⟩ | ⟨x48, s44, t45, hk46, h⟩
                      · refine px_E_call hM rfl rfl rfl rfl (px_E_mono (by decide) (e_D_flush_3 K N s39 t40 _ hk46)) ?_
                        cases h
                        exact px_E_ret hM rfl rfl rfl trivial
                      · cases h
                        exact px_E_callT hM rfl rfl rfl rfl (px_E_mono (by decide) (e_D_flush_3 K N s39 t40 _ hk46)) rfl
                    · cases h
                      exact px_E_callT hM rfl rfl rfl rfl (px_E_mono (by decide) (e_D_put_3_20 K N (1 : Int32) (0 : Int32) s34 t35 _ hk41)) rfl
                  · cases h
                · cases h
              · cases h
                exact px_E_callT hM rfl rfl rfl rfl (px_E_mono (by decide) (e_D_flush_3 K N s19 t20 _ hk26)) rfl
            · rw [if_neg hi23] at h
              cases h
          · cases h
            exact e_l_V_finishLanding_13_18 K N v15 N (0 : Int32) s12 t13 _ hl21 _ _ ⟨rfl, rfl⟩
        · cases h
      · cases h
    · rw [if_neg hc6] at h
      cases h
      exact px_E_ret hM rfl rfl rfl trivial
  · cases h
noncomputable def f_V_openDisc_13 (K : px_K) (N : Nat) (s : px_S) (t : px_W) : Option px_Res :=
  (px_let (sR s 12 (0 : Int32)) (fun s1 => (px_bi (f_D_at_3 K N (0 : Int32) (0 : Int32) s1 t) (fun v6 s3 t4 => (px_bv (f_V_setRow_13 K N (v6 + (1 : Int32)) (0 : Int32) (0 : Int32) s3 t4) (fun s8 t9 => (px_bv (f_D_put_3_20 K N (0 : Int32) (0 : Int32) s8 t9) (fun s13 t14 => (px_bv (f_D_flush_3 K N s13 t14) (fun s18 t19 => (some (.inl none, s18, t19))) (fun x22 s18 t19 => (some (.inr x22, s18, t19))))) (fun x17 s13 t14 => (some (.inr x17, s13, t14))))) (fun x12 s8 t9 => none))) (fun x7 s3 t4 => none))))
set_option maxRecDepth 100000 in
theorem e_V_openDisc_13 (K : px_K) (N : Nat) (s : px_S) (t : px_W) (r : px_Res) (h : f_V_openDisc_13 K N s t = some r) : px_E px_ET px_P 10 199 0 (px_ent 1 [.ref 13]) [] (px_w K s t) r.1 (px_w K r.2.1 r.2.2) := by
  have hM : px_P[199]? = some pm_V_openDisc := rfl
  unfold f_V_openDisc_13 at h
  refine px_blk (i' := 3) (L' := [some (.ref 13)]) (S' := []) (w' := px_w K (sR s 12 (0 : Int32)) t) (q := [(0 : Int32) = 0 ∨ (0 : Int32) = 1]) 3 hM rfl (show (0 : Int32) = 0 ∨ (0 : Int32) = 1 from Or.inl rfl) ?_
  obtain ⟨s1, hs2, h⟩ := px_let_some h
  rw [← hs2]
  refine px_blk (i' := 8) (L' := [some (.ref 13)]) (S' := [.int (0 : Int32), .int (0 : Int32), .ref 3, .ref 13]) (w' := px_w K s1 t) (q := []) 5 hM rfl trivial ?_
  rcases px_bi_some h with ⟨v6, s3, t4, hk5, h⟩ | ⟨x7, s3, t4, hk5, h⟩
  · refine px_E_call hM rfl rfl rfl rfl (px_E_mono (by decide) (e_D_at_3 K N (0 : Int32) (0 : Int32) s1 t _ hk5)) ?_
    refine px_blk (i' := 13) (L' := [some (.ref 13)]) (S' := [.int (0 : Int32), .int (0 : Int32), .int (v6 + (1 : Int32)), .ref 13]) (w' := px_w K s3 t4) (q := []) 4 hM rfl trivial ?_
    rcases px_bv_some h with ⟨s8, t9, hk10, h⟩ | ⟨x12, s8, t9, hk10, h⟩
    · refine px_E_call hM rfl rfl rfl rfl (px_E_mono (by decide) (e_V_setRow_13 K N (v6 + (1 : Int32)) (0 : Int32) (0 : Int32) s3 t4 _ hk10)) ?_
      refine px_blk (i' := 20) (L' := [some (.ref 13)]) (S' := [.int (0 : Int32), .ref 20, .int (0 : Int32), .ref 3]) (w' := px_w K s8 t9) (q := []) 6 hM rfl trivial ?_
      rcases px_bv_some h with ⟨s13, t14, hk15, h⟩ | ⟨x17, s13, t14, hk15, h⟩
      · refine px_E_call hM rfl rfl rfl rfl (px_E_mono (by decide) (e_D_put_3_20 K N (0 : Int32) (0 : Int32) s8 t9 _ hk15)) ?_
        refine px_blk (i' := 23) (L' := [some (.ref 13)]) (S' := [.ref 3]) (w' := px_w K s13 t14) (q := []) 2 hM rfl trivial ?_
        rcases px_bv_some h with ⟨s18, t19, hk20, h⟩ | ⟨x22, s18, t19, hk20, h⟩
        · refine px_E_call hM rfl rfl rfl rfl (px_E_mono (by decide) (e_D_flush_3 K N s13 t14 _ hk20)) ?_
          cases h
          exact px_E_ret hM rfl rfl rfl trivial
        · cases h
          exact px_E_callT hM rfl rfl rfl rfl (px_E_mono (by decide) (e_D_flush_3 K N s13 t14 _ hk20)) rfl
      · cases h
        exact px_E_callT hM rfl rfl rfl rfl (px_E_mono (by decide) (e_D_put_3_20 K N (0 : Int32) (0 : Int32) s8 t9 _ hk15)) rfl
    · cases h
  · cases h
noncomputable def l_T_peekAll_22_2 (K : px_K) (N : Nat) (n : Nat) (m1 : Int32) (s : px_S) (t : px_W) : Option px_LO := match n with
  | 0 => none
  | n + 1 => (if (106 : Int32) ≤ m1 then (some (.inl (13, [], s, t))) else (px_bv (f_V_peek_13_23 K N m1 s t) (fun s2 t3 => (l_T_peekAll_22_2 K N n (m1 + (1 : Int32)) s2 t3)) (fun x6 s2 t3 => none)))
def a_l_T_peekAll_22_2 (K : px_K) (z : px_LO) (o : Option Value ⊕ Nat) (w2 : px_W) : Prop := match z with
  | .inr (o', s', t') => o = o' ∧ w2 = px_w K s' t'
  | .inl (13, [], s', t') => px_E px_ET px_P 3 177 13 [none, none] [] (px_w K s' t') o w2
  | _ => False
set_option maxRecDepth 100000 in
theorem e_l_T_peekAll_22_2 (K : px_K) (N : Nat) : ∀ (n : Nat) (m1 : Int32) (s : px_S) (t : px_W) (z : px_LO), l_T_peekAll_22_2 K N n m1 s t = some z → ∀ (o : Option Value ⊕ Nat) (w2 : px_W), a_l_T_peekAll_22_2 K z o w2 → px_E px_ET px_P 3 177 2 [some (.ref 22), some (.int m1)] [] (px_w K s t) o w2 := by
  have hM : px_P[177]? = some pm_T_peekAll := rfl
  intro n
  induction n with
  | zero => intro m1 s t z h; cases h
  | succ n ih =>
    intro m1 s t z h o w2 ha
    unfold l_T_peekAll_22_2 at h
    refine px_blkif (c := (106 : Int32) ≤ m1) (t := 13) (e := 5) (L' := [some (.ref 22), some (.int m1)]) (S' := []) (w' := px_w K s t) (q := []) 3 hM rfl trivial (fun hc1 => ?_) (fun hc1 => ?_)
    · rw [if_pos hc1] at h
      cases h
      exact px_E_le (px_leC_L _ _ (by simp [px_leC, px_le1, Value.category])) ha
    · rw [if_neg hc1] at h
      refine px_blk (i' := 10) (L' := [some (.ref 22), some (.int m1)]) (S' := [.ref 23, .int m1, .ref 13]) (w' := px_w K s t) (q := []) 5 hM rfl trivial ?_
      rcases px_bv_some h with ⟨s2, t3, hk4, h⟩ | ⟨x6, s2, t3, hk4, h⟩
      · refine px_E_call hM rfl rfl rfl rfl (px_E_mono (by decide) (e_V_peek_13_23 K N m1 s t _ hk4)) ?_
        refine px_blk (i' := 2) (L' := [some (.ref 22), some (.int (m1 + (1 : Int32)))]) (S' := []) (w' := px_w K s2 t3) (q := []) 2 hM rfl trivial ?_
        exact ih (m1 + (1 : Int32)) s2 t3 z h o w2 ha
      · cases h
noncomputable def f_T_peekAll_22 (K : px_K) (N : Nat) (s : px_S) (t : px_W) : Option px_Res :=
  (px_lp (l_T_peekAll_22_2 K N N (0 : Int32) s t) (fun i1 vs2 s3 t4 => (if i1 = 13 then (px_v0 vs2 (some (.inl none, s3, t4))) else none)) (fun z6 => some z6))
set_option maxRecDepth 100000 in
theorem e_T_peekAll_22 (K : px_K) (N : Nat) (s : px_S) (t : px_W) (r : px_Res) (h : f_T_peekAll_22 K N s t = some r) : px_E px_ET px_P 3 177 0 (px_ent 2 [.ref 22]) [] (px_w K s t) r.1 (px_w K r.2.1 r.2.2) := by
  have hM : px_P[177]? = some pm_T_peekAll := rfl
  unfold f_T_peekAll_22 at h
  refine px_blk (i' := 2) (L' := [some (.ref 22), some (.int (0 : Int32))]) (S' := []) (w' := px_w K s t) (q := []) 2 hM rfl trivial ?_
  rcases px_lp_some h with ⟨i1, vs2, s3, t4, hl5, h⟩ | ⟨z6, hl5, h⟩
  · by_cases hi7 : i1 = 13
    · subst hi7
      rw [if_pos rfl] at h
      have h9 := px_v0_some h
      clear h
      obtain ⟨rfl, h⟩ := h9
      refine e_l_T_peekAll_22_2 K N N (0 : Int32) s t _ hl5 _ _ ?_
      show px_E px_ET px_P 3 177 13 [none, none] [] (px_w K s3 t4) _ _
      cases h
      exact px_E_ret hM rfl rfl rfl trivial
    · rw [if_neg hi7] at h
      cases h
  · cases h
    exact e_l_T_peekAll_22_2 K N N (0 : Int32) s t _ hl5 _ _ ⟨rfl, rfl⟩
noncomputable def f_T_isCommit_22 (K : px_K) (N : Nat) (a0 : Int32) (s : px_S) (t : px_W) : Option px_Res :=
  (px_bi (f_T_at_22 K N a0 (2 : Int32) s t) (fun v4 s1 t2 => (px_bi (f_T_at_22 K N a0 (0 : Int32) s1 t2) (fun v9 s6 t7 => (if ¬ v9 = (1 : Int32) then (some (.inl (some (.int (0 : Int32))), s6, t7)) else (px_bi (f_T_at_22 K N a0 (1 : Int32) s6 t7) (fun v15 s12 t13 => (if ¬ v15 = (s12.1 23) then (some (.inl (some (.int (0 : Int32))), s12, t13)) else (if v4 < (1 : Int32) then (some (.inl (some (.int (0 : Int32))), s12, t13)) else (if v4 ≤ (12 : Int32) then (px_let ((a0 + v4) + (1 : Int32)) (fun v20 => (if (29 : Int32) ≤ v20 then (some (.inl (some (.int (0 : Int32))), s12, t13)) else (px_bi (f_T_at_22 K N v20 (0 : Int32) s12 t13) (fun v26 s23 t24 => (if ¬ v26 = (2 : Int32) then (some (.inl (some (.int (0 : Int32))), s23, t24)) else (px_bi (f_T_at_22 K N v20 (1 : Int32) s23 t24) (fun v32 s29 t30 => (some (.inl (some (.int (if ¬ v32 = (s29.1 23) then (0 : Int32) else (1 : Int32)))), s29, t30))) (fun x33 s29 t30 => none)))) (fun x27 s23 t24 => none))))) else (some (.inl (some (.int (0 : Int32))), s12, t13)))))) (fun x16 s12 t13 => none)))) (fun x10 s6 t7 => none))) (fun x5 s1 t2 => none))
set_option maxRecDepth 100000 in
theorem e_T_isCommit_22 (K : px_K) (N : Nat) (a0 : Int32) (s : px_S) (t : px_W) (r : px_Res) (h : f_T_isCommit_22 K N a0 s t = some r) : px_E px_ET px_P 2 178 0 (px_ent 4 [.ref 22, .int a0]) [] (px_w K s t) r.1 (px_w K r.2.1 r.2.2) := by
  have hM : px_P[178]? = some pm_T_isCommit := rfl
  unfold f_T_isCommit_22 at h
  refine px_blk (i' := 3) (L' := [some (.ref 22), some (.int a0), none, none]) (S' := [.int (2 : Int32), .int a0, .ref 22]) (w' := px_w K s t) (q := []) 3 hM rfl trivial ?_
  rcases px_bi_some h with ⟨v4, s1, t2, hk3, h⟩ | ⟨x5, s1, t2, hk3, h⟩
  · refine px_E_call hM rfl rfl rfl rfl (px_E_mono (by decide) (e_T_at_22 K N a0 (2 : Int32) s t _ hk3)) ?_
    refine px_blk (i' := 8) (L' := [some (.ref 22), some (.int a0), some (.int v4), none]) (S' := [.int (0 : Int32), .int a0, .ref 22]) (w' := px_w K s1 t2) (q := []) 4 hM rfl trivial ?_
    rcases px_bi_some h with ⟨v9, s6, t7, hk8, h⟩ | ⟨x10, s6, t7, hk8, h⟩
    · refine px_E_call hM rfl rfl rfl rfl (px_E_mono (by decide) (e_T_at_22 K N a0 (0 : Int32) s1 t2 _ hk8)) ?_
      refine px_blkif (c := ¬ v9 = (1 : Int32)) (t := 24) (e := 11) (L' := [some (.ref 22), some (.int a0), some (.int v4), none]) (S' := []) (w' := px_w K s6 t7) (q := []) 2 hM rfl trivial (fun hc11 => ?_) (fun hc11 => ?_)
      · rw [if_pos hc11] at h
        refine px_blk (i' := 25) (L' := [some (.ref 22), some (.int a0), some (.int v4), none]) (S' := [.int (0 : Int32)]) (w' := px_w K s6 t7) (q := []) 1 hM rfl trivial ?_
        cases h
        exact px_E_ret hM rfl rfl rfl (show (0 : Int32) = 0 ∨ (0 : Int32) = 1 from Or.inl rfl)
      · rw [if_neg hc11] at h
        refine px_blk (i' := 14) (L' := [some (.ref 22), some (.int a0), some (.int v4), none]) (S' := [.int (1 : Int32), .int a0, .ref 22]) (w' := px_w K s6 t7) (q := []) 3 hM rfl trivial ?_
        rcases px_bi_some h with ⟨v15, s12, t13, hk14, h⟩ | ⟨x16, s12, t13, hk14, h⟩
        · refine px_E_call hM rfl rfl rfl rfl (px_E_mono (by decide) (e_T_at_22 K N a0 (1 : Int32) s6 t7 _ hk14)) ?_
          refine px_blkif (c := ¬ v15 = (s12.1 23)) (t := 24) (e := 18) (L' := [some (.ref 22), some (.int a0), some (.int v4), none]) (S' := []) (w' := px_w K s12 t13) (q := []) 3 hM rfl trivial (fun hc17 => ?_) (fun hc17 => ?_)
          · rw [if_pos hc17] at h
            refine px_blk (i' := 25) (L' := [some (.ref 22), some (.int a0), some (.int v4), none]) (S' := [.int (0 : Int32)]) (w' := px_w K s12 t13) (q := []) 1 hM rfl trivial ?_
            cases h
            exact px_E_ret hM rfl rfl rfl (show (0 : Int32) = 0 ∨ (0 : Int32) = 1 from Or.inl rfl)
          · rw [if_neg hc17] at h
            refine px_blkif (c := v4 < (1 : Int32)) (t := 24) (e := 21) (L' := [some (.ref 22), some (.int a0), some (.int v4), none]) (S' := []) (w' := px_w K s12 t13) (q := []) 3 hM rfl trivial (fun hc18 => ?_) (fun hc18 => ?_)
            · rw [if_pos hc18] at h
              refine px_blk (i' := 25) (L' := [some (.ref 22), some (.int a0), some (.int v4), none]) (S' := [.int (0 : Int32)]) (w' := px_w K s12 t13) (q := []) 1 hM rfl trivial ?_
              cases h
              exact px_E_ret hM rfl rfl rfl (show (0 : Int32) = 0 ∨ (0 : Int32) = 1 from Or.inl rfl)
            · rw [if_neg hc18] at h
              refine px_blkif (c := v4 ≤ (12 : Int32)) (t := 26) (e := 24) (L' := [some (.ref 22), some (.int a0), some (.int v4), none]) (S' := []) (w' := px_w K s12 t13) (q := []) 3 hM rfl trivial (fun hc19 => ?_) (fun hc19 => ?_)
              · rw [if_pos hc19] at h
                refine px_blk (i' := 32) (L' := [some (.ref 22), some (.int a0), some (.int v4), some (.int ((a0 + v4) + (1 : Int32)))]) (S' := []) (w' := px_w K s12 t13) (q := []) 6 hM rfl trivial ?_
                obtain ⟨v20, hv21, h⟩ := px_let_some h
                rw [← hv21]
                refine px_blkif (c := (29 : Int32) ≤ v20) (t := 50) (e := 35) (L' := [some (.ref 22), some (.int a0), some (.int v4), some (.int v20)]) (S' := []) (w' := px_w K s12 t13) (q := []) 3 hM rfl trivial (fun hc22 => ?_) (fun hc22 => ?_)
                · rw [if_pos hc22] at h
                  refine px_blk (i' := 51) (L' := [some (.ref 22), some (.int a0), some (.int v4), some (.int v20)]) (S' := [.int (0 : Int32)]) (w' := px_w K s12 t13) (q := []) 1 hM rfl trivial ?_
                  cases h
                  exact px_E_ret hM rfl rfl rfl (show (0 : Int32) = 0 ∨ (0 : Int32) = 1 from Or.inl rfl)
                · rw [if_neg hc22] at h
                  refine px_blk (i' := 38) (L' := [some (.ref 22), some (.int a0), some (.int v4), some (.int v20)]) (S' := [.int (0 : Int32), .int v20, .ref 22]) (w' := px_w K s12 t13) (q := []) 3 hM rfl trivial ?_
                  rcases px_bi_some h with ⟨v26, s23, t24, hk25, h⟩ | ⟨x27, s23, t24, hk25, h⟩
                  · refine px_E_call hM rfl rfl rfl rfl (px_E_mono (by decide) (e_T_at_22 K N v20 (0 : Int32) s12 t13 _ hk25)) ?_
                    refine px_blkif (c := ¬ v26 = (2 : Int32)) (t := 50) (e := 41) (L' := [some (.ref 22), some (.int a0), some (.int v4), some (.int v20)]) (S' := []) (w' := px_w K s23 t24) (q := []) 2 hM rfl trivial (fun hc28 => ?_) (fun hc28 => ?_)
                    · rw [if_pos hc28] at h
                      refine px_blk (i' := 51) (L' := [some (.ref 22), some (.int a0), some (.int v4), some (.int v20)]) (S' := [.int (0 : Int32)]) (w' := px_w K s23 t24) (q := []) 1 hM rfl trivial ?_
                      cases h
                      exact px_E_ret hM rfl rfl rfl (show (0 : Int32) = 0 ∨ (0 : Int32) = 1 from Or.inl rfl)
                    · rw [if_neg hc28] at h
                      refine px_blk (i' := 44) (L' := [some (.ref 22), some (.int a0), some (.int v4), some (.int v20)]) (S' := [.int (1 : Int32), .int v20, .ref 22]) (w' := px_w K s23 t24) (q := []) 3 hM rfl trivial ?_
                      rcases px_bi_some h with ⟨v32, s29, t30, hk31, h⟩ | ⟨x33, s29, t30, hk31, h⟩
                      · refine px_E_call hM rfl rfl rfl rfl (px_E_mono (by decide) (e_T_at_22 K N v20 (1 : Int32) s23 t24 _ hk31)) ?_
                        refine px_blk (i' := 47) (L' := [some (.ref 22), some (.int a0), some (.int v4), some (.int v20)]) (S' := [.int (s29.1 23), .int v32]) (w' := px_w K s29 t30) (q := []) 2 hM rfl trivial ?_
                        have hK : px_E px_ET px_P 2 178 51 [some (.ref 22), some (.int a0), some (.int v4), some (.int v20)] [.int (if ¬ v32 = (s29.1 23) then (0 : Int32) else (1 : Int32))] (px_w K s29 t30) r.1 (px_w K r.2.1 r.2.2) := by
                          cases h
                          exact px_E_ret hM rfl rfl rfl (show (if ¬ v32 = (s29.1 23) then (0 : Int32) else (1 : Int32)) = 0 ∨ (if ¬ v32 = (s29.1 23) then (0 : Int32) else (1 : Int32)) = 1 from (by split <;> simp))
                        clear h
                        refine px_blkif (c := ¬ v32 = (s29.1 23)) (t := 50) (e := 48) (L' := [some (.ref 22), some (.int a0), some (.int v4), some (.int v20)]) (S' := []) (w' := px_w K s29 t30) (q := []) 1 hM rfl trivial (fun hc34 => ?_) (fun hc34 => ?_)
                        · rw [if_pos hc34] at hK
                          exact px_blk (i' := 51) (L' := [some (.ref 22), some (.int a0), some (.int v4), some (.int v20)]) (S' := [.int (0 : Int32)]) (w' := px_w K s29 t30) (q := []) 1 hM rfl trivial hK
                        · rw [if_neg hc34] at hK
                          exact px_blk (i' := 51) (L' := [some (.ref 22), some (.int a0), some (.int v4), some (.int v20)]) (S' := [.int (1 : Int32)]) (w' := px_w K s29 t30) (q := []) 2 hM rfl trivial hK
                      · cases h
                  · cases h
              · rw [if_neg hc19] at h
                refine px_blk (i' := 25) (L' := [some (.ref 22), some (.int a0), some (.int v4), none]) (S' := [.int (0 : Int32)]) (w' := px_w K s12 t13) (q := []) 1 hM rfl trivial ?_
                cases h
                exact px_E_ret hM rfl rfl rfl (show (0 : Int32) = 0 ∨ (0 : Int32) = 1 from Or.inl rfl)
        · cases h
    · cases h
  · cases h
noncomputable def l_T_replay_22_9 (K : px_K) (N : Nat) (n : Nat) (u1 : Int32) (u2 : Int32) (m3 : Int32) (s : px_S) (t : px_W) : Option px_LO := match n with
  | 0 => none
  | n + 1 => (if u2 ≤ m3 then (some (.inl (72, [], s, t))) else (px_bi (f_T_at_22 K N u1 ((3 : Int32) + m3) s t) (fun v5 s2 t3 => (if v5 ≤ 0 then (l_T_replay_22_9 K N n u1 u2 (m3 + (1 : Int32)) s2 t3) else (if (106 : Int32) ≤ v5 then (l_T_replay_22_9 K N n u1 u2 (m3 + (1 : Int32)) s2 t3) else (if (106 : Int32) ≤ ((u1 + (1 : Int32)) + m3) then (l_T_replay_22_9 K N n u1 u2 (m3 + (1 : Int32)) s2 t3) else (px_gd (¬ (((u1 + (1 : Int32)) + m3) * (16 : Int32)) < 0 ∧ ¬ (v5 * (16 : Int32)) < 0 ∧ ¬ (16 : Int32) < 0 ∧ (((u1 + (1 : Int32)) + m3) * (16 : Int32)).toNatClampNeg + (16 : Int32).toNatClampNeg ≤ K.2.2 23 ∧ (v5 * (16 : Int32)).toNatClampNeg + (16 : Int32).toNatClampNeg ≤ K.2.2 24) (px_let (sF s2 24 (va_cpy (s2.2.2.1 23) (s2.2.2.1 24) (((u1 + (1 : Int32)) + m3) * (16 : Int32)).toNatClampNeg (v5 * (16 : Int32)).toNatClampNeg (16 : Int32).toNatClampNeg)) (fun s11 => (px_bi (f_T_at_22 K N u1 (15 : Int32) s11 t3) (fun v16 s13 t14 => (px_let (((v16.toUInt32 >>> (((2 : Int32) * m3).toUInt32 &&& Int32.toUInt32 31)).toInt32) &&& (3 : Int32)) (fun v18 => (if v18 = 0 then (px_bv (f_T_setKept_22 K N v5 s13 t14) (fun s21 t22 => (l_T_replay_22_9 K N n u1 u2 (m3 + (1 : Int32)) s21 t22)) (fun x25 s21 t22 => none)) else (px_gd (vp_in (v5 * (16 : Int32)) (K.2.2 24)) (px_let (sA s13 24 (v5 * (16 : Int32)).toNatClampNeg v18) (fun s27 => (px_bv (f_T_setKept_22 K N v5 s27 t14) (fun s29 t30 => (l_T_replay_22_9 K N n u1 u2 (m3 + (1 : Int32)) s29 t30)) (fun x33 s29 t30 => none))))))))) (fun x17 s13 t14 => none))))))))) (fun x6 s2 t3 => none)))
def a_l_T_replay_22_9 (K : px_K) (u1 : Int32) (u2 : Int32) (z : px_LO) (o : Option Value ⊕ Nat) (w2 : px_W) : Prop := match z with
  | .inr (o', s', t') => o = o' ∧ w2 = px_w K s' t'
  | .inl (72, [], s', t') => px_E px_ET px_P 2 179 72 [none, none, none, none, none, none] [] (px_w K s' t') o w2
  | _ => False
set_option maxRecDepth 100000 in
theorem e_l_T_replay_22_9 (K : px_K) (N : Nat) (u1 : Int32) (u2 : Int32) : ∀ (n : Nat) (m3 : Int32) (s : px_S) (t : px_W) (z : px_LO), l_T_replay_22_9 K N n u1 u2 m3 s t = some z → ∀ (o : Option Value ⊕ Nat) (w2 : px_W), a_l_T_replay_22_9 K u1 u2 z o w2 → px_E px_ET px_P 2 179 9 [some (.ref 22), some (.int u1), some (.int u2), some (.int m3), none, none] [] (px_w K s t) o w2 := by
  have hM : px_P[179]? = some pm_T_replay := rfl
  intro n
  induction n with
  | zero => intro m3 s t z h; cases h
  | succ n ih =>
    intro m3 s t z h o w2 ha
    unfold l_T_replay_22_9 at h
    refine px_blkif (c := u2 ≤ m3) (t := 72) (e := 12) (L' := [some (.ref 22), some (.int u1), some (.int u2), some (.int m3), none, none]) (S' := []) (w' := px_w K s t) (q := []) 3 hM rfl trivial (fun hc1 => ?_) (fun hc1 => ?_)
    · rw [if_pos hc1] at h
      cases h
      exact px_E_le (px_leC_L _ _ (by simp [px_leC, px_le1, Value.category])) ha
    · rw [if_neg hc1] at h
      refine px_blk (i' := 17) (L' := [some (.ref 22), some (.int u1), some (.int u2), some (.int m3), none, none]) (S' := [.int ((3 : Int32) + m3), .int u1, .ref 22]) (w' := px_w K s t) (q := []) 5 hM rfl trivial ?_
      rcases px_bi_some h with ⟨v5, s2, t3, hk4, h⟩ | ⟨x6, s2, t3, hk4, h⟩
      · refine px_E_call hM rfl rfl rfl rfl (px_E_mono (by decide) (e_T_at_22 K N u1 ((3 : Int32) + m3) s t _ hk4)) ?_
        refine px_blkif (c := v5 ≤ 0) (t := 70) (e := 21) (L' := [some (.ref 22), some (.int u1), some (.int u2), some (.int m3), some (.int v5), none]) (S' := []) (w' := px_w K s2 t3) (q := []) 3 hM rfl trivial (fun hc7 => ?_) (fun hc7 => ?_)
        · rw [if_pos hc7] at h
          refine px_blk (i' := 9) (L' := [some (.ref 22), some (.int u1), some (.int u2), some (.int (m3 + (1 : Int32))), some (.int v5), none]) (S' := []) (w' := px_w K s2 t3) (q := []) 2 hM rfl trivial ?_
          exact px_E_le (px_leC_L _ _ (by simp [px_leC, px_le1, Value.category])) (ih (m3 + (1 : Int32)) s2 t3 z h o w2 ha)
        · rw [if_neg hc7] at h
          refine px_blkif (c := (106 : Int32) ≤ v5) (t := 70) (e := 24) (L' := [some (.ref 22), some (.int u1), some (.int u2), some (.int m3), some (.int v5), none]) (S' := []) (w' := px_w K s2 t3) (q := []) 3 hM rfl trivial (fun hc8 => ?_) (fun hc8 => ?_)
          · rw [if_pos hc8] at h
            refine px_blk (i' := 9) (L' := [some (.ref 22), some (.int u1), some (.int u2), some (.int (m3 + (1 : Int32))), some (.int v5), none]) (S' := []) (w' := px_w K s2 t3) (q := []) 2 hM rfl trivial ?_
            exact px_E_le (px_leC_L _ _ (by simp [px_leC, px_le1, Value.category])) (ih (m3 + (1 : Int32)) s2 t3 z h o w2 ha)
          · rw [if_neg hc8] at h
            refine px_blkif (c := (106 : Int32) ≤ ((u1 + (1 : Int32)) + m3)) (t := 70) (e := 31) (L' := [some (.ref 22), some (.int u1), some (.int u2), some (.int m3), some (.int v5), none]) (S' := []) (w' := px_w K s2 t3) (q := []) 7 hM rfl trivial (fun hc9 => ?_) (fun hc9 => ?_)
            · rw [if_pos hc9] at h
              refine px_blk (i' := 9) (L' := [some (.ref 22), some (.int u1), some (.int u2), some (.int (m3 + (1 : Int32))), some (.int v5), none]) (S' := []) (w' := px_w K s2 t3) (q := []) 2 hM rfl trivial ?_
              exact px_E_le (px_leC_L _ _ (by simp [px_leC, px_le1, Value.category])) (ih (m3 + (1 : Int32)) s2 t3 z h o w2 ha)
            · rw [if_neg hc9] at h
              refine px_blk (i' := 43) (L' := [some (.ref 22), some (.int u1), some (.int u2), some (.int m3), some (.int v5), none]) (S' := [.int v5, .ref 24, .int (((u1 + (1 : Int32)) + m3) * (16 : Int32)), .ref 23]) (w' := px_w K s2 t3) (q := []) 12 hM rfl trivial ?_
              obtain ⟨hq10, h⟩ := px_gd_some h
              refine px_blk (i' := 47) (L' := [some (.ref 22), some (.int u1), some (.int u2), some (.int m3), some (.int v5), none]) (S' := []) (w' := px_w K (sF s2 24 (va_cpy (s2.2.2.1 23) (s2.2.2.1 24) (((u1 + (1 : Int32)) + m3) * (16 : Int32)).toNatClampNeg (v5 * (16 : Int32)).toNatClampNeg (16 : Int32).toNatClampNeg)) t3) (q := [¬ (((u1 + (1 : Int32)) + m3) * (16 : Int32)) < 0 ∧ ¬ (v5 * (16 : Int32)) < 0 ∧ ¬ (16 : Int32) < 0 ∧ (((u1 + (1 : Int32)) + m3) * (16 : Int32)).toNatClampNeg + (16 : Int32).toNatClampNeg ≤ K.2.2 23 ∧ (v5 * (16 : Int32)).toNatClampNeg + (16 : Int32).toNatClampNeg ≤ K.2.2 24]) 4 hM rfl (show ¬ (((u1 + (1 : Int32)) + m3) * (16 : Int32)) < 0 ∧ ¬ (v5 * (16 : Int32)) < 0 ∧ ¬ (16 : Int32) < 0 ∧ (((u1 + (1 : Int32)) + m3) * (16 : Int32)).toNatClampNeg + (16 : Int32).toNatClampNeg ≤ K.2.2 23 ∧ (v5 * (16 : Int32)).toNatClampNeg + (16 : Int32).toNatClampNeg ≤ K.2.2 24 from hq10) ?_
              obtain ⟨s11, hs12, h⟩ := px_let_some h
              rw [← hs12]
              refine px_blk (i' := 50) (L' := [some (.ref 22), some (.int u1), some (.int u2), some (.int m3), some (.int v5), none]) (S' := [.int (15 : Int32), .int u1, .ref 22]) (w' := px_w K s11 t3) (q := []) 3 hM rfl trivial ?_
              rcases px_bi_some h with ⟨v16, s13, t14, hk15, h⟩ | ⟨x17, s13, t14, hk15, h⟩
              · refine px_E_call hM rfl rfl rfl rfl (px_E_mono (by decide) (e_T_at_22 K N u1 (15 : Int32) s11 t3 _ hk15)) ?_
                refine px_blk (i' := 58) (L' := [some (.ref 22), some (.int u1), some (.int u2), some (.int m3), some (.int v5), some (.int (((v16.toUInt32 >>> (((2 : Int32) * m3).toUInt32 &&& Int32.toUInt32 31)).toInt32) &&& (3 : Int32)))]) (S' := []) (w' := px_w K s13 t14) (q := []) 7 hM rfl trivial ?_
                obtain ⟨v18, hv19, h⟩ := px_let_some h
                rw [← hv19]
                refine px_blkif (c := v18 = 0) (t := 67) (e := 60) (L' := [some (.ref 22), some (.int u1), some (.int u2), some (.int m3), some (.int v5), some (.int v18)]) (S' := []) (w' := px_w K s13 t14) (q := []) 2 hM rfl trivial (fun hc20 => ?_) (fun hc20 => ?_)
                · rw [if_pos hc20] at h
                  refine px_blk (i' := 69) (L' := [some (.ref 22), some (.int u1), some (.int u2), some (.int m3), some (.int v5), some (.int v18)]) (S' := [.int v5, .ref 22]) (w' := px_w K s13 t14) (q := []) 2 hM rfl trivial ?_
                  rcases px_bv_some h with ⟨s21, t22, hk23, h⟩ | ⟨x25, s21, t22, hk23, h⟩
                  · refine px_E_call hM rfl rfl rfl rfl (px_E_mono (by decide) (e_T_setKept_22 K N v5 s13 t14 _ hk23)) ?_
                    refine px_blk (i' := 9) (L' := [some (.ref 22), some (.int u1), some (.int u2), some (.int (m3 + (1 : Int32))), some (.int v5), some (.int v18)]) (S' := []) (w' := px_w K s21 t22) (q := []) 2 hM rfl trivial ?_
                    exact px_E_le (px_leC_L _ _ (by simp [px_leC, px_le1, Value.category])) (ih (m3 + (1 : Int32)) s21 t22 z h o w2 ha)
                  · cases h
                · rw [if_neg hc20] at h
                  obtain ⟨hq26, h⟩ := px_gd_some h
                  refine px_blk (i' := 67) (L' := [some (.ref 22), some (.int u1), some (.int u2), some (.int m3), some (.int v5), some (.int v18)]) (S' := []) (w' := px_w K (sA s13 24 (v5 * (16 : Int32)).toNatClampNeg v18) t14) (q := [vp_in (v5 * (16 : Int32)) (K.2.2 24)]) 7 hM rfl (show vp_in (v5 * (16 : Int32)) (K.2.2 24) from hq26) ?_
                  obtain ⟨s27, hs28, h⟩ := px_let_some h
                  rw [← hs28]
                  refine px_blk (i' := 69) (L' := [some (.ref 22), some (.int u1), some (.int u2), some (.int m3), some (.int v5), some (.int v18)]) (S' := [.int v5, .ref 22]) (w' := px_w K s27 t14) (q := []) 2 hM rfl trivial ?_
                  rcases px_bv_some h with ⟨s29, t30, hk31, h⟩ | ⟨x33, s29, t30, hk31, h⟩
                  · refine px_E_call hM rfl rfl rfl rfl (px_E_mono (by decide) (e_T_setKept_22 K N v5 s27 t14 _ hk31)) ?_
                    refine px_blk (i' := 9) (L' := [some (.ref 22), some (.int u1), some (.int u2), some (.int (m3 + (1 : Int32))), some (.int v5), some (.int v18)]) (S' := []) (w' := px_w K s29 t30) (q := []) 2 hM rfl trivial ?_
                    exact px_E_le (px_leC_L _ _ (by simp [px_leC, px_le1, Value.category])) (ih (m3 + (1 : Int32)) s29 t30 z h o w2 ha)
                  · cases h
              · cases h
      · cases h
noncomputable def f_T_replay_22 (K : px_K) (N : Nat) (a0 : Int32) (s : px_S) (t : px_W) : Option px_Res :=
  (px_bi (f_T_at_22 K N a0 (2 : Int32) s t) (fun v4 s1 t2 => (px_bi (f_Math_min K N (12 : Int32) v4 s1 t2) (fun v9 s6 t7 => (px_lp (l_T_replay_22_9 K N N a0 v9 (0 : Int32) s6 t7) (fun i11 vs12 s13 t14 => (if i11 = 72 then (px_v0 vs12 (some (.inl none, s13, t14))) else none)) (fun z16 => some z16))) (fun x10 s6 t7 => none))) (fun x5 s1 t2 => none))
set_option maxRecDepth 100000 in
theorem e_T_replay_22 (K : px_K) (N : Nat) (a0 : Int32) (s : px_S) (t : px_W) (r : px_Res) (h : f_T_replay_22 K N a0 s t = some r) : px_E px_ET px_P 2 179 0 (px_ent 6 [.ref 22, .int a0]) [] (px_w K s t) r.1 (px_w K r.2.1 r.2.2) := by
  have hM : px_P[179]? = some pm_T_replay := rfl
  unfold f_T_replay_22 at h
  refine px_blk (i' := 4) (L' := [some (.ref 22), some (.int a0), none, none, none, none]) (S' := [.int (2 : Int32), .int a0, .ref 22, .int (12 : Int32)]) (w' := px_w K s t) (q := []) 4 hM rfl trivial ?_
  rcases px_bi_some h with ⟨v4, s1, t2, hk3, h⟩ | ⟨x5, s1, t2, hk3, h⟩
  · refine px_E_call hM rfl rfl rfl rfl (px_E_mono (by decide) (e_T_at_22 K N a0 (2 : Int32) s t _ hk3)) ?_
    rcases px_bi_some h with ⟨v9, s6, t7, hk8, h⟩ | ⟨x10, s6, t7, hk8, h⟩
    · refine px_E_call hM rfl rfl rfl rfl (px_E_mono (by decide) (e_Math_min K N (12 : Int32) v4 s1 t2 _ hk8)) ?_
      refine px_blk (i' := 9) (L' := [some (.ref 22), some (.int a0), some (.int v9), some (.int (0 : Int32)), none, none]) (S' := []) (w' := px_w K s6 t7) (q := []) 3 hM rfl trivial ?_
      rcases px_lp_some h with ⟨i11, vs12, s13, t14, hl15, h⟩ | ⟨z16, hl15, h⟩
      · by_cases hi17 : i11 = 72
        · subst hi17
          rw [if_pos rfl] at h
          have h9 := px_v0_some h
          clear h
          obtain ⟨rfl, h⟩ := h9
          refine e_l_T_replay_22_9 K N a0 v9 N (0 : Int32) s6 t7 _ hl15 _ _ ?_
          show px_E px_ET px_P 2 179 72 [none, none, none, none, none, none] [] (px_w K s13 t14) _ _
          cases h
          exact px_E_ret hM rfl rfl rfl trivial
        · rw [if_neg hi17] at h
          cases h
      · cases h
        exact e_l_T_replay_22_9 K N a0 v9 N (0 : Int32) s6 t7 _ hl15 _ _ ⟨rfl, rfl⟩
    · cases h
  · cases h
