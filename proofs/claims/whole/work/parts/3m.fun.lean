/-! THE METHODS AS FUNCTIONS (by program). -/
noncomputable def f_M_entry_28 (K : px_K) (N : Nat) (a0 : Int32) (a1 : Int32) (a2 : Int32) (s : px_S) (t : px_W) : Option px_Res :=
  (px_let (sR s 25 (0 : Int32)) (fun s1 => (if (s1.1 29) = 0 then (some (.inl (some (.int (-1 : Int32))), s1, t)) else (px_bi (f_M_isKind_28 K N a0 (1 : Int32) s1 t) (fun v7 s4 t5 => (if v7 = 0 then (some (.inl (some (.int (-1 : Int32))), s4, t5)) else (if a1 < 0 then (some (.inl (some (.int (-1 : Int32))), s4, t5)) else (px_bi (f_M_ofInode_28 K N a0 (1 : Int32) s4 t5) (fun v14 s11 t12 => (if v14 ≤ a1 then (some (.inl (some (.int (-1 : Int32))), s11, t12)) else (if a2 < 0 then (some (.inl (some (.int (-1 : Int32))), s11, t12)) else (if a2 ≤ (1 : Int32) then (if ¬ a2 = 0 then (px_bi (f_M_inodeAt_28 K N a0 a1 s11 t12) (fun v23 s20 t21 => (some (.inl (some (.int v23)), s20, t21))) (fun x24 s20 t21 => none)) else (px_bi (f_M_nameAt_28 K N a0 a1 s11 t12) (fun v28 s25 t26 => (some (.inl (some (.int v28)), s25, t26))) (fun x29 s25 t26 => none))) else (some (.inl (some (.int (-1 : Int32))), s11, t12)))))) (fun x15 s11 t12 => none))))) (fun x8 s4 t5 => none)))))
set_option maxRecDepth 100000 in
theorem e_M_entry_28 (K : px_K) (N : Nat) (a0 : Int32) (a1 : Int32) (a2 : Int32) (s : px_S) (t : px_W) (r : px_Res) (h : f_M_entry_28 K N a0 a1 a2 s t = some r) : px_E px_ET px_P 5 86 0 (px_ent 4 [.ref 28, .int a0, .int a1, .int a2]) [] (px_w K s t) r.1 (px_w K r.2.1 r.2.2) := by
  have hM : px_P[86]? = some pm_M_entry := rfl
  unfold f_M_entry_28 at h
  refine px_blk (i' := 3) (L' := [some (.ref 28), some (.int a0), some (.int a1), some (.int a2)]) (S' := []) (w' := px_w K (sR s 25 (0 : Int32)) t) (q := []) 3 hM rfl trivial ?_
  obtain ⟨s1, hs2, h⟩ := px_let_some h
  rw [← hs2]
  refine px_blkif (c := (s1.1 29) = 0) (t := 24) (e := 6) (L' := [some (.ref 28), some (.int a0), some (.int a1), some (.int a2)]) (S' := []) (w' := px_w K s1 t) (q := []) 3 hM rfl trivial (fun hc3 => ?_) (fun hc3 => ?_)
  · rw [if_pos hc3] at h
    refine px_blk (i' := 25) (L' := [some (.ref 28), some (.int a0), some (.int a1), some (.int a2)]) (S' := [.int (-1 : Int32)]) (w' := px_w K s1 t) (q := []) 1 hM rfl trivial ?_
    cases h
    exact px_E_ret hM rfl rfl rfl trivial
  · rw [if_neg hc3] at h
    refine px_blk (i' := 9) (L' := [some (.ref 28), some (.int a0), some (.int a1), some (.int a2)]) (S' := [.int (1 : Int32), .int a0, .ref 28]) (w' := px_w K s1 t) (q := []) 3 hM rfl trivial ?_
    rcases px_bi_some h with ⟨v7, s4, t5, hk6, h⟩ | ⟨x8, s4, t5, hk6, h⟩
    · refine px_E_call hM rfl rfl rfl rfl (px_E_mono (by decide) (e_M_isKind_28 K N a0 (1 : Int32) s1 t _ hk6)) ?_
      refine px_blkif (c := v7 = 0) (t := 24) (e := 11) (L' := [some (.ref 28), some (.int a0), some (.int a1), some (.int a2)]) (S' := []) (w' := px_w K s4 t5) (q := []) 1 hM rfl trivial (fun hc9 => ?_) (fun hc9 => ?_)
      · rw [if_pos hc9] at h
        refine px_blk (i' := 25) (L' := [some (.ref 28), some (.int a0), some (.int a1), some (.int a2)]) (S' := [.int (-1 : Int32)]) (w' := px_w K s4 t5) (q := []) 1 hM rfl trivial ?_
        cases h
        exact px_E_ret hM rfl rfl rfl trivial
      · rw [if_neg hc9] at h
        refine px_blkif (c := a1 < 0) (t := 24) (e := 13) (L' := [some (.ref 28), some (.int a0), some (.int a1), some (.int a2)]) (S' := []) (w' := px_w K s4 t5) (q := []) 2 hM rfl trivial (fun hc10 => ?_) (fun hc10 => ?_)
        · rw [if_pos hc10] at h
          refine px_blk (i' := 25) (L' := [some (.ref 28), some (.int a0), some (.int a1), some (.int a2)]) (S' := [.int (-1 : Int32)]) (w' := px_w K s4 t5) (q := []) 1 hM rfl trivial ?_
          cases h
          exact px_E_ret hM rfl rfl rfl trivial
        · rw [if_neg hc10] at h
          refine px_blk (i' := 17) (L' := [some (.ref 28), some (.int a0), some (.int a1), some (.int a2)]) (S' := [.int (1 : Int32), .int a0, .ref 28, .int a1]) (w' := px_w K s4 t5) (q := []) 4 hM rfl trivial ?_
          rcases px_bi_some h with ⟨v14, s11, t12, hk13, h⟩ | ⟨x15, s11, t12, hk13, h⟩
          · refine px_E_call hM rfl rfl rfl rfl (px_E_mono (by decide) (e_M_ofInode_28 K N a0 (1 : Int32) s4 t5 _ hk13)) ?_
            refine px_blkif (c := v14 ≤ a1) (t := 24) (e := 19) (L' := [some (.ref 28), some (.int a0), some (.int a1), some (.int a2)]) (S' := []) (w' := px_w K s11 t12) (q := []) 1 hM rfl trivial (fun hc16 => ?_) (fun hc16 => ?_)
            · rw [if_pos hc16] at h
              refine px_blk (i' := 25) (L' := [some (.ref 28), some (.int a0), some (.int a1), some (.int a2)]) (S' := [.int (-1 : Int32)]) (w' := px_w K s11 t12) (q := []) 1 hM rfl trivial ?_
              cases h
              exact px_E_ret hM rfl rfl rfl trivial
            · rw [if_neg hc16] at h
              refine px_blkif (c := a2 < 0) (t := 24) (e := 21) (L' := [some (.ref 28), some (.int a0), some (.int a1), some (.int a2)]) (S' := []) (w' := px_w K s11 t12) (q := []) 2 hM rfl trivial (fun hc17 => ?_) (fun hc17 => ?_)
              · rw [if_pos hc17] at h
                refine px_blk (i' := 25) (L' := [some (.ref 28), some (.int a0), some (.int a1), some (.int a2)]) (S' := [.int (-1 : Int32)]) (w' := px_w K s11 t12) (q := []) 1 hM rfl trivial ?_
                cases h
                exact px_E_ret hM rfl rfl rfl trivial
              · rw [if_neg hc17] at h
                refine px_blkif (c := a2 ≤ (1 : Int32)) (t := 26) (e := 24) (L' := [some (.ref 28), some (.int a0), some (.int a1), some (.int a2)]) (S' := []) (w' := px_w K s11 t12) (q := []) 3 hM rfl trivial (fun hc18 => ?_) (fun hc18 => ?_)
                · rw [if_pos hc18] at h
                  refine px_blkif (c := ¬ a2 = 0) (t := 33) (e := 28) (L' := [some (.ref 28), some (.int a0), some (.int a1), some (.int a2)]) (S' := []) (w' := px_w K s11 t12) (q := []) 2 hM rfl trivial (fun hc19 => ?_) (fun hc19 => ?_)
                  · rw [if_pos hc19] at h
                    refine px_blk (i' := 36) (L' := [some (.ref 28), some (.int a0), some (.int a1), some (.int a2)]) (S' := [.int a1, .int a0, .ref 28]) (w' := px_w K s11 t12) (q := []) 3 hM rfl trivial ?_
                    rcases px_bi_some h with ⟨v23, s20, t21, hk22, h⟩ | ⟨x24, s20, t21, hk22, h⟩
                    · refine px_E_call hM rfl rfl rfl rfl (px_E_mono (by decide) (e_M_inodeAt_28 K N a0 a1 s11 t12 _ hk22)) ?_
                      cases h
                      exact px_E_ret hM rfl rfl rfl trivial
                    · cases h
                  · rw [if_neg hc19] at h
                    refine px_blk (i' := 31) (L' := [some (.ref 28), some (.int a0), some (.int a1), some (.int a2)]) (S' := [.int a1, .int a0, .ref 28]) (w' := px_w K s11 t12) (q := []) 3 hM rfl trivial ?_
                    rcases px_bi_some h with ⟨v28, s25, t26, hk27, h⟩ | ⟨x29, s25, t26, hk27, h⟩
                    · refine px_E_call hM rfl rfl rfl rfl (px_E_mono (by decide) (e_M_nameAt_28 K N a0 a1 s11 t12 _ hk27)) ?_
                      refine px_blk (i' := 37) (L' := [some (.ref 28), some (.int a0), some (.int a1), some (.int a2)]) (S' := [.int v28]) (w' := px_w K s25 t26) (q := []) 1 hM rfl trivial ?_
                      cases h
                      exact px_E_ret hM rfl rfl rfl trivial
                    · cases h
                · rw [if_neg hc18] at h
                  refine px_blk (i' := 25) (L' := [some (.ref 28), some (.int a0), some (.int a1), some (.int a2)]) (S' := [.int (-1 : Int32)]) (w' := px_w K s11 t12) (q := []) 1 hM rfl trivial ?_
                  cases h
                  exact px_E_ret hM rfl rfl rfl trivial
          · cases h
    · cases h
noncomputable def f_M_closed_28 (K : px_K) (N : Nat) (s : px_S) (t : px_W) : Option px_Res :=
  (if (s.1 31) = 0 then (px_bi (f_M_landed_28 K N s t) (fun v5 s2 t3 => (some (.inl (some (.int v5)), s2, t3))) (fun x6 s2 t3 => none)) else (some (.inl (some (.int ((s.1 32) - (1 : Int32)))), s, t)))
set_option maxRecDepth 100000 in
theorem e_M_closed_28 (K : px_K) (N : Nat) (s : px_S) (t : px_W) (r : px_Res) (h : f_M_closed_28 K N s t = some r) : px_E px_ET px_P 4 87 0 (px_ent 1 [.ref 28]) [] (px_w K s t) r.1 (px_w K r.2.1 r.2.2) := by
  have hM : px_P[87]? = some pm_M_closed := rfl
  unfold f_M_closed_28 at h
  refine px_blkif (c := (s.1 31) = 0) (t := 8) (e := 3) (L' := [some (.ref 28)]) (S' := []) (w' := px_w K s t) (q := []) 3 hM rfl trivial (fun hc1 => ?_) (fun hc1 => ?_)
  · rw [if_pos hc1] at h
    refine px_blk (i' := 9) (L' := [some (.ref 28)]) (S' := [.ref 28]) (w' := px_w K s t) (q := []) 1 hM rfl trivial ?_
    rcases px_bi_some h with ⟨v5, s2, t3, hk4, h⟩ | ⟨x6, s2, t3, hk4, h⟩
    · refine px_E_call hM rfl rfl rfl rfl (px_E_mono (by decide) (e_M_landed_28 K N s t _ hk4)) ?_
      cases h
      exact px_E_ret hM rfl rfl rfl trivial
    · cases h
  · rw [if_neg hc1] at h
    refine px_blk (i' := 10) (L' := [some (.ref 28)]) (S' := [.int ((s.1 32) - (1 : Int32))]) (w' := px_w K s t) (q := []) 5 hM rfl trivial ?_
    cases h
    exact px_E_ret hM rfl rfl rfl trivial
noncomputable def f_M_sync_28 (K : px_K) (N : Nat) (s : px_S) (t : px_W) : Option px_Res :=
  (px_let (sR s 25 (0 : Int32)) (fun s1 => (if ¬ (s1.1 29) = 0 then (px_bv (f_M_commit_28 K N s1 t) (fun s4 t5 => (px_bi (f_M_closed_28 K N s4 t5) (fun v12 s9 t10 => (px_bi (f_M_answer_28 K N v12 s9 t10) (fun v17 s14 t15 => (some (.inl (some (.int v17)), s14, t15))) (fun x18 s14 t15 => none))) (fun x13 s9 t10 => none))) (fun x8 s4 t5 => none)) else (some (.inl (some (.int (-9 : Int32))), s1, t)))))
set_option maxRecDepth 100000 in
theorem e_M_sync_28 (K : px_K) (N : Nat) (s : px_S) (t : px_W) (r : px_Res) (h : f_M_sync_28 K N s t = some r) : px_E px_ET px_P 12 88 0 (px_ent 1 [.ref 28]) [] (px_w K s t) r.1 (px_w K r.2.1 r.2.2) := by
  have hM : px_P[88]? = some pm_M_sync := rfl
  unfold f_M_sync_28 at h
  refine px_blk (i' := 3) (L' := [some (.ref 28)]) (S' := []) (w' := px_w K (sR s 25 (0 : Int32)) t) (q := []) 3 hM rfl trivial ?_
  obtain ⟨s1, hs2, h⟩ := px_let_some h
  rw [← hs2]
  refine px_blkif (c := ¬ (s1.1 29) = 0) (t := 8) (e := 6) (L' := [some (.ref 28)]) (S' := []) (w' := px_w K s1 t) (q := []) 3 hM rfl trivial (fun hc3 => ?_) (fun hc3 => ?_)
  · rw [if_pos hc3] at h
    refine px_blk (i' := 9) (L' := [some (.ref 28)]) (S' := [.ref 28]) (w' := px_w K s1 t) (q := []) 1 hM rfl trivial ?_
    rcases px_bv_some h with ⟨s4, t5, hk6, h⟩ | ⟨x8, s4, t5, hk6, h⟩
    · refine px_E_call hM rfl rfl rfl rfl (px_E_mono (by decide) (e_M_commit_28 K N s1 t _ hk6)) ?_
      refine px_blk (i' := 12) (L' := [some (.ref 28)]) (S' := [.ref 28, .ref 28]) (w' := px_w K s4 t5) (q := []) 2 hM rfl trivial ?_
      rcases px_bi_some h with ⟨v12, s9, t10, hk11, h⟩ | ⟨x13, s9, t10, hk11, h⟩
      · refine px_E_call hM rfl rfl rfl rfl (px_E_mono (by decide) (e_M_closed_28 K N s4 t5 _ hk11)) ?_
        rcases px_bi_some h with ⟨v17, s14, t15, hk16, h⟩ | ⟨x18, s14, t15, hk16, h⟩
        · refine px_E_call hM rfl rfl rfl rfl (px_E_mono (by decide) (e_M_answer_28 K N v12 s9 t10 _ hk16)) ?_
          cases h
          exact px_E_ret hM rfl rfl rfl trivial
        · cases h
      · cases h
    · cases h
  · rw [if_neg hc3] at h
    refine px_blk (i' := 7) (L' := [some (.ref 28)]) (S' := [.int (-9 : Int32)]) (w' := px_w K s1 t) (q := []) 1 hM rfl trivial ?_
    cases h
    exact px_E_ret hM rfl rfl rfl trivial
noncomputable def f_M_land_28 (K : px_K) (N : Nat) (s : px_S) (t : px_W) : Option px_Res :=
  (px_let (sR s 25 (0 : Int32)) (fun s1 => (if ¬ (s1.1 29) = 0 then (if (s1.1 31) = 0 then (px_bi (f_M_answer_28 K N (0 : Int32) s1 t) (fun v8 s5 t6 => (some (.inl (some (.int v8)), s5, t6))) (fun x9 s5 t6 => none)) else (px_bi (f_M_land1_28 K N s1 t) (fun v13 s10 t11 => (px_bi (f_M_answer_28 K N v13 s10 t11) (fun v18 s15 t16 => (some (.inl (some (.int v18)), s15, t16))) (fun x19 s15 t16 => none))) (fun x14 s10 t11 => none))) else (some (.inl (some (.int (-9 : Int32))), s1, t)))))
set_option maxRecDepth 100000 in
theorem e_M_land_28 (K : px_K) (N : Nat) (s : px_S) (t : px_W) (r : px_Res) (h : f_M_land_28 K N s t = some r) : px_E px_ET px_P 7 89 0 (px_ent 1 [.ref 28]) [] (px_w K s t) r.1 (px_w K r.2.1 r.2.2) := by
  have hM : px_P[89]? = some pm_M_land := rfl
  unfold f_M_land_28 at h
  refine px_blk (i' := 3) (L' := [some (.ref 28)]) (S' := []) (w' := px_w K (sR s 25 (0 : Int32)) t) (q := []) 3 hM rfl trivial ?_
  obtain ⟨s1, hs2, h⟩ := px_let_some h
  rw [← hs2]
  refine px_blkif (c := ¬ (s1.1 29) = 0) (t := 8) (e := 6) (L' := [some (.ref 28)]) (S' := []) (w' := px_w K s1 t) (q := []) 3 hM rfl trivial (fun hc3 => ?_) (fun hc3 => ?_)
  · rw [if_pos hc3] at h
    refine px_blkif (c := (s1.1 31) = 0) (t := 15) (e := 12) (L' := [some (.ref 28)]) (S' := [.ref 28]) (w' := px_w K s1 t) (q := []) 4 hM rfl trivial (fun hc4 => ?_) (fun hc4 => ?_)
    · rw [if_pos hc4] at h
      refine px_blk (i' := 16) (L' := [some (.ref 28)]) (S' := [.int (0 : Int32), .ref 28]) (w' := px_w K s1 t) (q := []) 1 hM rfl trivial ?_
      rcases px_bi_some h with ⟨v8, s5, t6, hk7, h⟩ | ⟨x9, s5, t6, hk7, h⟩
      · refine px_E_call hM rfl rfl rfl rfl (px_E_mono (by decide) (e_M_answer_28 K N (0 : Int32) s1 t _ hk7)) ?_
        cases h
        exact px_E_ret hM rfl rfl rfl trivial
      · cases h
    · rw [if_neg hc4] at h
      refine px_blk (i' := 13) (L' := [some (.ref 28)]) (S' := [.ref 28, .ref 28]) (w' := px_w K s1 t) (q := []) 1 hM rfl trivial ?_
      rcases px_bi_some h with ⟨v13, s10, t11, hk12, h⟩ | ⟨x14, s10, t11, hk12, h⟩
      · refine px_E_call hM rfl rfl rfl rfl (px_E_mono (by decide) (e_M_land1_28 K N s1 t _ hk12)) ?_
        refine px_blk (i' := 16) (L' := [some (.ref 28)]) (S' := [.int v13, .ref 28]) (w' := px_w K s10 t11) (q := []) 1 hM rfl trivial ?_
        rcases px_bi_some h with ⟨v18, s15, t16, hk17, h⟩ | ⟨x19, s15, t16, hk17, h⟩
        · refine px_E_call hM rfl rfl rfl rfl (px_E_mono (by decide) (e_M_answer_28 K N v13 s10 t11 _ hk17)) ?_
          cases h
          exact px_E_ret hM rfl rfl rfl trivial
        · cases h
      · cases h
  · rw [if_neg hc3] at h
    refine px_blk (i' := 7) (L' := [some (.ref 28)]) (S' := [.int (-9 : Int32)]) (w' := px_w K s1 t) (q := []) 1 hM rfl trivial ?_
    cases h
    exact px_E_ret hM rfl rfl rfl trivial
noncomputable def f_M_home_28 (K : px_K) (N : Nat) (s : px_S) (t : px_W) : Option px_Res :=
  (px_let (sR s 25 (0 : Int32)) (fun s1 => (if ¬ (s1.1 29) = 0 then (px_bv (f_M_commit_28 K N s1 t) (fun s4 t5 => (px_bi (f_M_keeps_28 K N s4 t5) (fun v12 s9 t10 => (px_bv (f_M_bringHome_28 K N s9 t10) (fun s14 t15 => (px_bi (f_M_answer_28 K N v12 s14 t15) (fun v22 s19 t20 => (some (.inl (some (.int v22)), s19, t20))) (fun x23 s19 t20 => none))) (fun x18 s14 t15 => none))) (fun x13 s9 t10 => none))) (fun x8 s4 t5 => none)) else (some (.inl (some (.int (-9 : Int32))), s1, t)))))
set_option maxRecDepth 100000 in
theorem e_M_home_28 (K : px_K) (N : Nat) (s : px_S) (t : px_W) (r : px_Res) (h : f_M_home_28 K N s t = some r) : px_E px_ET px_P 12 90 0 (px_ent 2 [.ref 28]) [] (px_w K s t) r.1 (px_w K r.2.1 r.2.2) := by
  have hM : px_P[90]? = some pm_M_home := rfl
  unfold f_M_home_28 at h
  refine px_blk (i' := 3) (L' := [some (.ref 28), none]) (S' := []) (w' := px_w K (sR s 25 (0 : Int32)) t) (q := []) 3 hM rfl trivial ?_
  obtain ⟨s1, hs2, h⟩ := px_let_some h
  rw [← hs2]
  refine px_blkif (c := ¬ (s1.1 29) = 0) (t := 8) (e := 6) (L' := [some (.ref 28), none]) (S' := []) (w' := px_w K s1 t) (q := []) 3 hM rfl trivial (fun hc3 => ?_) (fun hc3 => ?_)
  · rw [if_pos hc3] at h
    refine px_blk (i' := 9) (L' := [some (.ref 28), none]) (S' := [.ref 28]) (w' := px_w K s1 t) (q := []) 1 hM rfl trivial ?_
    rcases px_bv_some h with ⟨s4, t5, hk6, h⟩ | ⟨x8, s4, t5, hk6, h⟩
    · refine px_E_call hM rfl rfl rfl rfl (px_E_mono (by decide) (e_M_commit_28 K N s1 t _ hk6)) ?_
      refine px_blk (i' := 11) (L' := [some (.ref 28), none]) (S' := [.ref 28]) (w' := px_w K s4 t5) (q := []) 1 hM rfl trivial ?_
      rcases px_bi_some h with ⟨v12, s9, t10, hk11, h⟩ | ⟨x13, s9, t10, hk11, h⟩
      · refine px_E_call hM rfl rfl rfl rfl (px_E_mono (by decide) (e_M_keeps_28 K N s4 t5 _ hk11)) ?_
        refine px_blk (i' := 14) (L' := [some (.ref 28), some (.int v12)]) (S' := [.ref 28]) (w' := px_w K s9 t10) (q := []) 2 hM rfl trivial ?_
        rcases px_bv_some h with ⟨s14, t15, hk16, h⟩ | ⟨x18, s14, t15, hk16, h⟩
        · refine px_E_call hM rfl rfl rfl rfl (px_E_mono (by decide) (e_M_bringHome_28 K N s9 t10 _ hk16)) ?_
          refine px_blk (i' := 17) (L' := [some (.ref 28), some (.int v12)]) (S' := [.int v12, .ref 28]) (w' := px_w K s14 t15) (q := []) 2 hM rfl trivial ?_
          rcases px_bi_some h with ⟨v22, s19, t20, hk21, h⟩ | ⟨x23, s19, t20, hk21, h⟩
          · refine px_E_call hM rfl rfl rfl rfl (px_E_mono (by decide) (e_M_answer_28 K N v12 s14 t15 _ hk21)) ?_
            cases h
            exact px_E_ret hM rfl rfl rfl trivial
          · cases h
        · cases h
      · cases h
    · cases h
  · rw [if_neg hc3] at h
    refine px_blk (i' := 7) (L' := [some (.ref 28), none]) (S' := [.int (-9 : Int32)]) (w' := px_w K s1 t) (q := []) 1 hM rfl trivial ?_
    cases h
    exact px_E_ret hM rfl rfl rfl trivial
noncomputable def f_M_limit_28 (K : px_K) (N : Nat) (a0 : Int32) (a1 : Int64) (s : px_S) (t : px_W) : Option px_Res :=
  (px_let (sR s 25 (0 : Int32)) (fun s1 => (if (s1.1 29) = 0 then (some (.inl (some (.int (0 : Int32))), s1, t)) else (if a0 < (1 : Int32) then (some (.inl (some (.int (0 : Int32))), s1, t)) else (if a0 ≤ (1000 : Int32) then (px_let (sR s1 30 a0) (fun s6 => (px_let (sQ s6 3 a1) (fun s8 => (some (.inl (some (.int (1 : Int32))), s8, t)))))) else (some (.inl (some (.int (0 : Int32))), s1, t)))))))
set_option maxRecDepth 100000 in
theorem e_M_limit_28 (K : px_K) (N : Nat) (a0 : Int32) (a1 : Int64) (s : px_S) (t : px_W) (r : px_Res) (h : f_M_limit_28 K N a0 a1 s t = some r) : px_E px_ET px_P 1 91 0 (px_ent 4 [.ref 28, .int a0, .long a1]) [] (px_w K s t) r.1 (px_w K r.2.1 r.2.2) := by
  have hM : px_P[91]? = some pm_M_limit := rfl
  unfold f_M_limit_28 at h
  refine px_blk (i' := 3) (L' := [some (.ref 28), some (.int a0), some (.long a1), none]) (S' := []) (w' := px_w K (sR s 25 (0 : Int32)) t) (q := []) 3 hM rfl trivial ?_
  obtain ⟨s1, hs2, h⟩ := px_let_some h
  rw [← hs2]
  refine px_blkif (c := (s1.1 29) = 0) (t := 12) (e := 6) (L' := [some (.ref 28), some (.int a0), some (.long a1), none]) (S' := []) (w' := px_w K s1 t) (q := []) 3 hM rfl trivial (fun hc3 => ?_) (fun hc3 => ?_)
  · rw [if_pos hc3] at h
    refine px_blk (i' := 13) (L' := [some (.ref 28), some (.int a0), some (.long a1), none]) (S' := [.int (0 : Int32)]) (w' := px_w K s1 t) (q := []) 1 hM rfl trivial ?_
    cases h
    exact px_E_ret hM rfl rfl rfl (show (0 : Int32) = 0 ∨ (0 : Int32) = 1 from Or.inl rfl)
  · rw [if_neg hc3] at h
    refine px_blkif (c := a0 < (1 : Int32)) (t := 12) (e := 9) (L' := [some (.ref 28), some (.int a0), some (.long a1), none]) (S' := []) (w' := px_w K s1 t) (q := []) 3 hM rfl trivial (fun hc4 => ?_) (fun hc4 => ?_)
    · rw [if_pos hc4] at h
      refine px_blk (i' := 13) (L' := [some (.ref 28), some (.int a0), some (.long a1), none]) (S' := [.int (0 : Int32)]) (w' := px_w K s1 t) (q := []) 1 hM rfl trivial ?_
      cases h
      exact px_E_ret hM rfl rfl rfl (show (0 : Int32) = 0 ∨ (0 : Int32) = 1 from Or.inl rfl)
    · rw [if_neg hc4] at h
      refine px_blkif (c := a0 ≤ (1000 : Int32)) (t := 14) (e := 12) (L' := [some (.ref 28), some (.int a0), some (.long a1), none]) (S' := []) (w' := px_w K s1 t) (q := []) 3 hM rfl trivial (fun hc5 => ?_) (fun hc5 => ?_)
      · rw [if_pos hc5] at h
        refine px_blk (i' := 17) (L' := [some (.ref 28), some (.int a0), some (.long a1), none]) (S' := []) (w' := px_w K (sR s1 30 a0) t) (q := []) 3 hM rfl trivial ?_
        obtain ⟨s6, hs7, h⟩ := px_let_some h
        rw [← hs7]
        refine px_blk (i' := 20) (L' := [some (.ref 28), some (.int a0), some (.long a1), none]) (S' := []) (w' := px_w K (sQ s6 3 a1) t) (q := []) 3 hM rfl trivial ?_
        obtain ⟨s8, hs9, h⟩ := px_let_some h
        rw [← hs9]
        refine px_blk (i' := 21) (L' := [some (.ref 28), some (.int a0), some (.long a1), none]) (S' := [.int (1 : Int32)]) (w' := px_w K s8 t) (q := []) 1 hM rfl trivial ?_
        cases h
        exact px_E_ret hM rfl rfl rfl (show (1 : Int32) = 0 ∨ (1 : Int32) = 1 from Or.inr rfl)
      · rw [if_neg hc5] at h
        refine px_blk (i' := 13) (L' := [some (.ref 28), some (.int a0), some (.long a1), none]) (S' := [.int (0 : Int32)]) (w' := px_w K s1 t) (q := []) 1 hM rfl trivial ?_
        cases h
        exact px_E_ret hM rfl rfl rfl (show (0 : Int32) = 0 ∨ (0 : Int32) = 1 from Or.inl rfl)
noncomputable def f_M_crash_28 (K : px_K) (N : Nat) (a0 : Int64) (s : px_S) (t : px_W) : Option px_Res :=
  (px_let (sR s 25 (0 : Int32)) (fun s1 => (if ¬ (s1.1 29) = 0 then (px_bv (f_M_goes_28 K N a0 s1 t) (fun s4 t5 => (some (.inl (some (.int (1 : Int32))), s4, t5))) (fun x8 s4 t5 => none)) else (some (.inl (some (.int (0 : Int32))), s1, t)))))
set_option maxRecDepth 100000 in
theorem e_M_crash_28 (K : px_K) (N : Nat) (a0 : Int64) (s : px_S) (t : px_W) (r : px_Res) (h : f_M_crash_28 K N a0 s t = some r) : px_E px_ET px_P 4 92 0 (px_ent 3 [.ref 28, .long a0]) [] (px_w K s t) r.1 (px_w K r.2.1 r.2.2) := by
  have hM : px_P[92]? = some pm_M_crash := rfl
  unfold f_M_crash_28 at h
  refine px_blk (i' := 3) (L' := [some (.ref 28), some (.long a0), none]) (S' := []) (w' := px_w K (sR s 25 (0 : Int32)) t) (q := []) 3 hM rfl trivial ?_
  obtain ⟨s1, hs2, h⟩ := px_let_some h
  rw [← hs2]
  refine px_blkif (c := ¬ (s1.1 29) = 0) (t := 8) (e := 6) (L' := [some (.ref 28), some (.long a0), none]) (S' := []) (w' := px_w K s1 t) (q := []) 3 hM rfl trivial (fun hc3 => ?_) (fun hc3 => ?_)
  · rw [if_pos hc3] at h
    refine px_blk (i' := 10) (L' := [some (.ref 28), some (.long a0), none]) (S' := [.long a0, .ref 28]) (w' := px_w K s1 t) (q := []) 2 hM rfl trivial ?_
    rcases px_bv_some h with ⟨s4, t5, hk6, h⟩ | ⟨x8, s4, t5, hk6, h⟩
    · refine px_E_call hM rfl rfl rfl rfl (px_E_mono (by decide) (e_M_goes_28 K N a0 s1 t _ hk6)) ?_
      refine px_blk (i' := 12) (L' := [some (.ref 28), some (.long a0), none]) (S' := [.int (1 : Int32)]) (w' := px_w K s4 t5) (q := []) 1 hM rfl trivial ?_
      cases h
      exact px_E_ret hM rfl rfl rfl (show (1 : Int32) = 0 ∨ (1 : Int32) = 1 from Or.inr rfl)
    · cases h
  · rw [if_neg hc3] at h
    refine px_blk (i' := 7) (L' := [some (.ref 28), some (.long a0), none]) (S' := [.int (0 : Int32)]) (w' := px_w K s1 t) (q := []) 1 hM rfl trivial ?_
    cases h
    exact px_E_ret hM rfl rfl rfl (show (0 : Int32) = 0 ∨ (0 : Int32) = 1 from Or.inl rfl)
noncomputable def l_M_newFlash_28_4 (K : px_K) (N : Nat) (n : Nat) (m1 : Int32) (s : px_S) (t : px_W) : Option px_LO := match n with
  | 0 => none
  | n + 1 => (px_bi (f_M_at K N (1 : Int32) (114 : Int32) s t) (fun v4 s1 t2 => (if v4 ≤ m1 then (some (.inl (16, [], s1, t2))) else (px_gd (vp_in m1 (K.2.2 29)) (px_let (sA s1 29 m1.toNatClampNeg (0 : Int32)) (fun s8 => (l_M_newFlash_28_4 K N n (m1 + (1 : Int32)) s8 t2)))))) (fun x5 s1 t2 => none))
def a_l_M_newFlash_28_4 (K : px_K) (z : px_LO) (o : Option Value ⊕ Nat) (w2 : px_W) : Prop := match z with
  | .inr (o', s', t') => o = o' ∧ w2 = px_w K s' t'
  | .inl (16, [], s', t') => px_E px_ET px_P 2 93 16 [some (.ref 28), none] [] (px_w K s' t') o w2
  | _ => False
set_option maxRecDepth 100000 in
theorem e_l_M_newFlash_28_4 (K : px_K) (N : Nat) : ∀ (n : Nat) (m1 : Int32) (s : px_S) (t : px_W) (z : px_LO), l_M_newFlash_28_4 K N n m1 s t = some z → ∀ (o : Option Value ⊕ Nat) (w2 : px_W), a_l_M_newFlash_28_4 K z o w2 → px_E px_ET px_P 2 93 4 [some (.ref 28), some (.int m1)] [] (px_w K s t) o w2 := by
  have hM : px_P[93]? = some pm_M_newFlash := rfl
  intro n
  induction n with
  | zero => intro m1 s t z h; cases h
  | succ n ih =>
    intro m1 s t z h o w2 ha
    unfold l_M_newFlash_28_4 at h
    refine px_blk (i' := 7) (L' := [some (.ref 28), some (.int m1)]) (S' := [.int (114 : Int32), .int (1 : Int32), .int m1]) (w' := px_w K s t) (q := []) 3 hM rfl trivial ?_
    rcases px_bi_some h with ⟨v4, s1, t2, hk3, h⟩ | ⟨x5, s1, t2, hk3, h⟩
    · refine px_E_call hM rfl rfl rfl rfl (px_E_mono (by decide) (e_M_at K N (1 : Int32) (114 : Int32) s t _ hk3)) ?_
      refine px_blkif (c := v4 ≤ m1) (t := 16) (e := 9) (L' := [some (.ref 28), some (.int m1)]) (S' := []) (w' := px_w K s1 t2) (q := []) 1 hM rfl trivial (fun hc6 => ?_) (fun hc6 => ?_)
      · rw [if_pos hc6] at h
        cases h
        exact px_E_le (px_leC_L _ _ (by simp [px_leC, px_le1, Value.category])) ha
      · rw [if_neg hc6] at h
        obtain ⟨hq7, h⟩ := px_gd_some h
        refine px_blk (i' := 14) (L' := [some (.ref 28), some (.int m1)]) (S' := []) (w' := px_w K (sA s1 29 m1.toNatClampNeg (0 : Int32)) t2) (q := [vp_in m1 (K.2.2 29)]) 5 hM rfl (show vp_in m1 (K.2.2 29) from hq7) ?_
        obtain ⟨s8, hs9, h⟩ := px_let_some h
        rw [← hs9]
        refine px_blk (i' := 4) (L' := [some (.ref 28), some (.int (m1 + (1 : Int32)))]) (S' := []) (w' := px_w K s8 t2) (q := []) 2 hM rfl trivial ?_
        exact ih (m1 + (1 : Int32)) s8 t2 z h o w2 ha
    · cases h
noncomputable def f_M_newFlash_28 (K : px_K) (N : Nat) (s : px_S) (t : px_W) : Option px_Res :=
  (px_bi (f_M_at K N (1 : Int32) (0 : Int32) s t) (fun v4 s1 t2 => (px_lp (l_M_newFlash_28_4 K N N v4 s1 t2) (fun i6 vs7 s8 t9 => (if i6 = 16 then (px_v0 vs7 (px_gd (vp_in (1 : Int32) (K.2.2 30)) (px_let (sA s8 30 (1 : Int32).toNatClampNeg (0 : Int32)) (fun s14 => (some (.inl none, s14, t9)))))) else none)) (fun z11 => some z11))) (fun x5 s1 t2 => none))
set_option maxRecDepth 100000 in
theorem e_M_newFlash_28 (K : px_K) (N : Nat) (s : px_S) (t : px_W) (r : px_Res) (h : f_M_newFlash_28 K N s t = some r) : px_E px_ET px_P 2 93 0 (px_ent 2 [.ref 28]) [] (px_w K s t) r.1 (px_w K r.2.1 r.2.2) := by
  have hM : px_P[93]? = some pm_M_newFlash := rfl
  unfold f_M_newFlash_28 at h
  refine px_blk (i' := 2) (L' := [some (.ref 28), none]) (S' := [.int (0 : Int32), .int (1 : Int32)]) (w' := px_w K s t) (q := []) 2 hM rfl trivial ?_
  rcases px_bi_some h with ⟨v4, s1, t2, hk3, h⟩ | ⟨x5, s1, t2, hk3, h⟩
  · refine px_E_call hM rfl rfl rfl rfl (px_E_mono (by decide) (e_M_at K N (1 : Int32) (0 : Int32) s t _ hk3)) ?_
    refine px_blk (i' := 4) (L' := [some (.ref 28), some (.int v4)]) (S' := []) (w' := px_w K s1 t2) (q := []) 1 hM rfl trivial ?_
    rcases px_lp_some h with ⟨i6, vs7, s8, t9, hl10, h⟩ | ⟨z11, hl10, h⟩
    · by_cases hi12 : i6 = 16
      · subst hi12
        rw [if_pos rfl] at h
        have h9 := px_v0_some h
        clear h
        obtain ⟨rfl, h⟩ := h9
        refine e_l_M_newFlash_28_4 K N N v4 s1 t2 _ hl10 _ _ ?_
        show px_E px_ET px_P 2 93 16 [some (.ref 28), none] [] (px_w K s8 t9) _ _
        obtain ⟨hq13, h⟩ := px_gd_some h
        refine px_blk (i' := 21) (L' := [some (.ref 28), none]) (S' := []) (w' := px_w K (sA s8 30 (1 : Int32).toNatClampNeg (0 : Int32)) t9) (q := [vp_in (1 : Int32) (K.2.2 30)]) 5 hM rfl (show vp_in (1 : Int32) (K.2.2 30) from hq13) ?_
        obtain ⟨s14, hs15, h⟩ := px_let_some h
        rw [← hs15]
        cases h
        exact px_E_ret hM rfl rfl rfl trivial
      · rw [if_neg hi12] at h
        cases h
    · cases h
      exact e_l_M_newFlash_28_4 K N N v4 s1 t2 _ hl10 _ _ ⟨rfl, rfl⟩
  · cases h
noncomputable def f_M_lose_28 (K : px_K) (N : Nat) (a0 : Int64) (s : px_S) (t : px_W) : Option px_Res :=
  (px_let (sR s 25 (0 : Int32)) (fun s1 => (px_bv (f_M_newFlash_28 K N s1 t) (fun s3 t4 => (if (s3.1 29) = 0 then (some (.inl (some (.int (1 : Int32))), s3, t4)) else (px_bv (f_M_goes_28 K N a0 s3 t4) (fun s9 t10 => (some (.inl (some (.int (1 : Int32))), s9, t10))) (fun x13 s9 t10 => none)))) (fun x7 s3 t4 => none))))
set_option maxRecDepth 100000 in
theorem e_M_lose_28 (K : px_K) (N : Nat) (a0 : Int64) (s : px_S) (t : px_W) (r : px_Res) (h : f_M_lose_28 K N a0 s t = some r) : px_E px_ET px_P 4 94 0 (px_ent 3 [.ref 28, .long a0]) [] (px_w K s t) r.1 (px_w K r.2.1 r.2.2) := by
  have hM : px_P[94]? = some pm_M_lose := rfl
  unfold f_M_lose_28 at h
  refine px_blk (i' := 3) (L' := [some (.ref 28), some (.long a0), none]) (S' := []) (w' := px_w K (sR s 25 (0 : Int32)) t) (q := []) 3 hM rfl trivial ?_
  obtain ⟨s1, hs2, h⟩ := px_let_some h
  rw [← hs2]
  refine px_blk (i' := 4) (L' := [some (.ref 28), some (.long a0), none]) (S' := [.ref 28]) (w' := px_w K s1 t) (q := []) 1 hM rfl trivial ?_
  rcases px_bv_some h with ⟨s3, t4, hk5, h⟩ | ⟨x7, s3, t4, hk5, h⟩
  · refine px_E_call hM rfl rfl rfl rfl (px_E_mono (by decide) (e_M_newFlash_28 K N s1 t _ hk5)) ?_
    refine px_blkif (c := (s3.1 29) = 0) (t := 11) (e := 8) (L' := [some (.ref 28), some (.long a0), none]) (S' := []) (w' := px_w K s3 t4) (q := []) 3 hM rfl trivial (fun hc8 => ?_) (fun hc8 => ?_)
    · rw [if_pos hc8] at h
      refine px_blk (i' := 12) (L' := [some (.ref 28), some (.long a0), none]) (S' := [.int (1 : Int32)]) (w' := px_w K s3 t4) (q := []) 1 hM rfl trivial ?_
      cases h
      exact px_E_ret hM rfl rfl rfl (show (1 : Int32) = 0 ∨ (1 : Int32) = 1 from Or.inr rfl)
    · rw [if_neg hc8] at h
      refine px_blk (i' := 10) (L' := [some (.ref 28), some (.long a0), none]) (S' := [.long a0, .ref 28]) (w' := px_w K s3 t4) (q := []) 2 hM rfl trivial ?_
      rcases px_bv_some h with ⟨s9, t10, hk11, h⟩ | ⟨x13, s9, t10, hk11, h⟩
      · refine px_E_call hM rfl rfl rfl rfl (px_E_mono (by decide) (e_M_goes_28 K N a0 s3 t4 _ hk11)) ?_
        refine px_blk (i' := 12) (L' := [some (.ref 28), some (.long a0), none]) (S' := [.int (1 : Int32)]) (w' := px_w K s9 t10) (q := []) 1 hM rfl trivial ?_
        cases h
        exact px_E_ret hM rfl rfl rfl (show (1 : Int32) = 0 ∨ (1 : Int32) = 1 from Or.inr rfl)
      · cases h
  · cases h
noncomputable def l_M_halfThatCounts_28_4 (K : px_K) (N : Nat) (n : Nat) (m1 : Int32) (m2 : Int32) (s : px_S) (t : px_W) : Option px_LO := match n with
  | 0 => none
  | n + 1 => (if (2 : Int32) ≤ m2 then (some (.inl (47, [m1], s, t))) else (px_bi (f_M_read_28 K N (1 : Int32) ((25 : Int32) * m2) (1 : Int32) s t) (fun v5 s2 t3 => (px_bi (f_M_read_28 K N (0 : Int32) (0 : Int32) (0 : Int32) s2 t3) (fun v10 s7 t8 => (px_let (if ¬ v5 = v10 then (0 : Int32) else (1 : Int32)) (fun v12 => (if v12 = 0 then (l_M_halfThatCounts_28_4 K N n m1 (m2 + (1 : Int32)) s7 t8) else (if m1 < 0 then (l_M_halfThatCounts_28_4 K N n m2 (m2 + (1 : Int32)) s7 t8) else (px_bi (f_M_read_28 K N (1 : Int32) ((25 : Int32) * m2) (0 : Int32) s7 t8) (fun v19 s16 t17 => (px_bi (f_M_read_28 K N (1 : Int32) ((25 : Int32) * m1) (0 : Int32) s16 t17) (fun v24 s21 t22 => (if v19 ≤ v24 then (l_M_halfThatCounts_28_4 K N n m1 (m2 + (1 : Int32)) s21 t22) else (l_M_halfThatCounts_28_4 K N n m2 (m2 + (1 : Int32)) s21 t22))) (fun x25 s21 t22 => none))) (fun x20 s16 t17 => none))))))) (fun x11 s7 t8 => none))) (fun x6 s2 t3 => none)))
def a_l_M_halfThatCounts_28_4 (K : px_K) (z : px_LO) (o : Option Value ⊕ Nat) (w2 : px_W) : Prop := match z with
  | .inr (o', s', t') => o = o' ∧ w2 = px_w K s' t'
  | .inl (47, [y1], s', t') => px_E px_ET px_P 3 95 47 [none, some (.int y1), none, none] [] (px_w K s' t') o w2
  | _ => False
set_option maxRecDepth 100000 in
theorem e_l_M_halfThatCounts_28_4 (K : px_K) (N : Nat) : ∀ (n : Nat) (m1 : Int32) (m2 : Int32) (s : px_S) (t : px_W) (z : px_LO), l_M_halfThatCounts_28_4 K N n m1 m2 s t = some z → ∀ (o : Option Value ⊕ Nat) (w2 : px_W), a_l_M_halfThatCounts_28_4 K z o w2 → px_E px_ET px_P 3 95 4 [some (.ref 28), some (.int m1), some (.int m2), none] [] (px_w K s t) o w2 := by
  have hM : px_P[95]? = some pm_M_halfThatCounts := rfl
  intro n
  induction n with
  | zero => intro m1 m2 s t z h; cases h
  | succ n ih =>
    intro m1 m2 s t z h o w2 ha
    unfold l_M_halfThatCounts_28_4 at h
    refine px_blkif (c := (2 : Int32) ≤ m2) (t := 47) (e := 7) (L' := [some (.ref 28), some (.int m1), some (.int m2), none]) (S' := []) (w' := px_w K s t) (q := []) 3 hM rfl trivial (fun hc1 => ?_) (fun hc1 => ?_)
    · rw [if_pos hc1] at h
      cases h
      exact px_E_le (px_leC_L _ _ (by simp [px_leC, px_le1, Value.category])) ha
    · rw [if_neg hc1] at h
      refine px_blk (i' := 13) (L' := [some (.ref 28), some (.int m1), some (.int m2), none]) (S' := [.int (1 : Int32), .int ((25 : Int32) * m2), .int (1 : Int32), .ref 28]) (w' := px_w K s t) (q := []) 6 hM rfl trivial ?_
      rcases px_bi_some h with ⟨v5, s2, t3, hk4, h⟩ | ⟨x6, s2, t3, hk4, h⟩
      · refine px_E_call hM rfl rfl rfl rfl (px_E_mono (by decide) (e_M_read_28 K N (1 : Int32) ((25 : Int32) * m2) (1 : Int32) s t _ hk4)) ?_
        refine px_blk (i' := 18) (L' := [some (.ref 28), some (.int m1), some (.int m2), none]) (S' := [.int (0 : Int32), .int (0 : Int32), .int (0 : Int32), .ref 28, .int v5]) (w' := px_w K s2 t3) (q := []) 4 hM rfl trivial ?_
        rcases px_bi_some h with ⟨v10, s7, t8, hk9, h⟩ | ⟨x11, s7, t8, hk9, h⟩
        · refine px_E_call hM rfl rfl rfl rfl (px_E_mono (by decide) (e_M_read_28 K N (0 : Int32) (0 : Int32) (0 : Int32) s2 t3 _ hk9)) ?_
          have hK : px_E px_ET px_P 3 95 23 [some (.ref 28), some (.int m1), some (.int m2), none] [.int (if ¬ v5 = v10 then (0 : Int32) else (1 : Int32))] (px_w K s7 t8) o w2 := by
            refine px_blk (i' := 24) (L' := [some (.ref 28), some (.int m1), some (.int m2), some (.int (if ¬ v5 = v10 then (0 : Int32) else (1 : Int32)))]) (S' := []) (w' := px_w K s7 t8) (q := []) 1 hM rfl trivial ?_
            obtain ⟨v12, hv13, h⟩ := px_let_some h
            rw [← hv13]
            refine px_blkif (c := v12 = 0) (t := 45) (e := 26) (L' := [some (.ref 28), some (.int m1), some (.int m2), some (.int v12)]) (S' := []) (w' := px_w K s7 t8) (q := []) 2 hM rfl trivial (fun hc14 => ?_) (fun hc14 => ?_)
            · rw [if_pos hc14] at h
              refine px_blk (i' := 4) (L' := [some (.ref 28), some (.int m1), some (.int (m2 + (1 : Int32))), some (.int v12)]) (S' := []) (w' := px_w K s7 t8) (q := []) 2 hM rfl trivial ?_
              exact px_E_le (px_leC_L _ _ (by simp [px_leC, px_le1, Value.category])) (ih m1 (m2 + (1 : Int32)) s7 t8 z h o w2 ha)
            · rw [if_neg hc14] at h
              refine px_blkif (c := m1 < 0) (t := 43) (e := 28) (L' := [some (.ref 28), some (.int m1), some (.int m2), some (.int v12)]) (S' := []) (w' := px_w K s7 t8) (q := []) 2 hM rfl trivial (fun hc15 => ?_) (fun hc15 => ?_)
              · rw [if_pos hc15] at h
                refine px_blk (i' := 4) (L' := [some (.ref 28), some (.int m2), some (.int (m2 + (1 : Int32))), some (.int v12)]) (S' := []) (w' := px_w K s7 t8) (q := []) 4 hM rfl trivial ?_
                exact px_E_le (px_leC_L _ _ (by simp [px_leC, px_le1, Value.category])) (ih m2 (m2 + (1 : Int32)) s7 t8 z h o w2 ha)
              · rw [if_neg hc15] at h
                refine px_blk (i' := 34) (L' := [some (.ref 28), some (.int m1), some (.int m2), some (.int v12)]) (S' := [.int (0 : Int32), .int ((25 : Int32) * m2), .int (1 : Int32), .ref 28]) (w' := px_w K s7 t8) (q := []) 6 hM rfl trivial ?_
                rcases px_bi_some h with ⟨v19, s16, t17, hk18, h⟩ | ⟨x20, s16, t17, hk18, h⟩
                · refine px_E_call hM rfl rfl rfl rfl (px_E_mono (by decide) (e_M_read_28 K N (1 : Int32) ((25 : Int32) * m2) (0 : Int32) s7 t8 _ hk18)) ?_
                  refine px_blk (i' := 41) (L' := [some (.ref 28), some (.int m1), some (.int m2), some (.int v12)]) (S' := [.int (0 : Int32), .int ((25 : Int32) * m1), .int (1 : Int32), .ref 28, .int v19]) (w' := px_w K s16 t17) (q := []) 6 hM rfl trivial ?_
                  rcases px_bi_some h with ⟨v24, s21, t22, hk23, h⟩ | ⟨x25, s21, t22, hk23, h⟩
                  · refine px_E_call hM rfl rfl rfl rfl (px_E_mono (by decide) (e_M_read_28 K N (1 : Int32) ((25 : Int32) * m1) (0 : Int32) s16 t17 _ hk23)) ?_
                    refine px_blkif (c := v19 ≤ v24) (t := 45) (e := 43) (L' := [some (.ref 28), some (.int m1), some (.int m2), some (.int v12)]) (S' := []) (w' := px_w K s21 t22) (q := []) 1 hM rfl trivial (fun hc26 => ?_) (fun hc26 => ?_)
                    · rw [if_pos hc26] at h
                      refine px_blk (i' := 4) (L' := [some (.ref 28), some (.int m1), some (.int (m2 + (1 : Int32))), some (.int v12)]) (S' := []) (w' := px_w K s21 t22) (q := []) 2 hM rfl trivial ?_
                      exact px_E_le (px_leC_L _ _ (by simp [px_leC, px_le1, Value.category])) (ih m1 (m2 + (1 : Int32)) s21 t22 z h o w2 ha)
                    · rw [if_neg hc26] at h
                      refine px_blk (i' := 4) (L' := [some (.ref 28), some (.int m2), some (.int (m2 + (1 : Int32))), some (.int v12)]) (S' := []) (w' := px_w K s21 t22) (q := []) 4 hM rfl trivial ?_
                      exact px_E_le (px_leC_L _ _ (by simp [px_leC, px_le1, Value.category])) (ih m2 (m2 + (1 : Int32)) s21 t22 z h o w2 ha)
                  · cases h
                · cases h
          clear h
          refine px_blkif (c := ¬ v5 = v10) (t := 22) (e := 20) (L' := [some (.ref 28), some (.int m1), some (.int m2), none]) (S' := []) (w' := px_w K s7 t8) (q := []) 1 hM rfl trivial (fun hc27 => ?_) (fun hc27 => ?_)
          · rw [if_pos hc27] at hK
            exact px_blk (i' := 23) (L' := [some (.ref 28), some (.int m1), some (.int m2), none]) (S' := [.int (0 : Int32)]) (w' := px_w K s7 t8) (q := []) 1 hM rfl trivial hK
          · rw [if_neg hc27] at hK
            exact px_blk (i' := 23) (L' := [some (.ref 28), some (.int m1), some (.int m2), none]) (S' := [.int (1 : Int32)]) (w' := px_w K s7 t8) (q := []) 2 hM rfl trivial hK
        · cases h
      · cases h
noncomputable def f_M_halfThatCounts_28 (K : px_K) (N : Nat) (s : px_S) (t : px_W) : Option px_Res :=
  (px_lp (l_M_halfThatCounts_28_4 K N N (-1 : Int32) (0 : Int32) s t) (fun i1 vs2 s3 t4 => (if i1 = 47 then (px_v1 vs2 (fun y7 => (some (.inl (some (.int y7)), s3, t4)))) else none)) (fun z6 => some z6))
set_option maxRecDepth 100000 in
theorem e_M_halfThatCounts_28 (K : px_K) (N : Nat) (s : px_S) (t : px_W) (r : px_Res) (h : f_M_halfThatCounts_28 K N s t = some r) : px_E px_ET px_P 3 95 0 (px_ent 4 [.ref 28]) [] (px_w K s t) r.1 (px_w K r.2.1 r.2.2) := by
  have hM : px_P[95]? = some pm_M_halfThatCounts := rfl
  unfold f_M_halfThatCounts_28 at h
  refine px_blk (i' := 4) (L' := [some (.ref 28), some (.int (-1 : Int32)), some (.int (0 : Int32)), none]) (S' := []) (w' := px_w K s t) (q := []) 4 hM rfl trivial ?_
  rcases px_lp_some h with ⟨i1, vs2, s3, t4, hl5, h⟩ | ⟨z6, hl5, h⟩
  · by_cases hi8 : i1 = 47
    · subst hi8
      rw [if_pos rfl] at h
      have h9 := px_v1_some h
      clear h
      obtain ⟨y7, rfl, h⟩ := h9
      refine e_l_M_halfThatCounts_28_4 K N N (-1 : Int32) (0 : Int32) s t _ hl5 _ _ ?_
      show px_E px_ET px_P 3 95 47 [none, some (.int y7), none, none] [] (px_w K s3 t4) _ _
      refine px_blk (i' := 48) (L' := [none, some (.int y7), none, none]) (S' := [.int y7]) (w' := px_w K s3 t4) (q := []) 1 hM rfl trivial ?_
      cases h
      exact px_E_ret hM rfl rfl rfl trivial
    · rw [if_neg hi8] at h
      cases h
  · cases h
    exact e_l_M_halfThatCounts_28_4 K N N (-1 : Int32) (0 : Int32) s t _ hl5 _ _ ⟨rfl, rfl⟩
noncomputable def l_M_redo_28_19 (K : px_K) (N : Nat) (n : Nat) (u1 : Int32) (u2 : Int32) (m3 : Int32) (s : px_S) (t : px_W) : Option px_LO := match n with
  | 0 => none
  | n + 1 => (if u2 ≤ m3 then (some (.inl (46, [], s, t))) else (px_bv (f_M_copy_28_43 K N (0 : Int32) ((3 : Int32) + m3) (0 : Int32) s t) (fun s2 t3 => (px_bi (f_M_read_28 K N (0 : Int32) (2 : Int32) m3 s2 t3) (fun v10 s7 t8 => (px_bv (f_M_write_28_43 K N (0 : Int32) ((19 : Int32) + v10) (0 : Int32) s7 t8) (fun s12 t13 => (l_M_redo_28_19 K N n u1 u2 (m3 + (1 : Int32)) s12 t13)) (fun x16 s12 t13 => none))) (fun x11 s7 t8 => none))) (fun x6 s2 t3 => none)))
def a_l_M_redo_28_19 (K : px_K) (u1 : Int32) (u2 : Int32) (z : px_LO) (o : Option Value ⊕ Nat) (w2 : px_W) : Prop := match z with
  | .inr (o', s', t') => o = o' ∧ w2 = px_w K s' t'
  | .inl (46, [], s', t') => px_E px_ET px_P 6 97 46 [some (.ref 28), some (.int u1), none, none] [] (px_w K s' t') o w2
  | _ => False
set_option maxRecDepth 100000 in
theorem e_l_M_redo_28_19 (K : px_K) (N : Nat) (u1 : Int32) (u2 : Int32) : ∀ (n : Nat) (m3 : Int32) (s : px_S) (t : px_W) (z : px_LO), l_M_redo_28_19 K N n u1 u2 m3 s t = some z → ∀ (o : Option Value ⊕ Nat) (w2 : px_W), a_l_M_redo_28_19 K u1 u2 z o w2 → px_E px_ET px_P 6 97 19 [some (.ref 28), some (.int u1), some (.int u2), some (.int m3)] [] (px_w K s t) o w2 := by
  have hM : px_P[97]? = some pm_M_redo := rfl
  intro n
  induction n with
  | zero => intro m3 s t z h; cases h
  | succ n ih =>
    intro m3 s t z h o w2 ha
    unfold l_M_redo_28_19 at h
    refine px_blkif (c := u2 ≤ m3) (t := 46) (e := 22) (L' := [some (.ref 28), some (.int u1), some (.int u2), some (.int m3)]) (S' := []) (w' := px_w K s t) (q := []) 3 hM rfl trivial (fun hc1 => ?_) (fun hc1 => ?_)
    · rw [if_pos hc1] at h
      cases h
      exact px_E_le (px_leC_L _ _ (by simp [px_leC, px_le1, Value.category])) ha
    · rw [if_neg hc1] at h
      refine px_blk (i' := 30) (L' := [some (.ref 28), some (.int u1), some (.int u2), some (.int m3)]) (S' := [.int (0 : Int32), .ref 43, .int ((3 : Int32) + m3), .int (0 : Int32), .ref 28]) (w' := px_w K s t) (q := []) 8 hM rfl trivial ?_
      rcases px_bv_some h with ⟨s2, t3, hk4, h⟩ | ⟨x6, s2, t3, hk4, h⟩
      · refine px_E_call hM rfl rfl rfl rfl (px_E_mono (by decide) (e_M_copy_28_43 K N (0 : Int32) ((3 : Int32) + m3) (0 : Int32) s t _ hk4)) ?_
        refine px_blk (i' := 38) (L' := [some (.ref 28), some (.int u1), some (.int u2), some (.int m3)]) (S' := [.int m3, .int (2 : Int32), .int (0 : Int32), .ref 28, .int (19 : Int32), .int (0 : Int32), .ref 28]) (w' := px_w K s2 t3) (q := []) 7 hM rfl trivial ?_
        rcases px_bi_some h with ⟨v10, s7, t8, hk9, h⟩ | ⟨x11, s7, t8, hk9, h⟩
        · refine px_E_call hM rfl rfl rfl rfl (px_E_mono (by decide) (e_M_read_28 K N (0 : Int32) (2 : Int32) m3 s2 t3 _ hk9)) ?_
          refine px_blk (i' := 43) (L' := [some (.ref 28), some (.int u1), some (.int u2), some (.int m3)]) (S' := [.int (0 : Int32), .ref 43, .int ((19 : Int32) + v10), .int (0 : Int32), .ref 28]) (w' := px_w K s7 t8) (q := []) 4 hM rfl trivial ?_
          rcases px_bv_some h with ⟨s12, t13, hk14, h⟩ | ⟨x16, s12, t13, hk14, h⟩
          · refine px_E_call hM rfl rfl rfl rfl (px_E_mono (by decide) (e_M_write_28_43 K N (0 : Int32) ((19 : Int32) + v10) (0 : Int32) s7 t8 _ hk14)) ?_
            refine px_blk (i' := 19) (L' := [some (.ref 28), some (.int u1), some (.int u2), some (.int (m3 + (1 : Int32)))]) (S' := []) (w' := px_w K s12 t13) (q := []) 2 hM rfl trivial ?_
            exact ih (m3 + (1 : Int32)) s12 t13 z h o w2 ha
          · cases h
        · cases h
      · cases h
noncomputable def f_M_redo_28 (K : px_K) (N : Nat) (s : px_S) (t : px_W) : Option px_Res :=
  (px_bi (f_M_read_28 K N (0 : Int32) (1 : Int32) (0 : Int32) s t) (fun v4 s1 t2 => (if v4 = (1 : Int32) then (px_bi (f_M_landed_28 K N s1 t2) (fun v10 s7 t8 => (px_bi (f_M_read_28 K N (0 : Int32) (1 : Int32) (2 : Int32) s7 t8) (fun v15 s12 t13 => (px_lp (l_M_redo_28_19 K N N v10 v15 (0 : Int32) s12 t13) (fun i17 vs18 s19 t20 => (if i17 = 46 then (px_v0 vs18 (px_bv (f_M_flush_28 K N (0 : Int32) s19 t20) (fun s24 t25 => (px_bv (f_M_three_28_43 K N (0 : Int32) v10 (0 : Int32) s24 t25) (fun s29 t30 => (px_bv (f_M_write_28_43 K N (0 : Int32) (1 : Int32) (0 : Int32) s29 t30) (fun s34 t35 => (px_bv (f_M_flush_28 K N (0 : Int32) s34 t35) (fun s39 t40 => (some (.inl none, s39, t40))) (fun x43 s39 t40 => none))) (fun x38 s34 t35 => none))) (fun x33 s29 t30 => none))) (fun x28 s24 t25 => none))) else none)) (fun z22 => some z22))) (fun x16 s12 t13 => none))) (fun x11 s7 t8 => none)) else (some (.inl none, s1, t2)))) (fun x5 s1 t2 => none))
set_option maxRecDepth 100000 in
theorem e_M_redo_28 (K : px_K) (N : Nat) (s : px_S) (t : px_W) (r : px_Res) (h : f_M_redo_28 K N s t = some r) : px_E px_ET px_P 6 97 0 (px_ent 4 [.ref 28]) [] (px_w K s t) r.1 (px_w K r.2.1 r.2.2) := by
  have hM : px_P[97]? = some pm_M_redo := rfl
  unfold f_M_redo_28 at h
  refine px_blk (i' := 4) (L' := [some (.ref 28), none, none, none]) (S' := [.int (0 : Int32), .int (1 : Int32), .int (0 : Int32), .ref 28]) (w' := px_w K s t) (q := []) 4 hM rfl trivial ?_
  rcases px_bi_some h with ⟨v4, s1, t2, hk3, h⟩ | ⟨x5, s1, t2, hk3, h⟩
  · refine px_E_call hM rfl rfl rfl rfl (px_E_mono (by decide) (e_M_read_28 K N (0 : Int32) (1 : Int32) (0 : Int32) s t _ hk3)) ?_
    refine px_blkif (c := v4 = (1 : Int32)) (t := 8) (e := 7) (L' := [some (.ref 28), none, none, none]) (S' := []) (w' := px_w K s1 t2) (q := []) 2 hM rfl trivial (fun hc6 => ?_) (fun hc6 => ?_)
    · rw [if_pos hc6] at h
      refine px_blk (i' := 9) (L' := [some (.ref 28), none, none, none]) (S' := [.ref 28]) (w' := px_w K s1 t2) (q := []) 1 hM rfl trivial ?_
      rcases px_bi_some h with ⟨v10, s7, t8, hk9, h⟩ | ⟨x11, s7, t8, hk9, h⟩
      · refine px_E_call hM rfl rfl rfl rfl (px_E_mono (by decide) (e_M_landed_28 K N s1 t2 _ hk9)) ?_
        refine px_blk (i' := 15) (L' := [some (.ref 28), some (.int v10), none, none]) (S' := [.int (2 : Int32), .int (1 : Int32), .int (0 : Int32), .ref 28]) (w' := px_w K s7 t8) (q := []) 5 hM rfl trivial ?_
        rcases px_bi_some h with ⟨v15, s12, t13, hk14, h⟩ | ⟨x16, s12, t13, hk14, h⟩
        · refine px_E_call hM rfl rfl rfl rfl (px_E_mono (by decide) (e_M_read_28 K N (0 : Int32) (1 : Int32) (2 : Int32) s7 t8 _ hk14)) ?_
          refine px_blk (i' := 19) (L' := [some (.ref 28), some (.int v10), some (.int v15), some (.int (0 : Int32))]) (S' := []) (w' := px_w K s12 t13) (q := []) 3 hM rfl trivial ?_
          rcases px_lp_some h with ⟨i17, vs18, s19, t20, hl21, h⟩ | ⟨z22, hl21, h⟩
          · by_cases hi23 : i17 = 46
            · subst hi23
              rw [if_pos rfl] at h
              have h9 := px_v0_some h
              clear h
              obtain ⟨rfl, h⟩ := h9
              refine e_l_M_redo_28_19 K N v10 v15 N (0 : Int32) s12 t13 _ hl21 _ _ ?_
              show px_E px_ET px_P 6 97 46 [some (.ref 28), some (.int v10), none, none] [] (px_w K s19 t20) _ _
              refine px_blk (i' := 48) (L' := [some (.ref 28), some (.int v10), none, none]) (S' := [.int (0 : Int32), .ref 28]) (w' := px_w K s19 t20) (q := []) 2 hM rfl trivial ?_
              rcases px_bv_some h with ⟨s24, t25, hk26, h⟩ | ⟨x28, s24, t25, hk26, h⟩
              · refine px_E_call hM rfl rfl rfl rfl (px_E_mono (by decide) (e_M_flush_28 K N (0 : Int32) s19 t20 _ hk26)) ?_
                refine px_blk (i' := 55) (L' := [some (.ref 28), some (.int v10), none, none]) (S' := [.int (0 : Int32), .int v10, .int (0 : Int32), .ref 43, .ref 28]) (w' := px_w K s24 t25) (q := []) 6 hM rfl trivial ?_
                rcases px_bv_some h with ⟨s29, t30, hk31, h⟩ | ⟨x33, s29, t30, hk31, h⟩
                · refine px_E_call hM rfl rfl rfl rfl (px_E_mono (by decide) (e_M_three_28_43 K N (0 : Int32) v10 (0 : Int32) s24 t25 _ hk31)) ?_
                  refine px_blk (i' := 62) (L' := [some (.ref 28), some (.int v10), none, none]) (S' := [.int (0 : Int32), .ref 43, .int (1 : Int32), .int (0 : Int32), .ref 28]) (w' := px_w K s29 t30) (q := []) 6 hM rfl trivial ?_
                  rcases px_bv_some h with ⟨s34, t35, hk36, h⟩ | ⟨x38, s34, t35, hk36, h⟩
                  · refine px_E_call hM rfl rfl rfl rfl (px_E_mono (by decide) (e_M_write_28_43 K N (0 : Int32) (1 : Int32) (0 : Int32) s29 t30 _ hk36)) ?_
                    refine px_blk (i' := 65) (L' := [some (.ref 28), some (.int v10), none, none]) (S' := [.int (0 : Int32), .ref 28]) (w' := px_w K s34 t35) (q := []) 2 hM rfl trivial ?_
                    rcases px_bv_some h with ⟨s39, t40, hk41, h⟩ | ⟨x43, s39, t40, hk41, h⟩
                    · refine px_E_call hM rfl rfl rfl rfl (px_E_mono (by decide) (e_M_flush_28 K N (0 : Int32) s34 t35 _ hk41)) ?_
                      cases h
                      exact px_E_ret hM rfl rfl rfl trivial
                    · cases h
                  · cases h
                · cases h
              · cases h
            · rw [if_neg hi23] at h
              cases h
          · cases h
            exact e_l_M_redo_28_19 K N v10 v15 N (0 : Int32) s12 t13 _ hl21 _ _ ⟨rfl, rfl⟩
        · cases h
      · cases h
    · rw [if_neg hc6] at h
      cases h
      exact px_E_ret hM rfl rfl rfl trivial
  · cases h
noncomputable def f_M_wordThere_28 (K : px_K) (N : Nat) (a0 : Int32) (a1 : Int32) (s : px_S) (t : px_W) : Option px_Res :=
  (if (s.1 31) = 0 then (if (-1 : Int32) < 0 then (px_bi (f_M_read_28 K N (0 : Int32) ((19 : Int32) + a0) a1 s t) (fun v6 s3 t4 => (some (.inl (some (.int v6)), s3, t4))) (fun x7 s3 t4 => none)) else (px_bi (f_M_read_28 K N (1 : Int32) ((50 : Int32) + (-1 : Int32)) a1 s t) (fun v11 s8 t9 => (some (.inl (some (.int v11)), s8, t9))) (fun x12 s8 t9 => none))) else (px_bi (f_M_newest_28 K N a0 s t) (fun v16 s13 t14 => (if v16 < 0 then (px_bi (f_M_read_28 K N (0 : Int32) ((19 : Int32) + a0) a1 s13 t14) (fun v22 s19 t20 => (some (.inl (some (.int v22)), s19, t20))) (fun x23 s19 t20 => none)) else (px_bi (f_M_read_28 K N (1 : Int32) ((50 : Int32) + v16) a1 s13 t14) (fun v27 s24 t25 => (some (.inl (some (.int v27)), s24, t25))) (fun x28 s24 t25 => none)))) (fun x17 s13 t14 => none)))
set_option maxRecDepth 100000 in
theorem e_M_wordThere_28 (K : px_K) (N : Nat) (a0 : Int32) (a1 : Int32) (s : px_S) (t : px_W) (r : px_Res) (h : f_M_wordThere_28 K N a0 a1 s t = some r) : px_E px_ET px_P 3 101 0 (px_ent 4 [.ref 28, .int a0, .int a1]) [] (px_w K s t) r.1 (px_w K r.2.1 r.2.2) := by
  have hM : px_P[101]? = some pm_M_wordThere := rfl
  unfold f_M_wordThere_28 at h
  refine px_blkif (c := (s.1 31) = 0) (t := 7) (e := 3) (L' := [some (.ref 28), some (.int a0), some (.int a1), none]) (S' := []) (w' := px_w K s t) (q := []) 3 hM rfl trivial (fun hc1 => ?_) (fun hc1 => ?_)
  · rw [if_pos hc1] at h
    refine px_blkif (c := (-1 : Int32) < 0) (t := 19) (e := 11) (L' := [some (.ref 28), some (.int a0), some (.int a1), some (.int (-1 : Int32))]) (S' := []) (w' := px_w K s t) (q := []) 4 hM rfl trivial (fun hc2 => ?_) (fun hc2 => ?_)
    · rw [if_pos hc2] at h
      refine px_blk (i' := 25) (L' := [some (.ref 28), some (.int a0), some (.int a1), some (.int (-1 : Int32))]) (S' := [.int a1, .int ((19 : Int32) + a0), .int (0 : Int32), .ref 28]) (w' := px_w K s t) (q := []) 6 hM rfl trivial ?_
      rcases px_bi_some h with ⟨v6, s3, t4, hk5, h⟩ | ⟨x7, s3, t4, hk5, h⟩
      · refine px_E_call hM rfl rfl rfl rfl (px_E_mono (by decide) (e_M_read_28 K N (0 : Int32) ((19 : Int32) + a0) a1 s t _ hk5)) ?_
        cases h
        exact px_E_ret hM rfl rfl rfl trivial
      · cases h
    · rw [if_neg hc2] at h
      refine px_blk (i' := 17) (L' := [some (.ref 28), some (.int a0), some (.int a1), some (.int (-1 : Int32))]) (S' := [.int a1, .int ((50 : Int32) + (-1 : Int32)), .int (1 : Int32), .ref 28]) (w' := px_w K s t) (q := []) 6 hM rfl trivial ?_
      rcases px_bi_some h with ⟨v11, s8, t9, hk10, h⟩ | ⟨x12, s8, t9, hk10, h⟩
      · refine px_E_call hM rfl rfl rfl rfl (px_E_mono (by decide) (e_M_read_28 K N (1 : Int32) ((50 : Int32) + (-1 : Int32)) a1 s t _ hk10)) ?_
        refine px_blk (i' := 26) (L' := [some (.ref 28), some (.int a0), some (.int a1), some (.int (-1 : Int32))]) (S' := [.int v11]) (w' := px_w K s8 t9) (q := []) 1 hM rfl trivial ?_
        cases h
        exact px_E_ret hM rfl rfl rfl trivial
      · cases h
  · rw [if_neg hc1] at h
    refine px_blk (i' := 5) (L' := [some (.ref 28), some (.int a0), some (.int a1), none]) (S' := [.int a0, .ref 28]) (w' := px_w K s t) (q := []) 2 hM rfl trivial ?_
    rcases px_bi_some h with ⟨v16, s13, t14, hk15, h⟩ | ⟨x17, s13, t14, hk15, h⟩
    · refine px_E_call hM rfl rfl rfl rfl (px_E_mono (by decide) (e_M_newest_28 K N a0 s t _ hk15)) ?_
      refine px_blkif (c := v16 < 0) (t := 19) (e := 11) (L' := [some (.ref 28), some (.int a0), some (.int a1), some (.int v16)]) (S' := []) (w' := px_w K s13 t14) (q := []) 4 hM rfl trivial (fun hc18 => ?_) (fun hc18 => ?_)
      · rw [if_pos hc18] at h
        refine px_blk (i' := 25) (L' := [some (.ref 28), some (.int a0), some (.int a1), some (.int v16)]) (S' := [.int a1, .int ((19 : Int32) + a0), .int (0 : Int32), .ref 28]) (w' := px_w K s13 t14) (q := []) 6 hM rfl trivial ?_
        rcases px_bi_some h with ⟨v22, s19, t20, hk21, h⟩ | ⟨x23, s19, t20, hk21, h⟩
        · refine px_E_call hM rfl rfl rfl rfl (px_E_mono (by decide) (e_M_read_28 K N (0 : Int32) ((19 : Int32) + a0) a1 s13 t14 _ hk21)) ?_
          cases h
          exact px_E_ret hM rfl rfl rfl trivial
        · cases h
      · rw [if_neg hc18] at h
        refine px_blk (i' := 17) (L' := [some (.ref 28), some (.int a0), some (.int a1), some (.int v16)]) (S' := [.int a1, .int ((50 : Int32) + v16), .int (1 : Int32), .ref 28]) (w' := px_w K s13 t14) (q := []) 6 hM rfl trivial ?_
        rcases px_bi_some h with ⟨v27, s24, t25, hk26, h⟩ | ⟨x28, s24, t25, hk26, h⟩
        · refine px_E_call hM rfl rfl rfl rfl (px_E_mono (by decide) (e_M_read_28 K N (1 : Int32) ((50 : Int32) + v16) a1 s13 t14 _ hk26)) ?_
          refine px_blk (i' := 26) (L' := [some (.ref 28), some (.int a0), some (.int a1), some (.int v16)]) (S' := [.int v27]) (w' := px_w K s24 t25) (q := []) 1 hM rfl trivial ?_
          cases h
          exact px_E_ret hM rfl rfl rfl trivial
        · cases h
    · cases h
noncomputable def f_M_isCommit_28 (K : px_K) (N : Nat) (a0 : Int32) (s : px_S) (t : px_W) : Option px_Res :=
  (if (28 : Int32) < (a0 + (2 : Int32)) then (some (.inl (some (.int (0 : Int32))), s, t)) else (px_bi (f_M_word_28 K N a0 (0 : Int32) s t) (fun v5 s2 t3 => (if ¬ v5 = (1 : Int32) then (some (.inl (some (.int (0 : Int32))), s2, t3)) else (px_bi (f_M_word_28 K N a0 (1 : Int32) s2 t3) (fun v11 s8 t9 => (if v11 = (s8.1 36) then (px_bi (f_M_word_28 K N a0 (2 : Int32) s8 t9) (fun v17 s14 t15 => (if v17 < (1 : Int32) then (some (.inl (some (.int (0 : Int32))), s14, t15)) else (if (12 : Int32) < v17 then (some (.inl (some (.int (0 : Int32))), s14, t15)) else (if (28 : Int32) < ((a0 + v17) + (1 : Int32)) then (some (.inl (some (.int (0 : Int32))), s14, t15)) else (px_bi (f_M_word_28 K N ((a0 + v17) + (1 : Int32)) (0 : Int32) s14 t15) (fun v25 s22 t23 => (if ¬ v25 = (2 : Int32) then (some (.inl (some (.int (0 : Int32))), s22, t23)) else (px_bi (f_M_word_28 K N ((a0 + v17) + (1 : Int32)) (1 : Int32) s22 t23) (fun v31 s28 t29 => (some (.inl (some (.int (if ¬ v31 = (s28.1 36) then (0 : Int32) else (1 : Int32)))), s28, t29))) (fun x32 s28 t29 => none)))) (fun x26 s22 t23 => none)))))) (fun x18 s14 t15 => none)) else (some (.inl (some (.int (0 : Int32))), s8, t9)))) (fun x12 s8 t9 => none)))) (fun x6 s2 t3 => none)))
set_option maxRecDepth 100000 in
theorem e_M_isCommit_28 (K : px_K) (N : Nat) (a0 : Int32) (s : px_S) (t : px_W) (r : px_Res) (h : f_M_isCommit_28 K N a0 s t = some r) : px_E px_ET px_P 2 103 0 (px_ent 3 [.ref 28, .int a0]) [] (px_w K s t) r.1 (px_w K r.2.1 r.2.2) := by
  have hM : px_P[103]? = some pm_M_isCommit := rfl
  unfold f_M_isCommit_28 at h
  refine px_blkif (c := (28 : Int32) < (a0 + (2 : Int32))) (t := 18) (e := 5) (L' := [some (.ref 28), some (.int a0), none]) (S' := []) (w' := px_w K s t) (q := []) 5 hM rfl trivial (fun hc1 => ?_) (fun hc1 => ?_)
  · rw [if_pos hc1] at h
    refine px_blk (i' := 19) (L' := [some (.ref 28), some (.int a0), none]) (S' := [.int (0 : Int32)]) (w' := px_w K s t) (q := []) 1 hM rfl trivial ?_
    cases h
    exact px_E_ret hM rfl rfl rfl (show (0 : Int32) = 0 ∨ (0 : Int32) = 1 from Or.inl rfl)
  · rw [if_neg hc1] at h
    refine px_blk (i' := 8) (L' := [some (.ref 28), some (.int a0), none]) (S' := [.int (0 : Int32), .int a0, .ref 28]) (w' := px_w K s t) (q := []) 3 hM rfl trivial ?_
    rcases px_bi_some h with ⟨v5, s2, t3, hk4, h⟩ | ⟨x6, s2, t3, hk4, h⟩
    · refine px_E_call hM rfl rfl rfl rfl (px_E_mono (by decide) (e_M_word_28 K N a0 (0 : Int32) s t _ hk4)) ?_
      refine px_blkif (c := ¬ v5 = (1 : Int32)) (t := 18) (e := 11) (L' := [some (.ref 28), some (.int a0), none]) (S' := []) (w' := px_w K s2 t3) (q := []) 2 hM rfl trivial (fun hc7 => ?_) (fun hc7 => ?_)
      · rw [if_pos hc7] at h
        refine px_blk (i' := 19) (L' := [some (.ref 28), some (.int a0), none]) (S' := [.int (0 : Int32)]) (w' := px_w K s2 t3) (q := []) 1 hM rfl trivial ?_
        cases h
        exact px_E_ret hM rfl rfl rfl (show (0 : Int32) = 0 ∨ (0 : Int32) = 1 from Or.inl rfl)
      · rw [if_neg hc7] at h
        refine px_blk (i' := 14) (L' := [some (.ref 28), some (.int a0), none]) (S' := [.int (1 : Int32), .int a0, .ref 28]) (w' := px_w K s2 t3) (q := []) 3 hM rfl trivial ?_
        rcases px_bi_some h with ⟨v11, s8, t9, hk10, h⟩ | ⟨x12, s8, t9, hk10, h⟩
        · refine px_E_call hM rfl rfl rfl rfl (px_E_mono (by decide) (e_M_word_28 K N a0 (1 : Int32) s2 t3 _ hk10)) ?_
          refine px_blkif (c := v11 = (s8.1 36)) (t := 20) (e := 18) (L' := [some (.ref 28), some (.int a0), none]) (S' := []) (w' := px_w K s8 t9) (q := []) 3 hM rfl trivial (fun hc13 => ?_) (fun hc13 => ?_)
          · rw [if_pos hc13] at h
            refine px_blk (i' := 23) (L' := [some (.ref 28), some (.int a0), none]) (S' := [.int (2 : Int32), .int a0, .ref 28]) (w' := px_w K s8 t9) (q := []) 3 hM rfl trivial ?_
            rcases px_bi_some h with ⟨v17, s14, t15, hk16, h⟩ | ⟨x18, s14, t15, hk16, h⟩
            · refine px_E_call hM rfl rfl rfl rfl (px_E_mono (by decide) (e_M_word_28 K N a0 (2 : Int32) s8 t9 _ hk16)) ?_
              refine px_blkif (c := v17 < (1 : Int32)) (t := 61) (e := 28) (L' := [some (.ref 28), some (.int a0), some (.int v17)]) (S' := []) (w' := px_w K s14 t15) (q := []) 4 hM rfl trivial (fun hc19 => ?_) (fun hc19 => ?_)
              · rw [if_pos hc19] at h
                refine px_blk (i' := 62) (L' := [some (.ref 28), some (.int a0), some (.int v17)]) (S' := [.int (0 : Int32)]) (w' := px_w K s14 t15) (q := []) 1 hM rfl trivial ?_
                cases h
                exact px_E_ret hM rfl rfl rfl (show (0 : Int32) = 0 ∨ (0 : Int32) = 1 from Or.inl rfl)
              · rw [if_neg hc19] at h
                refine px_blkif (c := (12 : Int32) < v17) (t := 61) (e := 31) (L' := [some (.ref 28), some (.int a0), some (.int v17)]) (S' := []) (w' := px_w K s14 t15) (q := []) 3 hM rfl trivial (fun hc20 => ?_) (fun hc20 => ?_)
                · rw [if_pos hc20] at h
                  refine px_blk (i' := 62) (L' := [some (.ref 28), some (.int a0), some (.int v17)]) (S' := [.int (0 : Int32)]) (w' := px_w K s14 t15) (q := []) 1 hM rfl trivial ?_
                  cases h
                  exact px_E_ret hM rfl rfl rfl (show (0 : Int32) = 0 ∨ (0 : Int32) = 1 from Or.inl rfl)
                · rw [if_neg hc20] at h
                  refine px_blkif (c := (28 : Int32) < ((a0 + v17) + (1 : Int32))) (t := 61) (e := 38) (L' := [some (.ref 28), some (.int a0), some (.int v17)]) (S' := []) (w' := px_w K s14 t15) (q := []) 7 hM rfl trivial (fun hc21 => ?_) (fun hc21 => ?_)
                  · rw [if_pos hc21] at h
                    refine px_blk (i' := 62) (L' := [some (.ref 28), some (.int a0), some (.int v17)]) (S' := [.int (0 : Int32)]) (w' := px_w K s14 t15) (q := []) 1 hM rfl trivial ?_
                    cases h
                    exact px_E_ret hM rfl rfl rfl (show (0 : Int32) = 0 ∨ (0 : Int32) = 1 from Or.inl rfl)
                  · rw [if_neg hc21] at h
                    refine px_blk (i' := 45) (L' := [some (.ref 28), some (.int a0), some (.int v17)]) (S' := [.int (0 : Int32), .int ((a0 + v17) + (1 : Int32)), .ref 28]) (w' := px_w K s14 t15) (q := []) 7 hM rfl trivial ?_
                    rcases px_bi_some h with ⟨v25, s22, t23, hk24, h⟩ | ⟨x26, s22, t23, hk24, h⟩
                    · refine px_E_call hM rfl rfl rfl rfl (px_E_mono (by decide) (e_M_word_28 K N ((a0 + v17) + (1 : Int32)) (0 : Int32) s14 t15 _ hk24)) ?_
                      refine px_blkif (c := ¬ v25 = (2 : Int32)) (t := 61) (e := 48) (L' := [some (.ref 28), some (.int a0), some (.int v17)]) (S' := []) (w' := px_w K s22 t23) (q := []) 2 hM rfl trivial (fun hc27 => ?_) (fun hc27 => ?_)
                      · rw [if_pos hc27] at h
                        refine px_blk (i' := 62) (L' := [some (.ref 28), some (.int a0), some (.int v17)]) (S' := [.int (0 : Int32)]) (w' := px_w K s22 t23) (q := []) 1 hM rfl trivial ?_
                        cases h
                        exact px_E_ret hM rfl rfl rfl (show (0 : Int32) = 0 ∨ (0 : Int32) = 1 from Or.inl rfl)
                      · rw [if_neg hc27] at h
                        refine px_blk (i' := 55) (L' := [some (.ref 28), some (.int a0), some (.int v17)]) (S' := [.int (1 : Int32), .int ((a0 + v17) + (1 : Int32)), .ref 28]) (w' := px_w K s22 t23) (q := []) 7 hM rfl trivial ?_
                        rcases px_bi_some h with ⟨v31, s28, t29, hk30, h⟩ | ⟨x32, s28, t29, hk30, h⟩
                        · refine px_E_call hM rfl rfl rfl rfl (px_E_mono (by decide) (e_M_word_28 K N ((a0 + v17) + (1 : Int32)) (1 : Int32) s22 t23 _ hk30)) ?_
                          refine px_blk (i' := 58) (L' := [some (.ref 28), some (.int a0), some (.int v17)]) (S' := [.int (s28.1 36), .int v31]) (w' := px_w K s28 t29) (q := []) 2 hM rfl trivial ?_
                          have hK : px_E px_ET px_P 2 103 62 [some (.ref 28), some (.int a0), some (.int v17)] [.int (if ¬ v31 = (s28.1 36) then (0 : Int32) else (1 : Int32))] (px_w K s28 t29) r.1 (px_w K r.2.1 r.2.2) := by
                            cases h
                            exact px_E_ret hM rfl rfl rfl (show (if ¬ v31 = (s28.1 36) then (0 : Int32) else (1 : Int32)) = 0 ∨ (if ¬ v31 = (s28.1 36) then (0 : Int32) else (1 : Int32)) = 1 from (by split <;> simp))
                          clear h
                          refine px_blkif (c := ¬ v31 = (s28.1 36)) (t := 61) (e := 59) (L' := [some (.ref 28), some (.int a0), some (.int v17)]) (S' := []) (w' := px_w K s28 t29) (q := []) 1 hM rfl trivial (fun hc33 => ?_) (fun hc33 => ?_)
                          · rw [if_pos hc33] at hK
                            exact px_blk (i' := 62) (L' := [some (.ref 28), some (.int a0), some (.int v17)]) (S' := [.int (0 : Int32)]) (w' := px_w K s28 t29) (q := []) 1 hM rfl trivial hK
                          · rw [if_neg hc33] at hK
                            exact px_blk (i' := 62) (L' := [some (.ref 28), some (.int a0), some (.int v17)]) (S' := [.int (1 : Int32)]) (w' := px_w K s28 t29) (q := []) 2 hM rfl trivial hK
                        · cases h
                    · cases h
            · cases h
          · rw [if_neg hc13] at h
            refine px_blk (i' := 19) (L' := [some (.ref 28), some (.int a0), none]) (S' := [.int (0 : Int32)]) (w' := px_w K s8 t9) (q := []) 1 hM rfl trivial ?_
            cases h
            exact px_E_ret hM rfl rfl rfl (show (0 : Int32) = 0 ∨ (0 : Int32) = 1 from Or.inl rfl)
        · cases h
    · cases h
noncomputable def l_M_loadsTree_28_17 (K : px_K) (N : Nat) (n : Nat) (u1 : Int32) (m2 : Int32) (s : px_S) (t : px_W) : Option px_LO := match n with
  | 0 => none
  | n + 1 => (if (16 : Int32) ≤ m2 then (some (.inl (34, [], s, t))) else (px_bi (f_M_wordThere_28 K N u1 m2 s t) (fun v5 s2 t3 => (px_gd (vp_in (((16 : Int32) * u1) + m2) (K.2.2 39)) (px_let (sA s2 39 (((16 : Int32) * u1) + m2).toNatClampNeg v5) (fun s8 => (l_M_loadsTree_28_17 K N n u1 (m2 + (1 : Int32)) s8 t3))))) (fun x6 s2 t3 => none)))
def a_l_M_loadsTree_28_17 (K : px_K) (u1 : Int32) (z : px_LO) (o : Option Value ⊕ Nat) (w2 : px_W) : Prop := match z with
  | .inr (o', s', t') => o = o' ∧ w2 = px_w K s' t'
  | .inl (34, [], s', t') => px_E px_ET px_P 4 102 34 [some (.ref 28), some (.int u1), none, none, none, none, none] [] (px_w K s' t') o w2
  | _ => False
noncomputable def l_M_loadsTree_28_2 (K : px_K) (N : Nat) (n : Nat) (m1 : Int32) (s : px_S) (t : px_W) : Option px_LO := match n with
  | 0 => none
  | n + 1 => (if (106 : Int32) ≤ m1 then (some (.inl (36, [], s, t))) else (px_gd (vp_in m1 (K.2.2 41)) (px_let (sA s 41 m1.toNatClampNeg (0 : Int32)) (fun s3 => (px_gd (vp_in m1 (K.2.2 42)) (px_let (sA s3 42 m1.toNatClampNeg (0 : Int32)) (fun s6 => (px_lp (l_M_loadsTree_28_17 K N N m1 (0 : Int32) s6 t) (fun i8 vs9 s10 t11 => (if i8 = 34 then (px_v0 vs9 (l_M_loadsTree_28_2 K N n (m1 + (1 : Int32)) s10 t11)) else none)) (fun z13 => some (.inr z13))))))))))
def a_l_M_loadsTree_28_2 (K : px_K) (z : px_LO) (o : Option Value ⊕ Nat) (w2 : px_W) : Prop := match z with
  | .inr (o', s', t') => o = o' ∧ w2 = px_w K s' t'
  | .inl (36, [], s', t') => px_E px_ET px_P 4 102 36 [some (.ref 28), none, none, none, none, none, none] [] (px_w K s' t') o w2
  | _ => False
noncomputable def l_M_loadsTree_28_81 (K : px_K) (N : Nat) (n : Nat) (u1 : Int32) (u2 : Int32) (u3 : Int32) (u4 : Int32) (u5 : Int32) (m6 : Int32) (s : px_S) (t : px_W) : Option px_LO := match n with
  | 0 => none
  | n + 1 => (if (16 : Int32) ≤ m6 then (some (.inl (108, [], s, t))) else (if ¬ m6 = 0 then (px_bi (f_M_word_28 K N ((u1 + (1 : Int32)) + u3) m6 s t) (fun v6 s3 t4 => (px_gd (vp_in (((16 : Int32) * u4) + m6) (K.2.2 40)) (px_let (sA s3 40 (((16 : Int32) * u4) + m6).toNatClampNeg v6) (fun s9 => (l_M_loadsTree_28_81 K N n u1 u2 u3 u4 u5 (m6 + (1 : Int32)) s9 t4))))) (fun x7 s3 t4 => none)) else (if u5 ≤ 0 then (px_bi (f_M_word_28 K N ((u1 + (1 : Int32)) + u3) m6 s t) (fun v15 s12 t13 => (px_gd (vp_in (((16 : Int32) * u4) + m6) (K.2.2 40)) (px_let (sA s12 40 (((16 : Int32) * u4) + m6).toNatClampNeg v15) (fun s18 => (l_M_loadsTree_28_81 K N n u1 u2 u3 u4 u5 (m6 + (1 : Int32)) s18 t13))))) (fun x16 s12 t13 => none)) else (px_gd (vp_in (((16 : Int32) * u4) + m6) (K.2.2 40)) (px_let (sA s 40 (((16 : Int32) * u4) + m6).toNatClampNeg u5) (fun s21 => (l_M_loadsTree_28_81 K N n u1 u2 u3 u4 u5 (m6 + (1 : Int32)) s21 t)))))))
def a_l_M_loadsTree_28_81 (K : px_K) (u1 : Int32) (u2 : Int32) (u3 : Int32) (u4 : Int32) (u5 : Int32) (z : px_LO) (o : Option Value ⊕ Nat) (w2 : px_W) : Prop := match z with
  | .inr (o', s', t') => o = o' ∧ w2 = px_w K s' t'
  | .inl (108, [], s', t') => px_E px_ET px_P 4 102 108 [some (.ref 28), some (.int u1), some (.int u2), some (.int u3), some (.int u4), none, none] [] (px_w K s' t') o w2
  | _ => False
noncomputable def l_M_loadsTree_28_58 (K : px_K) (N : Nat) (n : Nat) (u1 : Int32) (u2 : Int32) (m3 : Int32) (s : px_S) (t : px_W) : Option px_LO := match n with
  | 0 => none
  | n + 1 => (if u2 ≤ m3 then (some (.inl (115, [], s, t))) else (px_bi (f_M_word_28 K N u1 ((3 : Int32) + m3) s t) (fun v5 s2 t3 => (px_bi (f_M_word_28 K N u1 (15 : Int32) s2 t3) (fun v10 s7 t8 => (px_let ((v10 >>> (((2 : Int32) * m3) &&& 31)) &&& (3 : Int32)) (fun v12 => (px_lp (l_M_loadsTree_28_81 K N N u1 u2 m3 v5 v12 (0 : Int32) s7 t8) (fun i14 vs15 s16 t17 => (if i14 = 108 then (px_v0 vs15 (px_gd (vp_in v5 (K.2.2 42)) (px_let (sA s16 42 v5.toNatClampNeg (1 : Int32)) (fun s22 => (l_M_loadsTree_28_58 K N n u1 u2 (m3 + (1 : Int32)) s22 t17))))) else none)) (fun z19 => some (.inr z19)))))) (fun x11 s7 t8 => none))) (fun x6 s2 t3 => none)))
def a_l_M_loadsTree_28_58 (K : px_K) (u1 : Int32) (u2 : Int32) (z : px_LO) (o : Option Value ⊕ Nat) (w2 : px_W) : Prop := match z with
  | .inr (o', s', t') => o = o' ∧ w2 = px_w K s' t'
  | .inl (115, [], s', t') => px_E px_ET px_P 4 102 115 [some (.ref 28), some (.int u1), some (.int u2), none, none, none, none] [] (px_w K s' t') o w2
  | _ => False
noncomputable def l_M_loadsTree_28_47 (K : px_K) (N : Nat) (n : Nat) (m1 : Int32) (s : px_S) (t : px_W) : Option px_LO := match n with
  | 0 => none
  | n + 1 => (px_bi (f_M_isCommit_28 K N m1 s t) (fun v4 s1 t2 => (if v4 = 0 then (some (.inl (128, [], s1, t2))) else (px_bi (f_M_word_28 K N m1 (2 : Int32) s1 t2) (fun v10 s7 t8 => (px_lp (l_M_loadsTree_28_58 K N N m1 v10 (0 : Int32) s7 t8) (fun i12 vs13 s14 t15 => (if i12 = 115 then (px_v0 vs13 (px_let (m1 + (v10 + (2 : Int32))) (fun v19 => (px_let (sR s14 36 ((s14.1 36) + (1 : Int32))) (fun s21 => (l_M_loadsTree_28_47 K N n v19 s21 t15)))))) else none)) (fun z17 => some (.inr z17)))) (fun x11 s7 t8 => none)))) (fun x5 s1 t2 => none))
def a_l_M_loadsTree_28_47 (K : px_K) (z : px_LO) (o : Option Value ⊕ Nat) (w2 : px_W) : Prop := match z with
  | .inr (o', s', t') => o = o' ∧ w2 = px_w K s' t'
  | .inl (128, [], s', t') => px_E px_ET px_P 4 102 128 [some (.ref 28), none, none, none, none, none, none] [] (px_w K s' t') o w2
  | _ => False
noncomputable def l_M_loadsTree_28_135 (K : px_K) (N : Nat) (n : Nat) (u2 : Int32) (m3 : Int32) (s : px_S) (t : px_W) : Option px_LO := match n with
  | 0 => none
  | n + 1 => (if (16 : Int32) ≤ m3 then (some (.inl (161, [], s, t))) else (px_gd (vp_in u2 (K.2.2 42)) (if ((s.2.2.1 42) u2.toNatClampNeg) = 0 then (some (.inl (161, [], s, t))) else (px_gd ((vp_in (((16 : Int32) * u2) + m3) (K.2.2 40)) ∧ (vp_in (((16 : Int32) * u2) + m3) (K.2.2 39))) (px_let (sA s 39 (((16 : Int32) * u2) + m3).toNatClampNeg ((s.2.2.1 40) (((16 : Int32) * u2) + m3).toNatClampNeg)) (fun s6 => (l_M_loadsTree_28_135 K N n u2 (m3 + (1 : Int32)) s6 t)))))))
def a_l_M_loadsTree_28_135 (K : px_K) (u2 : Int32) (z : px_LO) (o : Option Value ⊕ Nat) (w2 : px_W) : Prop := match z with
  | .inr (o', s', t') => o = o' ∧ w2 = px_w K s' t'
  | .inl (161, [], s', t') => px_E px_ET px_P 4 102 161 [some (.ref 28), none, some (.int u2), none, none, none, none] [] (px_w K s' t') o w2
  | _ => False
noncomputable def l_M_loadsTree_28_130 (K : px_K) (N : Nat) (n : Nat) (m2 : Int32) (s : px_S) (t : px_W) : Option px_LO := match n with
  | 0 => none
  | n + 1 => (if (106 : Int32) ≤ m2 then (some (.inl (163, [], s, t))) else (px_lp (l_M_loadsTree_28_135 K N N m2 (0 : Int32) s t) (fun i2 vs3 s4 t5 => (if i2 = 161 then (px_v0 vs3 (l_M_loadsTree_28_130 K N n (m2 + (1 : Int32)) s4 t5)) else none)) (fun z7 => some (.inr z7))))
def a_l_M_loadsTree_28_130 (K : px_K) (z : px_LO) (o : Option Value ⊕ Nat) (w2 : px_W) : Prop := match z with
  | .inr (o', s', t') => o = o' ∧ w2 = px_w K s' t'
  | .inl (163, [], s', t') => px_E px_ET px_P 4 102 163 [none, none, none, none, none, none, none] [] (px_w K s' t') o w2
  | _ => False
set_option maxRecDepth 100000 in
theorem e_l_M_loadsTree_28_17 (K : px_K) (N : Nat) (u1 : Int32) : ∀ (n : Nat) (m2 : Int32) (s : px_S) (t : px_W) (z : px_LO), l_M_loadsTree_28_17 K N n u1 m2 s t = some z → ∀ (o : Option Value ⊕ Nat) (w2 : px_W), a_l_M_loadsTree_28_17 K u1 z o w2 → px_E px_ET px_P 4 102 17 [some (.ref 28), some (.int u1), some (.int m2), none, none, none, none] [] (px_w K s t) o w2 := by
  have hM : px_P[102]? = some pm_M_loadsTree := rfl
  intro n
  induction n with
  | zero => intro m2 s t z h; cases h
  | succ n ih =>
    intro m2 s t z h o w2 ha
    unfold l_M_loadsTree_28_17 at h
    refine px_blkif (c := (16 : Int32) ≤ m2) (t := 34) (e := 20) (L' := [some (.ref 28), some (.int u1), some (.int m2), none, none, none, none]) (S' := []) (w' := px_w K s t) (q := []) 3 hM rfl trivial (fun hc1 => ?_) (fun hc1 => ?_)
    · rw [if_pos hc1] at h
      cases h
      exact px_E_le (px_leC_L _ _ (by simp [px_leC, px_le1, Value.category])) ha
    · rw [if_neg hc1] at h
      refine px_blk (i' := 30) (L' := [some (.ref 28), some (.int u1), some (.int m2), none, none, none, none]) (S' := [.int m2, .int u1, .ref 28, .int (((16 : Int32) * u1) + m2), .ref 39]) (w' := px_w K s t) (q := []) 10 hM rfl trivial ?_
      rcases px_bi_some h with ⟨v5, s2, t3, hk4, h⟩ | ⟨x6, s2, t3, hk4, h⟩
      · refine px_E_call hM rfl rfl rfl rfl (px_E_mono (by decide) (e_M_wordThere_28 K N u1 m2 s t _ hk4)) ?_
        obtain ⟨hq7, h⟩ := px_gd_some h
        refine px_blk (i' := 32) (L' := [some (.ref 28), some (.int u1), some (.int m2), none, none, none, none]) (S' := []) (w' := px_w K (sA s2 39 (((16 : Int32) * u1) + m2).toNatClampNeg v5) t3) (q := [vp_in (((16 : Int32) * u1) + m2) (K.2.2 39)]) 1 hM rfl (show vp_in (((16 : Int32) * u1) + m2) (K.2.2 39) from hq7) ?_
        obtain ⟨s8, hs9, h⟩ := px_let_some h
        rw [← hs9]
        refine px_blk (i' := 17) (L' := [some (.ref 28), some (.int u1), some (.int (m2 + (1 : Int32))), none, none, none, none]) (S' := []) (w' := px_w K s8 t3) (q := []) 2 hM rfl trivial ?_
        exact ih (m2 + (1 : Int32)) s8 t3 z h o w2 ha
      · cases h
set_option maxRecDepth 100000 in
theorem e_l_M_loadsTree_28_2 (K : px_K) (N : Nat) : ∀ (n : Nat) (m1 : Int32) (s : px_S) (t : px_W) (z : px_LO), l_M_loadsTree_28_2 K N n m1 s t = some z → ∀ (o : Option Value ⊕ Nat) (w2 : px_W), a_l_M_loadsTree_28_2 K z o w2 → px_E px_ET px_P 4 102 2 [some (.ref 28), some (.int m1), none, none, none, none, none] [] (px_w K s t) o w2 := by
  have hM : px_P[102]? = some pm_M_loadsTree := rfl
  intro n
  induction n with
  | zero => intro m1 s t z h; cases h
  | succ n ih =>
    intro m1 s t z h o w2 ha
    unfold l_M_loadsTree_28_2 at h
    refine px_blkif (c := (106 : Int32) ≤ m1) (t := 36) (e := 5) (L' := [some (.ref 28), some (.int m1), none, none, none, none, none]) (S' := []) (w' := px_w K s t) (q := []) 3 hM rfl trivial (fun hc1 => ?_) (fun hc1 => ?_)
    · rw [if_pos hc1] at h
      cases h
      exact px_E_le (px_leC_L _ _ (by simp [px_leC, px_le1, Value.category])) ha
    · rw [if_neg hc1] at h
      obtain ⟨hq2, h⟩ := px_gd_some h
      refine px_blk (i' := 10) (L' := [some (.ref 28), some (.int m1), none, none, none, none, none]) (S' := []) (w' := px_w K (sA s 41 m1.toNatClampNeg (0 : Int32)) t) (q := [vp_in m1 (K.2.2 41), (0 : Int32) = 0 ∨ (0 : Int32) = 1]) 5 hM rfl (show (vp_in m1 (K.2.2 41)) ∧ ((0 : Int32) = 0 ∨ (0 : Int32) = 1) from ⟨hq2, Or.inl rfl⟩) ?_
      obtain ⟨s3, hs4, h⟩ := px_let_some h
      rw [← hs4]
      obtain ⟨hq5, h⟩ := px_gd_some h
      refine px_blk (i' := 15) (L' := [some (.ref 28), some (.int m1), none, none, none, none, none]) (S' := []) (w' := px_w K (sA s3 42 m1.toNatClampNeg (0 : Int32)) t) (q := [vp_in m1 (K.2.2 42), (0 : Int32) = 0 ∨ (0 : Int32) = 1]) 5 hM rfl (show (vp_in m1 (K.2.2 42)) ∧ ((0 : Int32) = 0 ∨ (0 : Int32) = 1) from ⟨hq5, Or.inl rfl⟩) ?_
      obtain ⟨s6, hs7, h⟩ := px_let_some h
      rw [← hs7]
      refine px_blk (i' := 17) (L' := [some (.ref 28), some (.int m1), some (.int (0 : Int32)), none, none, none, none]) (S' := []) (w' := px_w K s6 t) (q := []) 2 hM rfl trivial ?_
      rcases px_lp_some h with ⟨i8, vs9, s10, t11, hl12, h⟩ | ⟨z13, hl12, h⟩
      · by_cases hi14 : i8 = 34
        · subst hi14
          rw [if_pos rfl] at h
          have h9 := px_v0_some h
          clear h
          obtain ⟨rfl, h⟩ := h9
          refine e_l_M_loadsTree_28_17 K N m1 N (0 : Int32) s6 t _ hl12 _ _ ?_
          show px_E px_ET px_P 4 102 34 [some (.ref 28), some (.int m1), none, none, none, none, none] [] (px_w K s10 t11) _ _
          refine px_blk (i' := 2) (L' := [some (.ref 28), some (.int (m1 + (1 : Int32))), none, none, none, none, none]) (S' := []) (w' := px_w K s10 t11) (q := []) 2 hM rfl trivial ?_
          exact ih (m1 + (1 : Int32)) s10 t11 z h o w2 ha
        · rw [if_neg hi14] at h
          cases h
      · cases h
        obtain ⟨rfl, rfl⟩ := ha
        exact e_l_M_loadsTree_28_17 K N m1 N (0 : Int32) s6 t _ hl12 _ _ ⟨rfl, rfl⟩
set_option maxRecDepth 100000 in
theorem e_l_M_loadsTree_28_81 (K : px_K) (N : Nat) (u1 : Int32) (u2 : Int32) (u3 : Int32) (u4 : Int32) (u5 : Int32) : ∀ (n : Nat) (m6 : Int32) (s : px_S) (t : px_W) (z : px_LO), l_M_loadsTree_28_81 K N n u1 u2 u3 u4 u5 m6 s t = some z → ∀ (o : Option Value ⊕ Nat) (w2 : px_W), a_l_M_loadsTree_28_81 K u1 u2 u3 u4 u5 z o w2 → px_E px_ET px_P 4 102 81 [some (.ref 28), some (.int u1), some (.int u2), some (.int u3), some (.int u4), some (.int u5), some (.int m6)] [] (px_w K s t) o w2 := by
  have hM : px_P[102]? = some pm_M_loadsTree := rfl
  intro n
  induction n with
  | zero => intro m6 s t z h; cases h
  | succ n ih =>
    intro m6 s t z h o w2 ha
    unfold l_M_loadsTree_28_81 at h
    refine px_blkif (c := (16 : Int32) ≤ m6) (t := 108) (e := 84) (L' := [some (.ref 28), some (.int u1), some (.int u2), some (.int u3), some (.int u4), some (.int u5), some (.int m6)]) (S' := []) (w' := px_w K s t) (q := []) 3 hM rfl trivial (fun hc1 => ?_) (fun hc1 => ?_)
    · rw [if_pos hc1] at h
      cases h
      exact px_E_le (px_leC_L _ _ (by simp [px_leC, px_le1, Value.category])) ha
    · rw [if_neg hc1] at h
      refine px_blkif (c := ¬ m6 = 0) (t := 97) (e := 93) (L' := [some (.ref 28), some (.int u1), some (.int u2), some (.int u3), some (.int u4), some (.int u5), some (.int m6)]) (S' := [.int (((16 : Int32) * u4) + m6), .ref 40]) (w' := px_w K s t) (q := []) 9 hM rfl trivial (fun hc2 => ?_) (fun hc2 => ?_)
      · rw [if_pos hc2] at h
        refine px_blk (i' := 104) (L' := [some (.ref 28), some (.int u1), some (.int u2), some (.int u3), some (.int u4), some (.int u5), some (.int m6)]) (S' := [.int m6, .int ((u1 + (1 : Int32)) + u3), .ref 28, .int (((16 : Int32) * u4) + m6), .ref 40]) (w' := px_w K s t) (q := []) 7 hM rfl trivial ?_
        rcases px_bi_some h with ⟨v6, s3, t4, hk5, h⟩ | ⟨x7, s3, t4, hk5, h⟩
        · refine px_E_call hM rfl rfl rfl rfl (px_E_mono (by decide) (e_M_word_28 K N ((u1 + (1 : Int32)) + u3) m6 s t _ hk5)) ?_
          obtain ⟨hq8, h⟩ := px_gd_some h
          refine px_blk (i' := 106) (L' := [some (.ref 28), some (.int u1), some (.int u2), some (.int u3), some (.int u4), some (.int u5), some (.int m6)]) (S' := []) (w' := px_w K (sA s3 40 (((16 : Int32) * u4) + m6).toNatClampNeg v6) t4) (q := [vp_in (((16 : Int32) * u4) + m6) (K.2.2 40)]) 1 hM rfl (show vp_in (((16 : Int32) * u4) + m6) (K.2.2 40) from hq8) ?_
          obtain ⟨s9, hs10, h⟩ := px_let_some h
          rw [← hs10]
          refine px_blk (i' := 81) (L' := [some (.ref 28), some (.int u1), some (.int u2), some (.int u3), some (.int u4), some (.int u5), some (.int (m6 + (1 : Int32)))]) (S' := []) (w' := px_w K s9 t4) (q := []) 2 hM rfl trivial ?_
          exact ih (m6 + (1 : Int32)) s9 t4 z h o w2 ha
        · cases h
      · rw [if_neg hc2] at h
        refine px_blkif (c := u5 ≤ 0) (t := 97) (e := 95) (L' := [some (.ref 28), some (.int u1), some (.int u2), some (.int u3), some (.int u4), some (.int u5), some (.int m6)]) (S' := [.int (((16 : Int32) * u4) + m6), .ref 40]) (w' := px_w K s t) (q := []) 2 hM rfl trivial (fun hc11 => ?_) (fun hc11 => ?_)
        · rw [if_pos hc11] at h
          refine px_blk (i' := 104) (L' := [some (.ref 28), some (.int u1), some (.int u2), some (.int u3), some (.int u4), some (.int u5), some (.int m6)]) (S' := [.int m6, .int ((u1 + (1 : Int32)) + u3), .ref 28, .int (((16 : Int32) * u4) + m6), .ref 40]) (w' := px_w K s t) (q := []) 7 hM rfl trivial ?_
          rcases px_bi_some h with ⟨v15, s12, t13, hk14, h⟩ | ⟨x16, s12, t13, hk14, h⟩
          · refine px_E_call hM rfl rfl rfl rfl (px_E_mono (by decide) (e_M_word_28 K N ((u1 + (1 : Int32)) + u3) m6 s t _ hk14)) ?_
            obtain ⟨hq17, h⟩ := px_gd_some h
            refine px_blk (i' := 106) (L' := [some (.ref 28), some (.int u1), some (.int u2), some (.int u3), some (.int u4), some (.int u5), some (.int m6)]) (S' := []) (w' := px_w K (sA s12 40 (((16 : Int32) * u4) + m6).toNatClampNeg v15) t13) (q := [vp_in (((16 : Int32) * u4) + m6) (K.2.2 40)]) 1 hM rfl (show vp_in (((16 : Int32) * u4) + m6) (K.2.2 40) from hq17) ?_
            obtain ⟨s18, hs19, h⟩ := px_let_some h
            rw [← hs19]
            refine px_blk (i' := 81) (L' := [some (.ref 28), some (.int u1), some (.int u2), some (.int u3), some (.int u4), some (.int u5), some (.int (m6 + (1 : Int32)))]) (S' := []) (w' := px_w K s18 t13) (q := []) 2 hM rfl trivial ?_
            exact ih (m6 + (1 : Int32)) s18 t13 z h o w2 ha
          · cases h
        · rw [if_neg hc11] at h
          obtain ⟨hq20, h⟩ := px_gd_some h
          refine px_blk (i' := 106) (L' := [some (.ref 28), some (.int u1), some (.int u2), some (.int u3), some (.int u4), some (.int u5), some (.int m6)]) (S' := []) (w' := px_w K (sA s 40 (((16 : Int32) * u4) + m6).toNatClampNeg u5) t) (q := [vp_in (((16 : Int32) * u4) + m6) (K.2.2 40)]) 3 hM rfl (show vp_in (((16 : Int32) * u4) + m6) (K.2.2 40) from hq20) ?_
          obtain ⟨s21, hs22, h⟩ := px_let_some h
          rw [← hs22]
          refine px_blk (i' := 81) (L' := [some (.ref 28), some (.int u1), some (.int u2), some (.int u3), some (.int u4), some (.int u5), some (.int (m6 + (1 : Int32)))]) (S' := []) (w' := px_w K s21 t) (q := []) 2 hM rfl trivial ?_
          exact ih (m6 + (1 : Int32)) s21 t z h o w2 ha
set_option maxRecDepth 100000 in
theorem e_l_M_loadsTree_28_58 (K : px_K) (N : Nat) (u1 : Int32) (u2 : Int32) : ∀ (n : Nat) (m3 : Int32) (s : px_S) (t : px_W) (z : px_LO), l_M_loadsTree_28_58 K N n u1 u2 m3 s t = some z → ∀ (o : Option Value ⊕ Nat) (w2 : px_W), a_l_M_loadsTree_28_58 K u1 u2 z o w2 → px_E px_ET px_P 4 102 58 [some (.ref 28), some (.int u1), some (.int u2), some (.int m3), none, none, none] [] (px_w K s t) o w2 := by
  have hM : px_P[102]? = some pm_M_loadsTree := rfl
  intro n
  induction n with
  | zero => intro m3 s t z h; cases h
  | succ n ih =>
    intro m3 s t z h o w2 ha
    unfold l_M_loadsTree_28_58 at h
    refine px_blkif (c := u2 ≤ m3) (t := 115) (e := 61) (L' := [some (.ref 28), some (.int u1), some (.int u2), some (.int m3), none, none, none]) (S' := []) (w' := px_w K s t) (q := []) 3 hM rfl trivial (fun hc1 => ?_) (fun hc1 => ?_)
    · rw [if_pos hc1] at h
      cases h
      exact px_E_le (px_leC_L _ _ (by simp [px_leC, px_le1, Value.category])) ha
    · rw [if_neg hc1] at h
      refine px_blk (i' := 66) (L' := [some (.ref 28), some (.int u1), some (.int u2), some (.int m3), none, none, none]) (S' := [.int ((3 : Int32) + m3), .int u1, .ref 28]) (w' := px_w K s t) (q := []) 5 hM rfl trivial ?_
      rcases px_bi_some h with ⟨v5, s2, t3, hk4, h⟩ | ⟨x6, s2, t3, hk4, h⟩
      · refine px_E_call hM rfl rfl rfl rfl (px_E_mono (by decide) (e_M_word_28 K N u1 ((3 : Int32) + m3) s t _ hk4)) ?_
        refine px_blk (i' := 71) (L' := [some (.ref 28), some (.int u1), some (.int u2), some (.int m3), some (.int v5), none, none]) (S' := [.int (15 : Int32), .int u1, .ref 28]) (w' := px_w K s2 t3) (q := []) 4 hM rfl trivial ?_
        rcases px_bi_some h with ⟨v10, s7, t8, hk9, h⟩ | ⟨x11, s7, t8, hk9, h⟩
        · refine px_E_call hM rfl rfl rfl rfl (px_E_mono (by decide) (e_M_word_28 K N u1 (15 : Int32) s2 t3 _ hk9)) ?_
          refine px_blk (i' := 79) (L' := [some (.ref 28), some (.int u1), some (.int u2), some (.int m3), some (.int v5), some (.int ((v10 >>> (((2 : Int32) * m3) &&& 31)) &&& (3 : Int32))), none]) (S' := []) (w' := px_w K s7 t8) (q := []) 7 hM rfl trivial ?_
          obtain ⟨v12, hv13, h⟩ := px_let_some h
          rw [← hv13]
          refine px_blk (i' := 81) (L' := [some (.ref 28), some (.int u1), some (.int u2), some (.int m3), some (.int v5), some (.int v12), some (.int (0 : Int32))]) (S' := []) (w' := px_w K s7 t8) (q := []) 2 hM rfl trivial ?_
          rcases px_lp_some h with ⟨i14, vs15, s16, t17, hl18, h⟩ | ⟨z19, hl18, h⟩
          · by_cases hi20 : i14 = 108
            · subst hi20
              rw [if_pos rfl] at h
              have h9 := px_v0_some h
              clear h
              obtain ⟨rfl, h⟩ := h9
              refine e_l_M_loadsTree_28_81 K N u1 u2 m3 v5 v12 N (0 : Int32) s7 t8 _ hl18 _ _ ?_
              show px_E px_ET px_P 4 102 108 [some (.ref 28), some (.int u1), some (.int u2), some (.int m3), some (.int v5), none, none] [] (px_w K s16 t17) _ _
              obtain ⟨hq21, h⟩ := px_gd_some h
              refine px_blk (i' := 113) (L' := [some (.ref 28), some (.int u1), some (.int u2), some (.int m3), some (.int v5), none, none]) (S' := []) (w' := px_w K (sA s16 42 v5.toNatClampNeg (1 : Int32)) t17) (q := [vp_in v5 (K.2.2 42), (1 : Int32) = 0 ∨ (1 : Int32) = 1]) 5 hM rfl (show (vp_in v5 (K.2.2 42)) ∧ ((1 : Int32) = 0 ∨ (1 : Int32) = 1) from ⟨hq21, Or.inr rfl⟩) ?_
              obtain ⟨s22, hs23, h⟩ := px_let_some h
              rw [← hs23]
              refine px_blk (i' := 58) (L' := [some (.ref 28), some (.int u1), some (.int u2), some (.int (m3 + (1 : Int32))), some (.int v5), none, none]) (S' := []) (w' := px_w K s22 t17) (q := []) 2 hM rfl trivial ?_
              exact px_E_le (px_leC_L _ _ (by simp [px_leC, px_le1, Value.category])) (ih (m3 + (1 : Int32)) s22 t17 z h o w2 ha)
            · rw [if_neg hi20] at h
              cases h
          · cases h
            obtain ⟨rfl, rfl⟩ := ha
            exact e_l_M_loadsTree_28_81 K N u1 u2 m3 v5 v12 N (0 : Int32) s7 t8 _ hl18 _ _ ⟨rfl, rfl⟩
        · cases h
      · cases h
set_option maxRecDepth 100000 in
theorem e_l_M_loadsTree_28_47 (K : px_K) (N : Nat) : ∀ (n : Nat) (m1 : Int32) (s : px_S) (t : px_W) (z : px_LO), l_M_loadsTree_28_47 K N n m1 s t = some z → ∀ (o : Option Value ⊕ Nat) (w2 : px_W), a_l_M_loadsTree_28_47 K z o w2 → px_E px_ET px_P 4 102 47 [some (.ref 28), some (.int m1), none, none, none, none, none] [] (px_w K s t) o w2 := by
  have hM : px_P[102]? = some pm_M_loadsTree := rfl
  intro n
  induction n with
  | zero => intro m1 s t z h; cases h
  | succ n ih =>
    intro m1 s t z h o w2 ha
    unfold l_M_loadsTree_28_47 at h
    refine px_blk (i' := 49) (L' := [some (.ref 28), some (.int m1), none, none, none, none, none]) (S' := [.int m1, .ref 28]) (w' := px_w K s t) (q := []) 2 hM rfl trivial ?_
    rcases px_bi_some h with ⟨v4, s1, t2, hk3, h⟩ | ⟨x5, s1, t2, hk3, h⟩
    · refine px_E_call hM rfl rfl rfl rfl (px_E_mono (by decide) (e_M_isCommit_28 K N m1 s t _ hk3)) ?_
      refine px_blkif (c := v4 = 0) (t := 128) (e := 51) (L' := [some (.ref 28), some (.int m1), none, none, none, none, none]) (S' := []) (w' := px_w K s1 t2) (q := []) 1 hM rfl trivial (fun hc6 => ?_) (fun hc6 => ?_)
      · rw [if_pos hc6] at h
        cases h
        exact px_E_le (px_leC_L _ _ (by simp [px_leC, px_le1, Value.category])) ha
      · rw [if_neg hc6] at h
        refine px_blk (i' := 54) (L' := [some (.ref 28), some (.int m1), none, none, none, none, none]) (S' := [.int (2 : Int32), .int m1, .ref 28]) (w' := px_w K s1 t2) (q := []) 3 hM rfl trivial ?_
        rcases px_bi_some h with ⟨v10, s7, t8, hk9, h⟩ | ⟨x11, s7, t8, hk9, h⟩
        · refine px_E_call hM rfl rfl rfl rfl (px_E_mono (by decide) (e_M_word_28 K N m1 (2 : Int32) s1 t2 _ hk9)) ?_
          refine px_blk (i' := 58) (L' := [some (.ref 28), some (.int m1), some (.int v10), some (.int (0 : Int32)), none, none, none]) (S' := []) (w' := px_w K s7 t8) (q := []) 3 hM rfl trivial ?_
          rcases px_lp_some h with ⟨i12, vs13, s14, t15, hl16, h⟩ | ⟨z17, hl16, h⟩
          · by_cases hi18 : i12 = 115
            · subst hi18
              rw [if_pos rfl] at h
              have h9 := px_v0_some h
              clear h
              obtain ⟨rfl, h⟩ := h9
              refine e_l_M_loadsTree_28_58 K N m1 v10 N (0 : Int32) s7 t8 _ hl16 _ _ ?_
              show px_E px_ET px_P 4 102 115 [some (.ref 28), some (.int m1), some (.int v10), none, none, none, none] [] (px_w K s14 t15) _ _
              refine px_blk (i' := 121) (L' := [some (.ref 28), some (.int (m1 + (v10 + (2 : Int32)))), some (.int v10), none, none, none, none]) (S' := []) (w' := px_w K s14 t15) (q := []) 6 hM rfl trivial ?_
              obtain ⟨v19, hv20, h⟩ := px_let_some h
              rw [← hv20]
              refine px_blk (i' := 127) (L' := [some (.ref 28), some (.int v19), some (.int v10), none, none, none, none]) (S' := []) (w' := px_w K (sR s14 36 ((s14.1 36) + (1 : Int32))) t15) (q := []) 6 hM rfl trivial ?_
              obtain ⟨s21, hs22, h⟩ := px_let_some h
              rw [← hs22]
              refine px_blk (i' := 47) (L' := [some (.ref 28), some (.int v19), some (.int v10), none, none, none, none]) (S' := []) (w' := px_w K s21 t15) (q := []) 1 hM rfl trivial ?_
              exact px_E_le (px_leC_L _ _ (by simp [px_leC, px_le1, Value.category])) (ih v19 s21 t15 z h o w2 ha)
            · rw [if_neg hi18] at h
              cases h
          · cases h
            obtain ⟨rfl, rfl⟩ := ha
            exact e_l_M_loadsTree_28_58 K N m1 v10 N (0 : Int32) s7 t8 _ hl16 _ _ ⟨rfl, rfl⟩
        · cases h
    · cases h
set_option maxRecDepth 100000 in
theorem e_l_M_loadsTree_28_135 (K : px_K) (N : Nat) (u2 : Int32) : ∀ (n : Nat) (m3 : Int32) (s : px_S) (t : px_W) (z : px_LO), l_M_loadsTree_28_135 K N n u2 m3 s t = some z → ∀ (o : Option Value ⊕ Nat) (w2 : px_W), a_l_M_loadsTree_28_135 K u2 z o w2 → px_E px_ET px_P 4 102 135 [some (.ref 28), none, some (.int u2), some (.int m3), none, none, none] [] (px_w K s t) o w2 := by
  have hM : px_P[102]? = some pm_M_loadsTree := rfl
  intro n
  induction n with
  | zero => intro m3 s t z h; cases h
  | succ n ih =>
    intro m3 s t z h o w2 ha
    unfold l_M_loadsTree_28_135 at h
    refine px_blkif (c := (16 : Int32) ≤ m3) (t := 161) (e := 138) (L' := [some (.ref 28), none, some (.int u2), some (.int m3), none, none, none]) (S' := []) (w' := px_w K s t) (q := []) 3 hM rfl trivial (fun hc1 => ?_) (fun hc1 => ?_)
    · rw [if_pos hc1] at h
      cases h
      exact px_E_le (px_leC_L _ _ (by simp [px_leC, px_le1, Value.category])) ha
    · rw [if_neg hc1] at h
      obtain ⟨hq2, h⟩ := px_gd_some h
      refine px_blkif (c := ((s.2.2.1 42) u2.toNatClampNeg) = 0) (t := 161) (e := 143) (L' := [some (.ref 28), none, some (.int u2), some (.int m3), none, none, none]) (S' := []) (w' := px_w K s t) (q := [vp_in u2 (K.2.2 42)]) 5 hM rfl (show vp_in u2 (K.2.2 42) from hq2) (fun hc3 => ?_) (fun hc3 => ?_)
      · rw [if_pos hc3] at h
        cases h
        exact px_E_le (px_leC_L _ _ (by simp [px_leC, px_le1, Value.category])) ha
      · rw [if_neg hc3] at h
        refine px_blk (i' := 155) (L' := [some (.ref 28), none, some (.int u2), some (.int m3), none, none, none]) (S' := [.int ((16 : Int32) * u2), .ref 40, .int (((16 : Int32) * u2) + m3), .ref 39]) (w' := px_w K s t) (q := []) 12 hM rfl trivial ?_
        obtain ⟨⟨hq4, hq5⟩, h⟩ := px_gd_some h
        refine px_blk (i' := 159) (L' := [some (.ref 28), none, some (.int u2), some (.int m3), none, none, none]) (S' := []) (w' := px_w K (sA s 39 (((16 : Int32) * u2) + m3).toNatClampNeg ((s.2.2.1 40) (((16 : Int32) * u2) + m3).toNatClampNeg)) t) (q := [vp_in (((16 : Int32) * u2) + m3) (K.2.2 40), vp_in (((16 : Int32) * u2) + m3) (K.2.2 39)]) 4 hM rfl (show (vp_in (((16 : Int32) * u2) + m3) (K.2.2 40)) ∧ (vp_in (((16 : Int32) * u2) + m3) (K.2.2 39)) from ⟨hq4, hq5⟩) ?_
        obtain ⟨s6, hs7, h⟩ := px_let_some h
        rw [← hs7]
        refine px_blk (i' := 135) (L' := [some (.ref 28), none, some (.int u2), some (.int (m3 + (1 : Int32))), none, none, none]) (S' := []) (w' := px_w K s6 t) (q := []) 2 hM rfl trivial ?_
        exact ih (m3 + (1 : Int32)) s6 t z h o w2 ha
set_option maxRecDepth 100000 in
theorem e_l_M_loadsTree_28_130 (K : px_K) (N : Nat) : ∀ (n : Nat) (m2 : Int32) (s : px_S) (t : px_W) (z : px_LO), l_M_loadsTree_28_130 K N n m2 s t = some z → ∀ (o : Option Value ⊕ Nat) (w2 : px_W), a_l_M_loadsTree_28_130 K z o w2 → px_E px_ET px_P 4 102 130 [some (.ref 28), none, some (.int m2), none, none, none, none] [] (px_w K s t) o w2 := by
  have hM : px_P[102]? = some pm_M_loadsTree := rfl
  intro n
  induction n with
  | zero => intro m2 s t z h; cases h
  | succ n ih =>
    intro m2 s t z h o w2 ha
    unfold l_M_loadsTree_28_130 at h
    refine px_blkif (c := (106 : Int32) ≤ m2) (t := 163) (e := 133) (L' := [some (.ref 28), none, some (.int m2), none, none, none, none]) (S' := []) (w' := px_w K s t) (q := []) 3 hM rfl trivial (fun hc1 => ?_) (fun hc1 => ?_)
    · rw [if_pos hc1] at h
      cases h
      exact px_E_le (px_leC_L _ _ (by simp [px_leC, px_le1, Value.category])) ha
    · rw [if_neg hc1] at h
      refine px_blk (i' := 135) (L' := [some (.ref 28), none, some (.int m2), some (.int (0 : Int32)), none, none, none]) (S' := []) (w' := px_w K s t) (q := []) 2 hM rfl trivial ?_
      rcases px_lp_some h with ⟨i2, vs3, s4, t5, hl6, h⟩ | ⟨z7, hl6, h⟩
      · by_cases hi8 : i2 = 161
        · subst hi8
          rw [if_pos rfl] at h
          have h9 := px_v0_some h
          clear h
          obtain ⟨rfl, h⟩ := h9
          refine e_l_M_loadsTree_28_135 K N m2 N (0 : Int32) s t _ hl6 _ _ ?_
          show px_E px_ET px_P 4 102 161 [some (.ref 28), none, some (.int m2), none, none, none, none] [] (px_w K s4 t5) _ _
          refine px_blk (i' := 130) (L' := [some (.ref 28), none, some (.int (m2 + (1 : Int32))), none, none, none, none]) (S' := []) (w' := px_w K s4 t5) (q := []) 2 hM rfl trivial ?_
          exact ih (m2 + (1 : Int32)) s4 t5 z h o w2 ha
        · rw [if_neg hi8] at h
          cases h
      · cases h
        obtain ⟨rfl, rfl⟩ := ha
        exact e_l_M_loadsTree_28_135 K N m2 N (0 : Int32) s t _ hl6 _ _ ⟨rfl, rfl⟩
noncomputable def f_M_loadsTree_28 (K : px_K) (N : Nat) (s : px_S) (t : px_W) : Option px_Res :=
  (px_lp (l_M_loadsTree_28_2 K N N (0 : Int32) s t) (fun i1 vs2 s3 t4 => (if i1 = 36 then (px_v0 vs2 (px_bi (f_M_word_28 K N (0 : Int32) (0 : Int32) s3 t4) (fun v11 s8 t9 => (px_let (sR s8 36 v11) (fun s13 => (px_let (sR s13 37 (1 : Int32)) (fun s15 => (px_lp (l_M_loadsTree_28_47 K N N (1 : Int32) s15 t9) (fun i17 vs18 s19 t20 => (if i17 = 128 then (px_v0 vs18 (px_lp (l_M_loadsTree_28_130 K N N (0 : Int32) s19 t20) (fun i24 vs25 s26 t27 => (if i24 = 163 then (px_v0 vs25 (some (.inl none, s26, t27))) else none)) (fun z29 => some z29))) else none)) (fun z22 => some z22))))))) (fun x12 s8 t9 => none))) else none)) (fun z6 => some z6))
set_option maxRecDepth 100000 in
theorem e_M_loadsTree_28 (K : px_K) (N : Nat) (s : px_S) (t : px_W) (r : px_Res) (h : f_M_loadsTree_28 K N s t = some r) : px_E px_ET px_P 4 102 0 (px_ent 7 [.ref 28]) [] (px_w K s t) r.1 (px_w K r.2.1 r.2.2) := by
  have hM : px_P[102]? = some pm_M_loadsTree := rfl
  unfold f_M_loadsTree_28 at h
  refine px_blk (i' := 2) (L' := [some (.ref 28), some (.int (0 : Int32)), none, none, none, none, none]) (S' := []) (w' := px_w K s t) (q := []) 2 hM rfl trivial ?_
  rcases px_lp_some h with ⟨i1, vs2, s3, t4, hl5, h⟩ | ⟨z6, hl5, h⟩
  · by_cases hi7 : i1 = 36
    · subst hi7
      rw [if_pos rfl] at h
      have h9 := px_v0_some h
      clear h
      obtain ⟨rfl, h⟩ := h9
      refine e_l_M_loadsTree_28_2 K N N (0 : Int32) s t _ hl5 _ _ ?_
      show px_E px_ET px_P 4 102 36 [some (.ref 28), none, none, none, none, none, none] [] (px_w K s3 t4) _ _
      refine px_blk (i' := 40) (L' := [some (.ref 28), none, none, none, none, none, none]) (S' := [.int (0 : Int32), .int (0 : Int32), .ref 28, .ref 28]) (w' := px_w K s3 t4) (q := []) 4 hM rfl trivial ?_
      rcases px_bi_some h with ⟨v11, s8, t9, hk10, h⟩ | ⟨x12, s8, t9, hk10, h⟩
      · refine px_E_call hM rfl rfl rfl rfl (px_E_mono (by decide) (e_M_word_28 K N (0 : Int32) (0 : Int32) s3 t4 _ hk10)) ?_
        refine px_blk (i' := 42) (L' := [some (.ref 28), none, none, none, none, none, none]) (S' := []) (w' := px_w K (sR s8 36 v11) t9) (q := []) 1 hM rfl trivial ?_
        obtain ⟨s13, hs14, h⟩ := px_let_some h
        rw [← hs14]
        refine px_blk (i' := 45) (L' := [some (.ref 28), none, none, none, none, none, none]) (S' := []) (w' := px_w K (sR s13 37 (1 : Int32)) t9) (q := []) 3 hM rfl trivial ?_
        obtain ⟨s15, hs16, h⟩ := px_let_some h
        rw [← hs16]
        refine px_blk (i' := 47) (L' := [some (.ref 28), some (.int (1 : Int32)), none, none, none, none, none]) (S' := []) (w' := px_w K s15 t9) (q := []) 2 hM rfl trivial ?_
        rcases px_lp_some h with ⟨i17, vs18, s19, t20, hl21, h⟩ | ⟨z22, hl21, h⟩
        · by_cases hi23 : i17 = 128
          · subst hi23
            rw [if_pos rfl] at h
            have h9 := px_v0_some h
            clear h
            obtain ⟨rfl, h⟩ := h9
            refine e_l_M_loadsTree_28_47 K N N (1 : Int32) s15 t9 _ hl21 _ _ ?_
            show px_E px_ET px_P 4 102 128 [some (.ref 28), none, none, none, none, none, none] [] (px_w K s19 t20) _ _
            refine px_blk (i' := 130) (L' := [some (.ref 28), none, some (.int (0 : Int32)), none, none, none, none]) (S' := []) (w' := px_w K s19 t20) (q := []) 2 hM rfl trivial ?_
            rcases px_lp_some h with ⟨i24, vs25, s26, t27, hl28, h⟩ | ⟨z29, hl28, h⟩
            · by_cases hi30 : i24 = 163
              · subst hi30
                rw [if_pos rfl] at h
                have h9 := px_v0_some h
                clear h
                obtain ⟨rfl, h⟩ := h9
                refine e_l_M_loadsTree_28_130 K N N (0 : Int32) s19 t20 _ hl28 _ _ ?_
                show px_E px_ET px_P 4 102 163 [none, none, none, none, none, none, none] [] (px_w K s26 t27) _ _
                cases h
                exact px_E_ret hM rfl rfl rfl trivial
              · rw [if_neg hi30] at h
                cases h
            · cases h
              exact e_l_M_loadsTree_28_130 K N N (0 : Int32) s19 t20 _ hl28 _ _ ⟨rfl, rfl⟩
          · rw [if_neg hi23] at h
            cases h
        · cases h
          exact e_l_M_loadsTree_28_47 K N N (1 : Int32) s15 t9 _ hl21 _ _ ⟨rfl, rfl⟩
      · cases h
    · rw [if_neg hi7] at h
      cases h
  · cases h
    exact e_l_M_loadsTree_28_2 K N N (0 : Int32) s t _ hl5 _ _ ⟨rfl, rfl⟩
noncomputable def f_M_isRecord_28 (K : px_K) (N : Nat) (a0 : Int32) (s : px_S) (t : px_W) : Option px_Res :=
  (px_bi (f_M_read_28 K N (1 : Int32) ((((25 : Int32) * (s.1 33)) + (1 : Int32)) + a0) (0 : Int32) s t) (fun v4 s1 t2 => (some (.inl (some (.int (if ¬ v4 = (s1.1 34) then (0 : Int32) else (1 : Int32)))), s1, t2))) (fun x5 s1 t2 => none))
set_option maxRecDepth 100000 in
theorem e_M_isRecord_28 (K : px_K) (N : Nat) (a0 : Int32) (s : px_S) (t : px_W) (r : px_Res) (h : f_M_isRecord_28 K N a0 s t = some r) : px_E px_ET px_P 3 98 0 (px_ent 2 [.ref 28, .int a0]) [] (px_w K s t) r.1 (px_w K r.2.1 r.2.2) := by
  have hM : px_P[98]? = some pm_M_isRecord := rfl
  unfold f_M_isRecord_28 at h
  refine px_blk (i' := 11) (L' := [some (.ref 28), some (.int a0)]) (S' := [.int (0 : Int32), .int ((((25 : Int32) * (s.1 33)) + (1 : Int32)) + a0), .int (1 : Int32), .ref 28]) (w' := px_w K s t) (q := []) 11 hM rfl trivial ?_
  rcases px_bi_some h with ⟨v4, s1, t2, hk3, h⟩ | ⟨x5, s1, t2, hk3, h⟩
  · refine px_E_call hM rfl rfl rfl rfl (px_E_mono (by decide) (e_M_read_28 K N (1 : Int32) ((((25 : Int32) * (s.1 33)) + (1 : Int32)) + a0) (0 : Int32) s t _ hk3)) ?_
    refine px_blk (i' := 14) (L' := [some (.ref 28), some (.int a0)]) (S' := [.int (s1.1 34), .int v4]) (w' := px_w K s1 t2) (q := []) 2 hM rfl trivial ?_
    have hK : px_E px_ET px_P 3 98 18 [some (.ref 28), some (.int a0)] [.int (if ¬ v4 = (s1.1 34) then (0 : Int32) else (1 : Int32))] (px_w K s1 t2) r.1 (px_w K r.2.1 r.2.2) := by
      cases h
      exact px_E_ret hM rfl rfl rfl (show (if ¬ v4 = (s1.1 34) then (0 : Int32) else (1 : Int32)) = 0 ∨ (if ¬ v4 = (s1.1 34) then (0 : Int32) else (1 : Int32)) = 1 from (by split <;> simp))
    clear h
    refine px_blkif (c := ¬ v4 = (s1.1 34)) (t := 17) (e := 15) (L' := [some (.ref 28), some (.int a0)]) (S' := []) (w' := px_w K s1 t2) (q := []) 1 hM rfl trivial (fun hc6 => ?_) (fun hc6 => ?_)
    · rw [if_pos hc6] at hK
      exact px_blk (i' := 18) (L' := [some (.ref 28), some (.int a0)]) (S' := [.int (0 : Int32)]) (w' := px_w K s1 t2) (q := []) 1 hM rfl trivial hK
    · rw [if_neg hc6] at hK
      exact px_blk (i' := 18) (L' := [some (.ref 28), some (.int a0)]) (S' := [.int (1 : Int32)]) (w' := px_w K s1 t2) (q := []) 2 hM rfl trivial hK
  · cases h
noncomputable def l_M_hasLast_28_4 (K : px_K) (N : Nat) (n : Nat) (u1 : Int32) (m2 : Int32) (m3 : Int32) (s : px_S) (t : px_W) : Option px_LO := match n with
  | 0 => none
  | n + 1 => (if (24 : Int32) ≤ m3 then (some (.inl (42, [m2], s, t))) else (px_let ((((25 : Int32) * (s.1 33)) + (1 : Int32)) + m3) (fun v2 => (if ¬ m2 = 0 then (l_M_hasLast_28_4 K N n u1 (1 : Int32) (m3 + (1 : Int32)) s t) else (px_bi (f_M_isRecord_28 K N m3 s t) (fun v8 s5 t6 => (if v8 = 0 then (l_M_hasLast_28_4 K N n u1 (0 : Int32) (m3 + (1 : Int32)) s5 t6) else (px_bi (f_M_read_28 K N (1 : Int32) v2 (1 : Int32) s5 t6) (fun v14 s11 t12 => (if ¬ v14 = u1 then (l_M_hasLast_28_4 K N n u1 (0 : Int32) (m3 + (1 : Int32)) s11 t12) else (px_bi (f_M_read_28 K N (1 : Int32) v2 (2 : Int32) s11 t12) (fun v20 s17 t18 => (px_let (if ¬ v20 = (1 : Int32) then (0 : Int32) else (1 : Int32)) (fun v22 => (l_M_hasLast_28_4 K N n u1 v22 (m3 + (1 : Int32)) s17 t18)))) (fun x21 s17 t18 => none)))) (fun x15 s11 t12 => none)))) (fun x9 s5 t6 => none))))))
def a_l_M_hasLast_28_4 (K : px_K) (u1 : Int32) (z : px_LO) (o : Option Value ⊕ Nat) (w2 : px_W) : Prop := match z with
  | .inr (o', s', t') => o = o' ∧ w2 = px_w K s' t'
  | .inl (42, [y2], s', t') => px_E px_ET px_P 4 99 42 [none, none, some (.int y2), none, none] [] (px_w K s' t') o w2
  | _ => False
set_option maxRecDepth 100000 in
theorem e_l_M_hasLast_28_4 (K : px_K) (N : Nat) (u1 : Int32) : ∀ (n : Nat) (m2 : Int32) (m3 : Int32) (s : px_S) (t : px_W) (z : px_LO), l_M_hasLast_28_4 K N n u1 m2 m3 s t = some z → ∀ (o : Option Value ⊕ Nat) (w2 : px_W), a_l_M_hasLast_28_4 K u1 z o w2 → px_E px_ET px_P 4 99 4 [some (.ref 28), some (.int u1), some (.int m2), some (.int m3), none] [] (px_w K s t) o w2 := by
  have hM : px_P[99]? = some pm_M_hasLast := rfl
  intro n
  induction n with
  | zero => intro m2 m3 s t z h; cases h
  | succ n ih =>
    intro m2 m3 s t z h o w2 ha
    unfold l_M_hasLast_28_4 at h
    refine px_blkif (c := (24 : Int32) ≤ m3) (t := 42) (e := 7) (L' := [some (.ref 28), some (.int u1), some (.int m2), some (.int m3), none]) (S' := []) (w' := px_w K s t) (q := []) 3 hM rfl trivial (fun hc1 => ?_) (fun hc1 => ?_)
    · rw [if_pos hc1] at h
      cases h
      exact px_E_le (px_leC_L _ _ (by simp [px_leC, px_le1, Value.category])) ha
    · rw [if_neg hc1] at h
      refine px_blk (i' := 16) (L' := [some (.ref 28), some (.int u1), some (.int m2), some (.int m3), some (.int ((((25 : Int32) * (s.1 33)) + (1 : Int32)) + m3))]) (S' := []) (w' := px_w K s t) (q := []) 9 hM rfl trivial ?_
      obtain ⟨v2, hv3, h⟩ := px_let_some h
      rw [← hv3]
      refine px_blkif (c := ¬ m2 = 0) (t := 36) (e := 18) (L' := [some (.ref 28), some (.int u1), some (.int m2), some (.int m3), some (.int v2)]) (S' := []) (w' := px_w K s t) (q := []) 2 hM rfl trivial (fun hc4 => ?_) (fun hc4 => ?_)
      · rw [if_pos hc4] at h
        refine px_blk (i' := 4) (L' := [some (.ref 28), some (.int u1), some (.int (1 : Int32)), some (.int (m3 + (1 : Int32))), some (.int v2)]) (S' := []) (w' := px_w K s t) (q := []) 5 hM rfl trivial ?_
        exact px_E_le (px_leC_L _ _ (by simp [px_leC, px_le1, Value.category])) (ih (1 : Int32) (m3 + (1 : Int32)) s t z h o w2 ha)
      · rw [if_neg hc4] at h
        refine px_blk (i' := 20) (L' := [some (.ref 28), some (.int u1), some (.int m2), some (.int m3), some (.int v2)]) (S' := [.int m3, .ref 28]) (w' := px_w K s t) (q := []) 2 hM rfl trivial ?_
        rcases px_bi_some h with ⟨v8, s5, t6, hk7, h⟩ | ⟨x9, s5, t6, hk7, h⟩
        · refine px_E_call hM rfl rfl rfl rfl (px_E_mono (by decide) (e_M_isRecord_28 K N m3 s t _ hk7)) ?_
          refine px_blkif (c := v8 = 0) (t := 38) (e := 22) (L' := [some (.ref 28), some (.int u1), some (.int m2), some (.int m3), some (.int v2)]) (S' := []) (w' := px_w K s5 t6) (q := []) 1 hM rfl trivial (fun hc10 => ?_) (fun hc10 => ?_)
          · rw [if_pos hc10] at h
            refine px_blk (i' := 4) (L' := [some (.ref 28), some (.int u1), some (.int (0 : Int32)), some (.int (m3 + (1 : Int32))), some (.int v2)]) (S' := []) (w' := px_w K s5 t6) (q := []) 4 hM rfl trivial ?_
            exact px_E_le (px_leC_L _ _ (by simp [px_leC, px_le1, Value.category])) (ih (0 : Int32) (m3 + (1 : Int32)) s5 t6 z h o w2 ha)
          · rw [if_neg hc10] at h
            refine px_blk (i' := 26) (L' := [some (.ref 28), some (.int u1), some (.int m2), some (.int m3), some (.int v2)]) (S' := [.int (1 : Int32), .int v2, .int (1 : Int32), .ref 28]) (w' := px_w K s5 t6) (q := []) 4 hM rfl trivial ?_
            rcases px_bi_some h with ⟨v14, s11, t12, hk13, h⟩ | ⟨x15, s11, t12, hk13, h⟩
            · refine px_E_call hM rfl rfl rfl rfl (px_E_mono (by decide) (e_M_read_28 K N (1 : Int32) v2 (1 : Int32) s5 t6 _ hk13)) ?_
              refine px_blkif (c := ¬ v14 = u1) (t := 38) (e := 29) (L' := [some (.ref 28), some (.int u1), some (.int m2), some (.int m3), some (.int v2)]) (S' := []) (w' := px_w K s11 t12) (q := []) 2 hM rfl trivial (fun hc16 => ?_) (fun hc16 => ?_)
              · rw [if_pos hc16] at h
                refine px_blk (i' := 4) (L' := [some (.ref 28), some (.int u1), some (.int (0 : Int32)), some (.int (m3 + (1 : Int32))), some (.int v2)]) (S' := []) (w' := px_w K s11 t12) (q := []) 4 hM rfl trivial ?_
                exact px_E_le (px_leC_L _ _ (by simp [px_leC, px_le1, Value.category])) (ih (0 : Int32) (m3 + (1 : Int32)) s11 t12 z h o w2 ha)
              · rw [if_neg hc16] at h
                refine px_blk (i' := 33) (L' := [some (.ref 28), some (.int u1), some (.int m2), some (.int m3), some (.int v2)]) (S' := [.int (2 : Int32), .int v2, .int (1 : Int32), .ref 28]) (w' := px_w K s11 t12) (q := []) 4 hM rfl trivial ?_
                rcases px_bi_some h with ⟨v20, s17, t18, hk19, h⟩ | ⟨x21, s17, t18, hk19, h⟩
                · refine px_E_call hM rfl rfl rfl rfl (px_E_mono (by decide) (e_M_read_28 K N (1 : Int32) v2 (2 : Int32) s11 t12 _ hk19)) ?_
                  refine px_blk (i' := 35) (L' := [some (.ref 28), some (.int u1), some (.int m2), some (.int m3), some (.int v2)]) (S' := [.int (1 : Int32), .int v20]) (w' := px_w K s17 t18) (q := []) 1 hM rfl trivial ?_
                  have hK : px_E px_ET px_P 4 99 39 [some (.ref 28), some (.int u1), some (.int m2), some (.int m3), some (.int v2)] [.int (if ¬ v20 = (1 : Int32) then (0 : Int32) else (1 : Int32))] (px_w K s17 t18) o w2 := by
                    refine px_blk (i' := 40) (L' := [some (.ref 28), some (.int u1), some (.int (if ¬ v20 = (1 : Int32) then (0 : Int32) else (1 : Int32))), some (.int m3), some (.int v2)]) (S' := []) (w' := px_w K s17 t18) (q := []) 1 hM rfl trivial ?_
                    obtain ⟨v22, hv23, h⟩ := px_let_some h
                    rw [← hv23]
                    refine px_blk (i' := 4) (L' := [some (.ref 28), some (.int u1), some (.int v22), some (.int (m3 + (1 : Int32))), some (.int v2)]) (S' := []) (w' := px_w K s17 t18) (q := []) 2 hM rfl trivial ?_
                    exact px_E_le (px_leC_L _ _ (by simp [px_leC, px_le1, Value.category])) (ih v22 (m3 + (1 : Int32)) s17 t18 z h o w2 ha)
                  clear h
                  refine px_blkif (c := ¬ v20 = (1 : Int32)) (t := 38) (e := 36) (L' := [some (.ref 28), some (.int u1), some (.int m2), some (.int m3), some (.int v2)]) (S' := []) (w' := px_w K s17 t18) (q := []) 1 hM rfl trivial (fun hc24 => ?_) (fun hc24 => ?_)
                  · rw [if_pos hc24] at hK
                    exact px_blk (i' := 39) (L' := [some (.ref 28), some (.int u1), some (.int m2), some (.int m3), some (.int v2)]) (S' := [.int (0 : Int32)]) (w' := px_w K s17 t18) (q := []) 1 hM rfl trivial hK
                  · rw [if_neg hc24] at hK
                    exact px_blk (i' := 39) (L' := [some (.ref 28), some (.int u1), some (.int m2), some (.int m3), some (.int v2)]) (S' := [.int (1 : Int32)]) (w' := px_w K s17 t18) (q := []) 2 hM rfl trivial hK
                · cases h
            · cases h
        · cases h
noncomputable def f_M_hasLast_28 (K : px_K) (N : Nat) (a0 : Int32) (s : px_S) (t : px_W) : Option px_Res :=
  (px_lp (l_M_hasLast_28_4 K N N a0 (0 : Int32) (0 : Int32) s t) (fun i1 vs2 s3 t4 => (if i1 = 42 then (px_v1 vs2 (fun y7 => (px_gd (y7 = 0 ∨ y7 = 1) (some (.inl (some (.int y7)), s3, t4))))) else none)) (fun z6 => some z6))
set_option maxRecDepth 100000 in
theorem e_M_hasLast_28 (K : px_K) (N : Nat) (a0 : Int32) (s : px_S) (t : px_W) (r : px_Res) (h : f_M_hasLast_28 K N a0 s t = some r) : px_E px_ET px_P 4 99 0 (px_ent 5 [.ref 28, .int a0]) [] (px_w K s t) r.1 (px_w K r.2.1 r.2.2) := by
  have hM : px_P[99]? = some pm_M_hasLast := rfl
  unfold f_M_hasLast_28 at h
  refine px_blk (i' := 4) (L' := [some (.ref 28), some (.int a0), some (.int (0 : Int32)), some (.int (0 : Int32)), none]) (S' := []) (w' := px_w K s t) (q := []) 4 hM rfl trivial ?_
  rcases px_lp_some h with ⟨i1, vs2, s3, t4, hl5, h⟩ | ⟨z6, hl5, h⟩
  · by_cases hi8 : i1 = 42
    · subst hi8
      rw [if_pos rfl] at h
      have h9 := px_v1_some h
      clear h
      obtain ⟨y7, rfl, h⟩ := h9
      refine e_l_M_hasLast_28_4 K N a0 N (0 : Int32) (0 : Int32) s t _ hl5 _ _ ?_
      show px_E px_ET px_P 4 99 42 [none, none, some (.int y7), none, none] [] (px_w K s3 t4) _ _
      refine px_blk (i' := 43) (L' := [none, none, some (.int y7), none, none]) (S' := [.int y7]) (w' := px_w K s3 t4) (q := []) 1 hM rfl trivial ?_
      obtain ⟨hq9, h⟩ := px_gd_some h
      cases h
      exact px_E_ret hM rfl rfl rfl (show y7 = 0 ∨ y7 = 1 from hq9)
    · rw [if_neg hi8] at h
      cases h
  · cases h
    exact e_l_M_hasLast_28_4 K N a0 N (0 : Int32) (0 : Int32) s t _ hl5 _ _ ⟨rfl, rfl⟩
noncomputable def l_M_takesHalf_28_65 (K : px_K) (N : Nat) (n : Nat) (u2 : Int32) (u3 : Int32) (u4 : Int32) (m5 : Int32) (s : px_S) (t : px_W) : Option px_LO := match n with
  | 0 => none
  | n + 1 => (px_bi (f_M_read_28 K N (1 : Int32) u3 (3 : Int32) s t) (fun v4 s1 t2 => (if v4 ≤ m5 then (some (.inl (102, [], s1, t2))) else (px_bi (f_M_read_28 K N (1 : Int32) u3 ((4 : Int32) + ((2 : Int32) * m5)) s1 t2) (fun v10 s7 t8 => (px_bi (f_M_read_28 K N (1 : Int32) u3 ((5 : Int32) + ((2 : Int32) * m5)) s7 t8) (fun v15 s12 t13 => (px_gd (vp_in v10 (K.2.2 35)) (px_let (sA s12 35 v10.toNatClampNeg v15) (fun s18 => (px_gd (vp_in v10 (K.2.2 36)) (px_let (sA s18 36 v10.toNatClampNeg u4) (fun s21 => (l_M_takesHalf_28_65 K N n u2 u3 u4 (m5 + (1 : Int32)) s21 t13)))))))) (fun x16 s12 t13 => none))) (fun x11 s7 t8 => none)))) (fun x5 s1 t2 => none))
def a_l_M_takesHalf_28_65 (K : px_K) (u2 : Int32) (u3 : Int32) (u4 : Int32) (z : px_LO) (o : Option Value ⊕ Nat) (w2 : px_W) : Prop := match z with
  | .inr (o', s', t') => o = o' ∧ w2 = px_w K s' t'
  | .inl (102, [], s', t') => px_E px_ET px_P 5 100 102 [some (.ref 28), none, some (.int u2), none, none, none, none] [] (px_w K s' t') o w2
  | _ => False
noncomputable def l_M_takesHalf_28_20 (K : px_K) (N : Nat) (n : Nat) (m2 : Int32) (s : px_S) (t : px_W) : Option px_LO := match n with
  | 0 => none
  | n + 1 => (if (24 : Int32) ≤ m2 then (some (.inl (104, [], s, t))) else (px_let ((((25 : Int32) * (s.1 33)) + (1 : Int32)) + m2) (fun v2 => (px_bi (f_M_read_28 K N (1 : Int32) v2 (1 : Int32) s t) (fun v7 s4 t5 => (px_bi (f_M_isRecord_28 K N m2 s4 t5) (fun v12 s9 t10 => (if v12 = 0 then (l_M_takesHalf_28_20 K N n (m2 + (1 : Int32)) s9 t10) else (px_bi (f_M_landed_28 K N s9 t10) (fun v18 s15 t16 => (if v7 ≤ v18 then (l_M_takesHalf_28_20 K N n (m2 + (1 : Int32)) s15 t16) else (px_bi (f_M_hasLast_28 K N v7 s15 t16) (fun v24 s21 t22 => (if ¬ v24 = 0 then (px_let (sR s21 32 (if v7 < (s21.1 32) then (s21.1 32) else (v7 + (1 : Int32)))) (fun s27 => (px_lp (l_M_takesHalf_28_65 K N N m2 v2 v7 (0 : Int32) s27 t22) (fun i29 vs30 s31 t32 => (if i29 = 102 then (px_v0 vs30 (l_M_takesHalf_28_20 K N n (m2 + (1 : Int32)) s31 t32)) else none)) (fun z34 => some (.inr z34))))) else (l_M_takesHalf_28_20 K N n (m2 + (1 : Int32)) s21 t22))) (fun x25 s21 t22 => none)))) (fun x19 s15 t16 => none)))) (fun x13 s9 t10 => none))) (fun x8 s4 t5 => none)))))
def a_l_M_takesHalf_28_20 (K : px_K) (z : px_LO) (o : Option Value ⊕ Nat) (w2 : px_W) : Prop := match z with
  | .inr (o', s', t') => o = o' ∧ w2 = px_w K s' t'
  | .inl (104, [], s', t') => px_E px_ET px_P 5 100 104 [none, none, none, none, none, none, none] [] (px_w K s' t') o w2
  | _ => False
set_option maxRecDepth 100000 in
theorem e_l_M_takesHalf_28_65 (K : px_K) (N : Nat) (u2 : Int32) (u3 : Int32) (u4 : Int32) : ∀ (n : Nat) (m5 : Int32) (s : px_S) (t : px_W) (z : px_LO), l_M_takesHalf_28_65 K N n u2 u3 u4 m5 s t = some z → ∀ (o : Option Value ⊕ Nat) (w2 : px_W), a_l_M_takesHalf_28_65 K u2 u3 u4 z o w2 → px_E px_ET px_P 5 100 65 [some (.ref 28), none, some (.int u2), some (.int u3), some (.int u4), some (.int m5), none] [] (px_w K s t) o w2 := by
  have hM : px_P[100]? = some pm_M_takesHalf := rfl
  intro n
  induction n with
  | zero => intro m5 s t z h; cases h
  | succ n ih =>
    intro m5 s t z h o w2 ha
    unfold l_M_takesHalf_28_65 at h
    refine px_blk (i' := 70) (L' := [some (.ref 28), none, some (.int u2), some (.int u3), some (.int u4), some (.int m5), none]) (S' := [.int (3 : Int32), .int u3, .int (1 : Int32), .ref 28, .int m5]) (w' := px_w K s t) (q := []) 5 hM rfl trivial ?_
    rcases px_bi_some h with ⟨v4, s1, t2, hk3, h⟩ | ⟨x5, s1, t2, hk3, h⟩
    · refine px_E_call hM rfl rfl rfl rfl (px_E_mono (by decide) (e_M_read_28 K N (1 : Int32) u3 (3 : Int32) s t _ hk3)) ?_
      refine px_blkif (c := v4 ≤ m5) (t := 102) (e := 72) (L' := [some (.ref 28), none, some (.int u2), some (.int u3), some (.int u4), some (.int m5), none]) (S' := []) (w' := px_w K s1 t2) (q := []) 1 hM rfl trivial (fun hc6 => ?_) (fun hc6 => ?_)
      · rw [if_pos hc6] at h
        cases h
        exact px_E_le (px_leC_L _ _ (by simp [px_leC, px_le1, Value.category])) ha
      · rw [if_neg hc6] at h
        refine px_blk (i' := 80) (L' := [some (.ref 28), none, some (.int u2), some (.int u3), some (.int u4), some (.int m5), none]) (S' := [.int ((4 : Int32) + ((2 : Int32) * m5)), .int u3, .int (1 : Int32), .ref 28]) (w' := px_w K s1 t2) (q := []) 8 hM rfl trivial ?_
        rcases px_bi_some h with ⟨v10, s7, t8, hk9, h⟩ | ⟨x11, s7, t8, hk9, h⟩
        · refine px_E_call hM rfl rfl rfl rfl (px_E_mono (by decide) (e_M_read_28 K N (1 : Int32) u3 ((4 : Int32) + ((2 : Int32) * m5)) s1 t2 _ hk9)) ?_
          refine px_blk (i' := 93) (L' := [some (.ref 28), none, some (.int u2), some (.int u3), some (.int u4), some (.int m5), some (.int v10)]) (S' := [.int ((5 : Int32) + ((2 : Int32) * m5)), .int u3, .int (1 : Int32), .ref 28, .int v10, .ref 35]) (w' := px_w K s7 t8) (q := []) 12 hM rfl trivial ?_
          rcases px_bi_some h with ⟨v15, s12, t13, hk14, h⟩ | ⟨x16, s12, t13, hk14, h⟩
          · refine px_E_call hM rfl rfl rfl rfl (px_E_mono (by decide) (e_M_read_28 K N (1 : Int32) u3 ((5 : Int32) + ((2 : Int32) * m5)) s7 t8 _ hk14)) ?_
            obtain ⟨hq17, h⟩ := px_gd_some h
            refine px_blk (i' := 95) (L' := [some (.ref 28), none, some (.int u2), some (.int u3), some (.int u4), some (.int m5), some (.int v10)]) (S' := []) (w' := px_w K (sA s12 35 v10.toNatClampNeg v15) t13) (q := [vp_in v10 (K.2.2 35)]) 1 hM rfl (show vp_in v10 (K.2.2 35) from hq17) ?_
            obtain ⟨s18, hs19, h⟩ := px_let_some h
            rw [← hs19]
            obtain ⟨hq20, h⟩ := px_gd_some h
            refine px_blk (i' := 100) (L' := [some (.ref 28), none, some (.int u2), some (.int u3), some (.int u4), some (.int m5), some (.int v10)]) (S' := []) (w' := px_w K (sA s18 36 v10.toNatClampNeg u4) t13) (q := [vp_in v10 (K.2.2 36)]) 5 hM rfl (show vp_in v10 (K.2.2 36) from hq20) ?_
            obtain ⟨s21, hs22, h⟩ := px_let_some h
            rw [← hs22]
            refine px_blk (i' := 65) (L' := [some (.ref 28), none, some (.int u2), some (.int u3), some (.int u4), some (.int (m5 + (1 : Int32))), some (.int v10)]) (S' := []) (w' := px_w K s21 t13) (q := []) 2 hM rfl trivial ?_
            exact px_E_le (px_leC_L _ _ (by simp [px_leC, px_le1, Value.category])) (ih (m5 + (1 : Int32)) s21 t13 z h o w2 ha)
          · cases h
        · cases h
    · cases h
set_option maxRecDepth 100000 in
theorem e_l_M_takesHalf_28_20 (K : px_K) (N : Nat) : ∀ (n : Nat) (m2 : Int32) (s : px_S) (t : px_W) (z : px_LO), l_M_takesHalf_28_20 K N n m2 s t = some z → ∀ (o : Option Value ⊕ Nat) (w2 : px_W), a_l_M_takesHalf_28_20 K z o w2 → px_E px_ET px_P 5 100 20 [some (.ref 28), none, some (.int m2), none, none, none, none] [] (px_w K s t) o w2 := by
  have hM : px_P[100]? = some pm_M_takesHalf := rfl
  intro n
  induction n with
  | zero => intro m2 s t z h; cases h
  | succ n ih =>
    intro m2 s t z h o w2 ha
    unfold l_M_takesHalf_28_20 at h
    refine px_blkif (c := (24 : Int32) ≤ m2) (t := 104) (e := 23) (L' := [some (.ref 28), none, some (.int m2), none, none, none, none]) (S' := []) (w' := px_w K s t) (q := []) 3 hM rfl trivial (fun hc1 => ?_) (fun hc1 => ?_)
    · rw [if_pos hc1] at h
      cases h
      exact px_E_le (px_leC_L _ _ (by simp [px_leC, px_le1, Value.category])) ha
    · rw [if_neg hc1] at h
      refine px_blk (i' := 32) (L' := [some (.ref 28), none, some (.int m2), some (.int ((((25 : Int32) * (s.1 33)) + (1 : Int32)) + m2)), none, none, none]) (S' := []) (w' := px_w K s t) (q := []) 9 hM rfl trivial ?_
      obtain ⟨v2, hv3, h⟩ := px_let_some h
      rw [← hv3]
      refine px_blk (i' := 36) (L' := [some (.ref 28), none, some (.int m2), some (.int v2), none, none, none]) (S' := [.int (1 : Int32), .int v2, .int (1 : Int32), .ref 28]) (w' := px_w K s t) (q := []) 4 hM rfl trivial ?_
      rcases px_bi_some h with ⟨v7, s4, t5, hk6, h⟩ | ⟨x8, s4, t5, hk6, h⟩
      · refine px_E_call hM rfl rfl rfl rfl (px_E_mono (by decide) (e_M_read_28 K N (1 : Int32) v2 (1 : Int32) s t _ hk6)) ?_
        refine px_blk (i' := 40) (L' := [some (.ref 28), none, some (.int m2), some (.int v2), some (.int v7), none, none]) (S' := [.int m2, .ref 28]) (w' := px_w K s4 t5) (q := []) 3 hM rfl trivial ?_
        rcases px_bi_some h with ⟨v12, s9, t10, hk11, h⟩ | ⟨x13, s9, t10, hk11, h⟩
        · refine px_E_call hM rfl rfl rfl rfl (px_E_mono (by decide) (e_M_isRecord_28 K N m2 s4 t5 _ hk11)) ?_
          refine px_blkif (c := v12 = 0) (t := 102) (e := 42) (L' := [some (.ref 28), none, some (.int m2), some (.int v2), some (.int v7), none, none]) (S' := []) (w' := px_w K s9 t10) (q := []) 1 hM rfl trivial (fun hc14 => ?_) (fun hc14 => ?_)
          · rw [if_pos hc14] at h
            refine px_blk (i' := 20) (L' := [some (.ref 28), none, some (.int (m2 + (1 : Int32))), some (.int v2), some (.int v7), none, none]) (S' := []) (w' := px_w K s9 t10) (q := []) 2 hM rfl trivial ?_
            exact px_E_le (px_leC_L _ _ (by simp [px_leC, px_le1, Value.category])) (ih (m2 + (1 : Int32)) s9 t10 z h o w2 ha)
          · rw [if_neg hc14] at h
            refine px_blk (i' := 44) (L' := [some (.ref 28), none, some (.int m2), some (.int v2), some (.int v7), none, none]) (S' := [.ref 28, .int v7]) (w' := px_w K s9 t10) (q := []) 2 hM rfl trivial ?_
            rcases px_bi_some h with ⟨v18, s15, t16, hk17, h⟩ | ⟨x19, s15, t16, hk17, h⟩
            · refine px_E_call hM rfl rfl rfl rfl (px_E_mono (by decide) (e_M_landed_28 K N s9 t10 _ hk17)) ?_
              refine px_blkif (c := v7 ≤ v18) (t := 102) (e := 46) (L' := [some (.ref 28), none, some (.int m2), some (.int v2), some (.int v7), none, none]) (S' := []) (w' := px_w K s15 t16) (q := []) 1 hM rfl trivial (fun hc20 => ?_) (fun hc20 => ?_)
              · rw [if_pos hc20] at h
                refine px_blk (i' := 20) (L' := [some (.ref 28), none, some (.int (m2 + (1 : Int32))), some (.int v2), some (.int v7), none, none]) (S' := []) (w' := px_w K s15 t16) (q := []) 2 hM rfl trivial ?_
                exact px_E_le (px_leC_L _ _ (by simp [px_leC, px_le1, Value.category])) (ih (m2 + (1 : Int32)) s15 t16 z h o w2 ha)
              · rw [if_neg hc20] at h
                refine px_blk (i' := 48) (L' := [some (.ref 28), none, some (.int m2), some (.int v2), some (.int v7), none, none]) (S' := [.int v7, .ref 28]) (w' := px_w K s15 t16) (q := []) 2 hM rfl trivial ?_
                rcases px_bi_some h with ⟨v24, s21, t22, hk23, h⟩ | ⟨x25, s21, t22, hk23, h⟩
                · refine px_E_call hM rfl rfl rfl rfl (px_E_mono (by decide) (e_M_hasLast_28 K N v7 s15 t16 _ hk23)) ?_
                  refine px_blkif (c := ¬ v24 = 0) (t := 51) (e := 50) (L' := [some (.ref 28), none, some (.int m2), some (.int v2), some (.int v7), none, none]) (S' := []) (w' := px_w K s21 t22) (q := []) 1 hM rfl trivial (fun hc26 => ?_) (fun hc26 => ?_)
                  · rw [if_pos hc26] at h
                    refine px_blk (i' := 55) (L' := [some (.ref 28), none, some (.int m2), some (.int v2), some (.int v7), none, none]) (S' := [.int (s21.1 32), .int v7, .ref 28]) (w' := px_w K s21 t22) (q := []) 4 hM rfl trivial ?_
                    have hK : px_E px_ET px_P 5 100 62 [some (.ref 28), none, some (.int m2), some (.int v2), some (.int v7), none, none] [.int (if v7 < (s21.1 32) then (s21.1 32) else (v7 + (1 : Int32))), .ref 28] (px_w K s21 t22) o w2 := by
                      refine px_blk (i' := 63) (L' := [some (.ref 28), none, some (.int m2), some (.int v2), some (.int v7), none, none]) (S' := []) (w' := px_w K (sR s21 32 (if v7 < (s21.1 32) then (s21.1 32) else (v7 + (1 : Int32)))) t22) (q := []) 1 hM rfl trivial ?_
                      obtain ⟨s27, hs28, h⟩ := px_let_some h
                      rw [← hs28]
                      refine px_blk (i' := 65) (L' := [some (.ref 28), none, some (.int m2), some (.int v2), some (.int v7), some (.int (0 : Int32)), none]) (S' := []) (w' := px_w K s27 t22) (q := []) 2 hM rfl trivial ?_
                      rcases px_lp_some h with ⟨i29, vs30, s31, t32, hl33, h⟩ | ⟨z34, hl33, h⟩
                      · by_cases hi35 : i29 = 102
                        · subst hi35
                          rw [if_pos rfl] at h
                          have h9 := px_v0_some h
                          clear h
                          obtain ⟨rfl, h⟩ := h9
                          refine e_l_M_takesHalf_28_65 K N m2 v2 v7 N (0 : Int32) s27 t22 _ hl33 _ _ ?_
                          show px_E px_ET px_P 5 100 102 [some (.ref 28), none, some (.int m2), none, none, none, none] [] (px_w K s31 t32) _ _
                          refine px_blk (i' := 20) (L' := [some (.ref 28), none, some (.int (m2 + (1 : Int32))), none, none, none, none]) (S' := []) (w' := px_w K s31 t32) (q := []) 2 hM rfl trivial ?_
                          exact ih (m2 + (1 : Int32)) s31 t32 z h o w2 ha
                        · rw [if_neg hi35] at h
                          cases h
                      · cases h
                        obtain ⟨rfl, rfl⟩ := ha
                        exact e_l_M_takesHalf_28_65 K N m2 v2 v7 N (0 : Int32) s27 t22 _ hl33 _ _ ⟨rfl, rfl⟩
                    clear h
                    refine px_blkif (c := v7 < (s21.1 32)) (t := 60) (e := 56) (L' := [some (.ref 28), none, some (.int m2), some (.int v2), some (.int v7), none, none]) (S' := [.ref 28]) (w' := px_w K s21 t22) (q := []) 1 hM rfl trivial (fun hc36 => ?_) (fun hc36 => ?_)
                    · rw [if_pos hc36] at hK
                      exact px_blk (i' := 62) (L' := [some (.ref 28), none, some (.int m2), some (.int v2), some (.int v7), none, none]) (S' := [.int (s21.1 32), .ref 28]) (w' := px_w K s21 t22) (q := []) 2 hM rfl trivial hK
                    · rw [if_neg hc36] at hK
                      exact px_blk (i' := 62) (L' := [some (.ref 28), none, some (.int m2), some (.int v2), some (.int v7), none, none]) (S' := [.int (v7 + (1 : Int32)), .ref 28]) (w' := px_w K s21 t22) (q := []) 4 hM rfl trivial hK
                  · rw [if_neg hc26] at h
                    refine px_blk (i' := 20) (L' := [some (.ref 28), none, some (.int (m2 + (1 : Int32))), some (.int v2), some (.int v7), none, none]) (S' := []) (w' := px_w K s21 t22) (q := []) 3 hM rfl trivial ?_
                    exact px_E_le (px_leC_L _ _ (by simp [px_leC, px_le1, Value.category])) (ih (m2 + (1 : Int32)) s21 t22 z h o w2 ha)
                · cases h
            · cases h
        · cases h
      · cases h
noncomputable def f_M_takesHalf_28 (K : px_K) (N : Nat) (a0 : Int32) (s : px_S) (t : px_W) : Option px_Res :=
  (px_let (sR s 33 a0) (fun s1 => (px_bi (f_M_read_28 K N (1 : Int32) ((25 : Int32) * a0) (0 : Int32) s1 t) (fun v6 s3 t4 => (px_let (sR s3 34 v6) (fun s8 => (px_bi (f_M_landed_28 K N s8 t4) (fun v13 s10 t11 => (px_let (sR s10 32 (v13 + (1 : Int32))) (fun s15 => (px_lp (l_M_takesHalf_28_20 K N N (0 : Int32) s15 t11) (fun i17 vs18 s19 t20 => (if i17 = 104 then (px_v0 vs18 (some (.inl none, s19, t20))) else none)) (fun z22 => some z22))))) (fun x14 s10 t11 => none))))) (fun x7 s3 t4 => none))))
set_option maxRecDepth 100000 in
theorem e_M_takesHalf_28 (K : px_K) (N : Nat) (a0 : Int32) (s : px_S) (t : px_W) (r : px_Res) (h : f_M_takesHalf_28 K N a0 s t = some r) : px_E px_ET px_P 5 100 0 (px_ent 7 [.ref 28, .int a0]) [] (px_w K s t) r.1 (px_w K r.2.1 r.2.2) := by
  have hM : px_P[100]? = some pm_M_takesHalf := rfl
  unfold f_M_takesHalf_28 at h
  refine px_blk (i' := 3) (L' := [some (.ref 28), some (.int a0), none, none, none, none, none]) (S' := []) (w' := px_w K (sR s 33 a0) t) (q := []) 3 hM rfl trivial ?_
  obtain ⟨s1, hs2, h⟩ := px_let_some h
  rw [← hs2]
  refine px_blk (i' := 10) (L' := [some (.ref 28), some (.int a0), none, none, none, none, none]) (S' := [.int (0 : Int32), .int ((25 : Int32) * a0), .int (1 : Int32), .ref 28, .ref 28]) (w' := px_w K s1 t) (q := []) 7 hM rfl trivial ?_
  rcases px_bi_some h with ⟨v6, s3, t4, hk5, h⟩ | ⟨x7, s3, t4, hk5, h⟩
  · refine px_E_call hM rfl rfl rfl rfl (px_E_mono (by decide) (e_M_read_28 K N (1 : Int32) ((25 : Int32) * a0) (0 : Int32) s1 t _ hk5)) ?_
    refine px_blk (i' := 12) (L' := [some (.ref 28), some (.int a0), none, none, none, none, none]) (S' := []) (w' := px_w K (sR s3 34 v6) t4) (q := []) 1 hM rfl trivial ?_
    obtain ⟨s8, hs9, h⟩ := px_let_some h
    rw [← hs9]
    refine px_blk (i' := 14) (L' := [some (.ref 28), some (.int a0), none, none, none, none, none]) (S' := [.ref 28, .ref 28]) (w' := px_w K s8 t4) (q := []) 2 hM rfl trivial ?_
    rcases px_bi_some h with ⟨v13, s10, t11, hk12, h⟩ | ⟨x14, s10, t11, hk12, h⟩
    · refine px_E_call hM rfl rfl rfl rfl (px_E_mono (by decide) (e_M_landed_28 K N s8 t4 _ hk12)) ?_
      refine px_blk (i' := 18) (L' := [some (.ref 28), some (.int a0), none, none, none, none, none]) (S' := []) (w' := px_w K (sR s10 32 (v13 + (1 : Int32))) t11) (q := []) 3 hM rfl trivial ?_
      obtain ⟨s15, hs16, h⟩ := px_let_some h
      rw [← hs16]
      refine px_blk (i' := 20) (L' := [some (.ref 28), some (.int a0), some (.int (0 : Int32)), none, none, none, none]) (S' := []) (w' := px_w K s15 t11) (q := []) 2 hM rfl trivial ?_
      rcases px_lp_some h with ⟨i17, vs18, s19, t20, hl21, h⟩ | ⟨z22, hl21, h⟩
      · by_cases hi23 : i17 = 104
        · subst hi23
          rw [if_pos rfl] at h
          have h9 := px_v0_some h
          clear h
          obtain ⟨rfl, h⟩ := h9
          refine px_E_le (px_leC_L _ _ (by simp [px_leC, px_le1, Value.category])) (e_l_M_takesHalf_28_20 K N N (0 : Int32) s15 t11 _ hl21 _ _ ?_)
          show px_E px_ET px_P 5 100 104 [none, none, none, none, none, none, none] [] (px_w K s19 t20) _ _
          cases h
          exact px_E_ret hM rfl rfl rfl trivial
        · rw [if_neg hi23] at h
          cases h
      · cases h
        exact px_E_le (px_leC_L _ _ (by simp [px_leC, px_le1, Value.category])) (e_l_M_takesHalf_28_20 K N N (0 : Int32) s15 t11 _ hl21 _ _ ⟨rfl, rfl⟩)
    · cases h
  · cases h
noncomputable def f_M_mount_28 (K : px_K) (N : Nat) (a0 : Int32) (a1 : Int32) (a2 : Int64) (s : px_S) (t : px_W) : Option px_Res :=
  (px_let (sR s 25 (0 : Int32)) (fun s1 => (px_bi (f_M_halfThatCounts_28 K N s1 t) (fun v6 s3 t4 => (if ¬ (s3.1 29) = 0 then (some (.inl (some (.int (-1 : Int32))), s3, t4)) else (if a0 = 0 then (px_let (sR s3 29 (1 : Int32)) (fun s10 => (px_gd (a0 = 0 ∨ a0 = 1) (px_let (sR s10 31 a0) (fun s13 => (if a1 ≤ 0 then (px_bv (f_M_redo_28 K N s13 t4) (fun s16 t17 => (px_bv (f_M_noSlots_28 K N s16 t17) (fun s21 t22 => (if a0 = 0 then (px_bi (f_M_read_28 K N (0 : Int32) (0 : Int32) (0 : Int32) s21 t22) (fun v30 s27 t28 => (px_bv (f_M_three_28_43 K N (v30 + (1 : Int32)) (0 : Int32) (0 : Int32) s27 t28) (fun s32 t33 => (px_bv (f_M_write_28_43 K N (0 : Int32) (0 : Int32) (0 : Int32) s32 t33) (fun s37 t38 => (px_bv (f_M_flush_28 K N (0 : Int32) s37 t38) (fun s42 t43 => (if (s42.1 29) = 0 then (if (s42.1 29) = 0 then (px_bi (f_M_closed_28 K N s42 t43) (fun v52 s49 t50 => (px_bi (f_M_answer_28 K N v52 s49 t50) (fun v57 s54 t55 => (some (.inl (some (.int v57)), s54, t55))) (fun x58 s54 t55 => none))) (fun x53 s49 t50 => none)) else (px_bv (f_M_bringHome_28 K N s42 t43) (fun s59 t60 => (px_bi (f_M_closed_28 K N s59 t60) (fun v67 s64 t65 => (px_bi (f_M_answer_28 K N v67 s64 t65) (fun v72 s69 t70 => (some (.inl (some (.int v72)), s69, t70))) (fun x73 s69 t70 => none))) (fun x68 s64 t65 => none))) (fun x63 s59 t60 => none))) else (px_bv (f_M_loadsTree_28 K N s42 t43) (fun s74 t75 => (if (s74.1 29) = 0 then (px_bi (f_M_closed_28 K N s74 t75) (fun v83 s80 t81 => (px_bi (f_M_answer_28 K N v83 s80 t81) (fun v88 s85 t86 => (some (.inl (some (.int v88)), s85, t86))) (fun x89 s85 t86 => none))) (fun x84 s80 t81 => none)) else (px_bv (f_M_bringHome_28 K N s74 t75) (fun s90 t91 => (px_bi (f_M_closed_28 K N s90 t91) (fun v98 s95 t96 => (px_bi (f_M_answer_28 K N v98 s95 t96) (fun v103 s100 t101 => (some (.inl (some (.int v103)), s100, t101))) (fun x104 s100 t101 => none))) (fun x99 s95 t96 => none))) (fun x94 s90 t91 => none)))) (fun x78 s74 t75 => none)))) (fun x46 s42 t43 => none))) (fun x41 s37 t38 => none))) (fun x36 s32 t33 => none))) (fun x31 s27 t28 => none)) else (px_bv (f_M_takesHalf_28 K N v6 s21 t22) (fun s105 t106 => (px_bv (f_M_changeHalves_28 K N s105 t106) (fun s110 t111 => (if (s110.1 29) = 0 then (if (s110.1 29) = 0 then (px_bi (f_M_closed_28 K N s110 t111) (fun v120 s117 t118 => (px_bi (f_M_answer_28 K N v120 s117 t118) (fun v125 s122 t123 => (some (.inl (some (.int v125)), s122, t123))) (fun x126 s122 t123 => none))) (fun x121 s117 t118 => none)) else (px_bv (f_M_bringHome_28 K N s110 t111) (fun s127 t128 => (px_bi (f_M_closed_28 K N s127 t128) (fun v135 s132 t133 => (px_bi (f_M_answer_28 K N v135 s132 t133) (fun v140 s137 t138 => (some (.inl (some (.int v140)), s137, t138))) (fun x141 s137 t138 => none))) (fun x136 s132 t133 => none))) (fun x131 s127 t128 => none))) else (px_bv (f_M_loadsTree_28 K N s110 t111) (fun s142 t143 => (if (s142.1 29) = 0 then (px_bi (f_M_closed_28 K N s142 t143) (fun v151 s148 t149 => (px_bi (f_M_answer_28 K N v151 s148 t149) (fun v156 s153 t154 => (some (.inl (some (.int v156)), s153, t154))) (fun x157 s153 t154 => none))) (fun x152 s148 t149 => none)) else (px_bv (f_M_bringHome_28 K N s142 t143) (fun s158 t159 => (px_bi (f_M_closed_28 K N s158 t159) (fun v166 s163 t164 => (px_bi (f_M_answer_28 K N v166 s163 t164) (fun v171 s168 t169 => (some (.inl (some (.int v171)), s168, t169))) (fun x172 s168 t169 => none))) (fun x167 s163 t164 => none))) (fun x162 s158 t159 => none)))) (fun x146 s142 t143 => none)))) (fun x114 s110 t111 => none))) (fun x109 s105 t106 => none)))) (fun x25 s21 t22 => none))) (fun x20 s16 t17 => none)) else (px_let (sR s13 30 a1) (fun s173 => (px_let (sQ s173 3 a2) (fun s175 => (px_bv (f_M_redo_28 K N s175 t4) (fun s177 t178 => (px_bv (f_M_noSlots_28 K N s177 t178) (fun s182 t183 => (if a0 = 0 then (px_bi (f_M_read_28 K N (0 : Int32) (0 : Int32) (0 : Int32) s182 t183) (fun v191 s188 t189 => (px_bv (f_M_three_28_43 K N (v191 + (1 : Int32)) (0 : Int32) (0 : Int32) s188 t189) (fun s193 t194 => (px_bv (f_M_write_28_43 K N (0 : Int32) (0 : Int32) (0 : Int32) s193 t194) (fun s198 t199 => (px_bv (f_M_flush_28 K N (0 : Int32) s198 t199) (fun s203 t204 => (if (s203.1 29) = 0 then (if (s203.1 29) = 0 then (px_bi (f_M_closed_28 K N s203 t204) (fun v213 s210 t211 => (px_bi (f_M_answer_28 K N v213 s210 t211) (fun v218 s215 t216 => (some (.inl (some (.int v218)), s215, t216))) (fun x219 s215 t216 => none))) (fun x214 s210 t211 => none)) else (px_bv (f_M_bringHome_28 K N s203 t204) (fun s220 t221 => (px_bi (f_M_closed_28 K N s220 t221) (fun v228 s225 t226 => (px_bi (f_M_answer_28 K N v228 s225 t226) (fun v233 s230 t231 => (some (.inl (some (.int v233)), s230, t231))) (fun x234 s230 t231 => none))) (fun x229 s225 t226 => none))) (fun x224 s220 t221 => none))) else (px_bv (f_M_loadsTree_28 K N s203 t204) (fun s235 t236 => (if (s235.1 29) = 0 then (px_bi (f_M_closed_28 K N s235 t236) (fun v244 s241 t242 => (px_bi (f_M_answer_28 K N v244 s241 t242) (fun v249 s246 t247 => (some (.inl (some (.int v249)), s246, t247))) (fun x250 s246 t247 => none))) (fun x245 s241 t242 => none)) else (px_bv (f_M_bringHome_28 K N s235 t236) (fun s251 t252 => (px_bi (f_M_closed_28 K N s251 t252) (fun v259 s256 t257 => (px_bi (f_M_answer_28 K N v259 s256 t257) (fun v264 s261 t262 => (some (.inl (some (.int v264)), s261, t262))) (fun x265 s261 t262 => none))) (fun x260 s256 t257 => none))) (fun x255 s251 t252 => none)))) (fun x239 s235 t236 => none)))) (fun x207 s203 t204 => none))) (fun x202 s198 t199 => none))) (fun x197 s193 t194 => none))) (fun x192 s188 t189 => none)) else (px_bv (f_M_takesHalf_28 K N v6 s182 t183) (fun s266 t267 => (px_bv (f_M_changeHalves_28 K N s266 t267) (fun s271 t272 => (if (s271.1 29) = 0 then (if (s271.1 29) = 0 then (px_bi (f_M_closed_28 K N s271 t272) (fun v281 s278 t279 => (px_bi (f_M_answer_28 K N v281 s278 t279) (fun v286 s283 t284 => (some (.inl (some (.int v286)), s283, t284))) (fun x287 s283 t284 => none))) (fun x282 s278 t279 => none)) else (px_bv (f_M_bringHome_28 K N s271 t272) (fun s288 t289 => (px_bi (f_M_closed_28 K N s288 t289) (fun v296 s293 t294 => (px_bi (f_M_answer_28 K N v296 s293 t294) (fun v301 s298 t299 => (some (.inl (some (.int v301)), s298, t299))) (fun x302 s298 t299 => none))) (fun x297 s293 t294 => none))) (fun x292 s288 t289 => none))) else (px_bv (f_M_loadsTree_28 K N s271 t272) (fun s303 t304 => (if (s303.1 29) = 0 then (px_bi (f_M_closed_28 K N s303 t304) (fun v312 s309 t310 => (px_bi (f_M_answer_28 K N v312 s309 t310) (fun v317 s314 t315 => (some (.inl (some (.int v317)), s314, t315))) (fun x318 s314 t315 => none))) (fun x313 s309 t310 => none)) else (px_bv (f_M_bringHome_28 K N s303 t304) (fun s319 t320 => (px_bi (f_M_closed_28 K N s319 t320) (fun v327 s324 t325 => (px_bi (f_M_answer_28 K N v327 s324 t325) (fun v332 s329 t330 => (some (.inl (some (.int v332)), s329, t330))) (fun x333 s329 t330 => none))) (fun x328 s324 t325 => none))) (fun x323 s319 t320 => none)))) (fun x307 s303 t304 => none)))) (fun x275 s271 t272 => none))) (fun x270 s266 t267 => none)))) (fun x186 s182 t183 => none))) (fun x181 s177 t178 => none)))))))))))) else (if 0 ≤ v6 then (px_let (sR s3 29 (1 : Int32)) (fun s335 => (px_gd (a0 = 0 ∨ a0 = 1) (px_let (sR s335 31 a0) (fun s338 => (if a1 ≤ 0 then (px_bv (f_M_redo_28 K N s338 t4) (fun s341 t342 => (px_bv (f_M_noSlots_28 K N s341 t342) (fun s346 t347 => (if a0 = 0 then (px_bi (f_M_read_28 K N (0 : Int32) (0 : Int32) (0 : Int32) s346 t347) (fun v355 s352 t353 => (px_bv (f_M_three_28_43 K N (v355 + (1 : Int32)) (0 : Int32) (0 : Int32) s352 t353) (fun s357 t358 => (px_bv (f_M_write_28_43 K N (0 : Int32) (0 : Int32) (0 : Int32) s357 t358) (fun s362 t363 => (px_bv (f_M_flush_28 K N (0 : Int32) s362 t363) (fun s367 t368 => (if (s367.1 29) = 0 then (if (s367.1 29) = 0 then (px_bi (f_M_closed_28 K N s367 t368) (fun v377 s374 t375 => (px_bi (f_M_answer_28 K N v377 s374 t375) (fun v382 s379 t380 => (some (.inl (some (.int v382)), s379, t380))) (fun x383 s379 t380 => none))) (fun x378 s374 t375 => none)) else (px_bv (f_M_bringHome_28 K N s367 t368) (fun s384 t385 => (px_bi (f_M_closed_28 K N s384 t385) (fun v392 s389 t390 => (px_bi (f_M_answer_28 K N v392 s389 t390) (fun v397 s394 t395 => (some (.inl (some (.int v397)), s394, t395))) (fun x398 s394 t395 => none))) (fun x393 s389 t390 => none))) (fun x388 s384 t385 => none))) else (px_bv (f_M_loadsTree_28 K N s367 t368) (fun s399 t400 => (if (s399.1 29) = 0 then (px_bi (f_M_closed_28 K N s399 t400) (fun v408 s405 t406 => (px_bi (f_M_answer_28 K N v408 s405 t406) (fun v413 s410 t411 => (some (.inl (some (.int v413)), s410, t411))) (fun x414 s410 t411 => none))) (fun x409 s405 t406 => none)) else (px_bv (f_M_bringHome_28 K N s399 t400) (fun s415 t416 => (px_bi (f_M_closed_28 K N s415 t416) (fun v423 s420 t421 => (px_bi (f_M_answer_28 K N v423 s420 t421) (fun v428 s425 t426 => (some (.inl (some (.int v428)), s425, t426))) (fun x429 s425 t426 => none))) (fun x424 s420 t421 => none))) (fun x419 s415 t416 => none)))) (fun x403 s399 t400 => none)))) (fun x371 s367 t368 => none))) (fun x366 s362 t363 => none))) (fun x361 s357 t358 => none))) (fun x356 s352 t353 => none)) else (px_bv (f_M_takesHalf_28 K N v6 s346 t347) (fun s430 t431 => (px_bv (f_M_changeHalves_28 K N s430 t431) (fun s435 t436 => (if (s435.1 29) = 0 then (if (s435.1 29) = 0 then (px_bi (f_M_closed_28 K N s435 t436) (fun v445 s442 t443 => (px_bi (f_M_answer_28 K N v445 s442 t443) (fun v450 s447 t448 => (some (.inl (some (.int v450)), s447, t448))) (fun x451 s447 t448 => none))) (fun x446 s442 t443 => none)) else (px_bv (f_M_bringHome_28 K N s435 t436) (fun s452 t453 => (px_bi (f_M_closed_28 K N s452 t453) (fun v460 s457 t458 => (px_bi (f_M_answer_28 K N v460 s457 t458) (fun v465 s462 t463 => (some (.inl (some (.int v465)), s462, t463))) (fun x466 s462 t463 => none))) (fun x461 s457 t458 => none))) (fun x456 s452 t453 => none))) else (px_bv (f_M_loadsTree_28 K N s435 t436) (fun s467 t468 => (if (s467.1 29) = 0 then (px_bi (f_M_closed_28 K N s467 t468) (fun v476 s473 t474 => (px_bi (f_M_answer_28 K N v476 s473 t474) (fun v481 s478 t479 => (some (.inl (some (.int v481)), s478, t479))) (fun x482 s478 t479 => none))) (fun x477 s473 t474 => none)) else (px_bv (f_M_bringHome_28 K N s467 t468) (fun s483 t484 => (px_bi (f_M_closed_28 K N s483 t484) (fun v491 s488 t489 => (px_bi (f_M_answer_28 K N v491 s488 t489) (fun v496 s493 t494 => (some (.inl (some (.int v496)), s493, t494))) (fun x497 s493 t494 => none))) (fun x492 s488 t489 => none))) (fun x487 s483 t484 => none)))) (fun x471 s467 t468 => none)))) (fun x439 s435 t436 => none))) (fun x434 s430 t431 => none)))) (fun x350 s346 t347 => none))) (fun x345 s341 t342 => none)) else (px_let (sR s338 30 a1) (fun s498 => (px_let (sQ s498 3 a2) (fun s500 => (px_bv (f_M_redo_28 K N s500 t4) (fun s502 t503 => (px_bv (f_M_noSlots_28 K N s502 t503) (fun s507 t508 => (if a0 = 0 then (px_bi (f_M_read_28 K N (0 : Int32) (0 : Int32) (0 : Int32) s507 t508) (fun v516 s513 t514 => (px_bv (f_M_three_28_43 K N (v516 + (1 : Int32)) (0 : Int32) (0 : Int32) s513 t514) (fun s518 t519 => (px_bv (f_M_write_28_43 K N (0 : Int32) (0 : Int32) (0 : Int32) s518 t519) (fun s523 t524 => (px_bv (f_M_flush_28 K N (0 : Int32) s523 t524) (fun s528 t529 => (if (s528.1 29) = 0 then (if (s528.1 29) = 0 then (px_bi (f_M_closed_28 K N s528 t529) (fun v538 s535 t536 => (px_bi (f_M_answer_28 K N v538 s535 t536) (fun v543 s540 t541 => (some (.inl (some (.int v543)), s540, t541))) (fun x544 s540 t541 => none))) (fun x539 s535 t536 => none)) else (px_bv (f_M_bringHome_28 K N s528 t529) (fun s545 t546 => (px_bi (f_M_closed_28 K N s545 t546) (fun v553 s550 t551 => (px_bi (f_M_answer_28 K N v553 s550 t551) (fun v558 s555 t556 => (some (.inl (some (.int v558)), s555, t556))) (fun x559 s555 t556 => none))) (fun x554 s550 t551 => none))) (fun x549 s545 t546 => none))) else (px_bv (f_M_loadsTree_28 K N s528 t529) (fun s560 t561 => (if (s560.1 29) = 0 then (px_bi (f_M_closed_28 K N s560 t561) (fun v569 s566 t567 => (px_bi (f_M_answer_28 K N v569 s566 t567) (fun v574 s571 t572 => (some (.inl (some (.int v574)), s571, t572))) (fun x575 s571 t572 => none))) (fun x570 s566 t567 => none)) else (px_bv (f_M_bringHome_28 K N s560 t561) (fun s576 t577 => (px_bi (f_M_closed_28 K N s576 t577) (fun v584 s581 t582 => (px_bi (f_M_answer_28 K N v584 s581 t582) (fun v589 s586 t587 => (some (.inl (some (.int v589)), s586, t587))) (fun x590 s586 t587 => none))) (fun x585 s581 t582 => none))) (fun x580 s576 t577 => none)))) (fun x564 s560 t561 => none)))) (fun x532 s528 t529 => none))) (fun x527 s523 t524 => none))) (fun x522 s518 t519 => none))) (fun x517 s513 t514 => none)) else (px_bv (f_M_takesHalf_28 K N v6 s507 t508) (fun s591 t592 => (px_bv (f_M_changeHalves_28 K N s591 t592) (fun s596 t597 => (if (s596.1 29) = 0 then (if (s596.1 29) = 0 then (px_bi (f_M_closed_28 K N s596 t597) (fun v606 s603 t604 => (px_bi (f_M_answer_28 K N v606 s603 t604) (fun v611 s608 t609 => (some (.inl (some (.int v611)), s608, t609))) (fun x612 s608 t609 => none))) (fun x607 s603 t604 => none)) else (px_bv (f_M_bringHome_28 K N s596 t597) (fun s613 t614 => (px_bi (f_M_closed_28 K N s613 t614) (fun v621 s618 t619 => (px_bi (f_M_answer_28 K N v621 s618 t619) (fun v626 s623 t624 => (some (.inl (some (.int v626)), s623, t624))) (fun x627 s623 t624 => none))) (fun x622 s618 t619 => none))) (fun x617 s613 t614 => none))) else (px_bv (f_M_loadsTree_28 K N s596 t597) (fun s628 t629 => (if (s628.1 29) = 0 then (px_bi (f_M_closed_28 K N s628 t629) (fun v637 s634 t635 => (px_bi (f_M_answer_28 K N v637 s634 t635) (fun v642 s639 t640 => (some (.inl (some (.int v642)), s639, t640))) (fun x643 s639 t640 => none))) (fun x638 s634 t635 => none)) else (px_bv (f_M_bringHome_28 K N s628 t629) (fun s644 t645 => (px_bi (f_M_closed_28 K N s644 t645) (fun v652 s649 t650 => (px_bi (f_M_answer_28 K N v652 s649 t650) (fun v657 s654 t655 => (some (.inl (some (.int v657)), s654, t655))) (fun x658 s654 t655 => none))) (fun x653 s649 t650 => none))) (fun x648 s644 t645 => none)))) (fun x632 s628 t629 => none)))) (fun x600 s596 t597 => none))) (fun x595 s591 t592 => none)))) (fun x511 s507 t508 => none))) (fun x506 s502 t503 => none)))))))))))) else (some (.inl (some (.int (-1 : Int32))), s3, t4)))))) (fun x7 s3 t4 => none))))
set_option maxRecDepth 100000 in
theorem e_M_mount_28 (K : px_K) (N : Nat) (a0 : Int32) (a1 : Int32) (a2 : Int64) (s : px_S) (t : px_W) (r : px_Res) (h : f_M_mount_28 K N a0 a1 a2 s t = some r) : px_E px_ET px_P 11 96 0 (px_ent 6 [.ref 28, .int a0, .int a1, .long a2]) [] (px_w K s t) r.1 (px_w K r.2.1 r.2.2) := by
  have hM : px_P[96]? = some pm_M_mount := rfl
  unfold f_M_mount_28 at h
  refine px_blk (i' := 3) (L' := [some (.ref 28), some (.int a0), some (.int a1), some (.long a2), none, none]) (S' := []) (w' := px_w K (sR s 25 (0 : Int32)) t) (q := []) 3 hM rfl trivial ?_
  obtain ⟨s1, hs2, h⟩ := px_let_some h
  rw [← hs2]
  refine px_blk (i' := 4) (L' := [some (.ref 28), some (.int a0), some (.int a1), some (.long a2), none, none]) (S' := [.ref 28]) (w' := px_w K s1 t) (q := []) 1 hM rfl trivial ?_
  rcases px_bi_some h with ⟨v6, s3, t4, hk5, h⟩ | ⟨x7, s3, t4, hk5, h⟩
  · refine px_E_call hM rfl rfl rfl rfl (px_E_mono (by decide) (e_M_halfThatCounts_28 K N s1 t _ hk5)) ?_
    refine px_blkif (c := ¬ (s3.1 29) = 0) (t := 13) (e := 9) (L' := [some (.ref 28), some (.int a0), some (.int a1), some (.long a2), none, some (.int v6)]) (S' := []) (w' := px_w K s3 t4) (q := []) 4 hM rfl trivial (fun hc8 => ?_) (fun hc8 => ?_)
    · rw [if_pos hc8] at h
      refine px_blk (i' := 14) (L' := [some (.ref 28), some (.int a0), some (.int a1), some (.long a2), none, some (.int v6)]) (S' := [.int (-1 : Int32)]) (w' := px_w K s3 t4) (q := []) 1 hM rfl trivial ?_
      cases h
      exact px_E_ret hM rfl rfl rfl trivial
    · rw [if_neg hc8] at h
      refine px_blkif (c := a0 = 0) (t := 15) (e := 11) (L' := [some (.ref 28), some (.int a0), some (.int a1), some (.long a2), none, some (.int v6)]) (S' := []) (w' := px_w K s3 t4) (q := []) 2 hM rfl trivial (fun hc9 => ?_) (fun hc9 => ?_)
      · rw [if_pos hc9] at h
        refine px_blk (i' := 18) (L' := [some (.ref 28), some (.int a0), some (.int a1), some (.long a2), none, some (.int v6)]) (S' := []) (w' := px_w K (sR s3 29 (1 : Int32)) t4) (q := [(1 : Int32) = 0 ∨ (1 : Int32) = 1]) 3 hM rfl (show (1 : Int32) = 0 ∨ (1 : Int32) = 1 from Or.inr rfl) ?_
        obtain ⟨s10, hs11, h⟩ := px_let_some h
        rw [← hs11]
        obtain ⟨hq12, h⟩ := px_gd_some h
        refine px_blk (i' := 21) (L' := [some (.ref 28), some (.int a0), some (.int a1), some (.long a2), none, some (.int v6)]) (S' := []) (w' := px_w K (sR s10 31 a0) t4) (q := [a0 = 0 ∨ a0 = 1]) 3 hM rfl (show a0 = 0 ∨ a0 = 1 from hq12) ?_
        obtain ⟨s13, hs14, h⟩ := px_let_some h
        rw [← hs14]
        refine px_blkif (c := a1 ≤ 0) (t := 29) (e := 23) (L' := [some (.ref 28), some (.int a0), some (.int a1), some (.long a2), none, some (.int v6)]) (S' := []) (w' := px_w K s13 t4) (q := []) 2 hM rfl trivial (fun hc15 => ?_) (fun hc15 => ?_)
        · rw [if_pos hc15] at h
          refine px_blk (i' := 30) (L' := [some (.ref 28), some (.int a0), some (.int a1), some (.long a2), none, some (.int v6)]) (S' := [.ref 28]) (w' := px_w K s13 t4) (q := []) 1 hM rfl trivial ?_
          rcases px_bv_some h with ⟨s16, t17, hk18, h⟩ | ⟨x20, s16, t17, hk18, h⟩
          · refine px_E_call hM rfl rfl rfl rfl (px_E_mono (by decide) (e_M_redo_28 K N s13 t4 _ hk18)) ?_
            refine px_blk (i' := 32) (L' := [some (.ref 28), some (.int a0), some (.int a1), some (.long a2), none, some (.int v6)]) (S' := [.ref 28]) (w' := px_w K s16 t17) (q := []) 1 hM rfl trivial ?_
            rcases px_bv_some h with ⟨s21, t22, hk23, h⟩ | ⟨x25, s21, t22, hk23, h⟩
            · refine px_E_call hM rfl rfl rfl rfl (px_E_mono (by decide) (e_M_noSlots_28 K N s16 t17 _ hk23)) ?_
              refine px_blkif (c := a0 = 0) (t := 41) (e := 35) (L' := [some (.ref 28), some (.int a0), some (.int a1), some (.long a2), none, some (.int v6)]) (S' := []) (w' := px_w K s21 t22) (q := []) 2 hM rfl trivial (fun hc26 => ?_) (fun hc26 => ?_)
              · rw [if_pos hc26] at h
                refine px_blk (i' := 48) (L' := [some (.ref 28), some (.int a0), some (.int a1), some (.long a2), none, some (.int v6)]) (S' := [.int (0 : Int32), .int (0 : Int32), .int (0 : Int32), .ref 28, .ref 43, .ref 28]) (w' := px_w K s21 t22) (q := []) 7 hM rfl trivial ?_
                rcases px_bi_some h with ⟨v30, s27, t28, hk29, h⟩ | ⟨x31, s27, t28, hk29, h⟩
                · refine px_E_call hM rfl rfl rfl rfl (px_E_mono (by decide) (e_M_read_28 K N (0 : Int32) (0 : Int32) (0 : Int32) s21 t22 _ hk29)) ?_
                  refine px_blk (i' := 53) (L' := [some (.ref 28), some (.int a0), some (.int a1), some (.long a2), none, some (.int v6)]) (S' := [.int (0 : Int32), .int (0 : Int32), .int (v30 + (1 : Int32)), .ref 43, .ref 28]) (w' := px_w K s27 t28) (q := []) 4 hM rfl trivial ?_
                  rcases px_bv_some h with ⟨s32, t33, hk34, h⟩ | ⟨x36, s32, t33, hk34, h⟩
                  · refine px_E_call hM rfl rfl rfl rfl (px_E_mono (by decide) (e_M_three_28_43 K N (v30 + (1 : Int32)) (0 : Int32) (0 : Int32) s27 t28 _ hk34)) ?_
                    refine px_blk (i' := 60) (L' := [some (.ref 28), some (.int a0), some (.int a1), some (.long a2), none, some (.int v6)]) (S' := [.int (0 : Int32), .ref 43, .int (0 : Int32), .int (0 : Int32), .ref 28]) (w' := px_w K s32 t33) (q := []) 6 hM rfl trivial ?_
                    rcases px_bv_some h with ⟨s37, t38, hk39, h⟩ | ⟨x41, s37, t38, hk39, h⟩
                    · refine px_E_call hM rfl rfl rfl rfl (px_E_mono (by decide) (e_M_write_28_43 K N (0 : Int32) (0 : Int32) (0 : Int32) s32 t33 _ hk39)) ?_
                      refine px_blk (i' := 63) (L' := [some (.ref 28), some (.int a0), some (.int a1), some (.long a2), none, some (.int v6)]) (S' := [.int (0 : Int32), .ref 28]) (w' := px_w K s37 t38) (q := []) 2 hM rfl trivial ?_
                      rcases px_bv_some h with ⟨s42, t43, hk44, h⟩ | ⟨x46, s42, t43, hk44, h⟩
                      · refine px_E_call hM rfl rfl rfl rfl (px_E_mono (by decide) (e_M_flush_28 K N (0 : Int32) s37 t38 _ hk44)) ?_
                        refine px_blkif (c := (s42.1 29) = 0) (t := 69) (e := 67) (L' := [some (.ref 28), some (.int a0), some (.int a1), some (.long a2), none, some (.int v6)]) (S' := []) (w' := px_w K s42 t43) (q := []) 3 hM rfl trivial (fun hc47 => ?_) (fun hc47 => ?_)
                        · rw [if_pos hc47] at h
                          refine px_blkif (c := (s42.1 29) = 0) (t := 74) (e := 72) (L' := [some (.ref 28), some (.int a0), some (.int a1), some (.long a2), none, some (.int v6)]) (S' := []) (w' := px_w K s42 t43) (q := []) 3 hM rfl trivial (fun hc48 => ?_) (fun hc48 => ?_)
                          · rw [if_pos hc48] at h
                            refine px_blk (i' := 76) (L' := [some (.ref 28), some (.int a0), some (.int a1), some (.long a2), none, some (.int v6)]) (S' := [.ref 28, .ref 28]) (w' := px_w K s42 t43) (q := []) 2 hM rfl trivial ?_
                            rcases px_bi_some h with ⟨v52, s49, t50, hk51, h⟩ | ⟨x53, s49, t50, hk51, h⟩
                            · refine px_E_call hM rfl rfl rfl rfl (px_E_mono (by decide) (e_M_closed_28 K N s42 t43 _ hk51)) ?_
                              rcases px_bi_some h with ⟨v57, s54, t55, hk56, h⟩ | ⟨x58, s54, t55, hk56, h⟩
                              · refine px_E_call hM rfl rfl rfl rfl (px_E_mono (by decide) (e_M_answer_28 K N v52 s49 t50 _ hk56)) ?_
                                cases h
                                exact px_E_ret hM rfl rfl rfl trivial
                              · cases h
                            · cases h
                          · rw [if_neg hc48] at h
                            refine px_blk (i' := 73) (L' := [some (.ref 28), some (.int a0), some (.int a1), some (.long a2), none, some (.int v6)]) (S' := [.ref 28]) (w' := px_w K s42 t43) (q := []) 1 hM rfl trivial ?_
                            rcases px_bv_some h with ⟨s59, t60, hk61, h⟩ | ⟨x63, s59, t60, hk61, h⟩
                            · refine px_E_call hM rfl rfl rfl rfl (px_E_mono (by decide) (e_M_bringHome_28 K N s42 t43 _ hk61)) ?_
                              refine px_blk (i' := 76) (L' := [some (.ref 28), some (.int a0), some (.int a1), some (.long a2), none, some (.int v6)]) (S' := [.ref 28, .ref 28]) (w' := px_w K s59 t60) (q := []) 2 hM rfl trivial ?_
                              rcases px_bi_some h with ⟨v67, s64, t65, hk66, h⟩ | ⟨x68, s64, t65, hk66, h⟩
                              · refine px_E_call hM rfl rfl rfl rfl (px_E_mono (by decide) (e_M_closed_28 K N s59 t60 _ hk66)) ?_
                                rcases px_bi_some h with ⟨v72, s69, t70, hk71, h⟩ | ⟨x73, s69, t70, hk71, h⟩
                                · refine px_E_call hM rfl rfl rfl rfl (px_E_mono (by decide) (e_M_answer_28 K N v67 s64 t65 _ hk71)) ?_
                                  cases h
                                  exact px_E_ret hM rfl rfl rfl trivial
                                · cases h
                              · cases h
                            · cases h
                        · rw [if_neg hc47] at h
                          refine px_blk (i' := 68) (L' := [some (.ref 28), some (.int a0), some (.int a1), some (.long a2), none, some (.int v6)]) (S' := [.ref 28]) (w' := px_w K s42 t43) (q := []) 1 hM rfl trivial ?_
                          rcases px_bv_some h with ⟨s74, t75, hk76, h⟩ | ⟨x78, s74, t75, hk76, h⟩
                          · refine px_E_call hM rfl rfl rfl rfl (px_E_mono (by decide) (e_M_loadsTree_28 K N s42 t43 _ hk76)) ?_
                            refine px_blkif (c := (s74.1 29) = 0) (t := 74) (e := 72) (L' := [some (.ref 28), some (.int a0), some (.int a1), some (.long a2), none, some (.int v6)]) (S' := []) (w' := px_w K s74 t75) (q := []) 3 hM rfl trivial (fun hc79 => ?_) (fun hc79 => ?_)
                            · rw [if_pos hc79] at h
                              refine px_blk (i' := 76) (L' := [some (.ref 28), some (.int a0), some (.int a1), some (.long a2), none, some (.int v6)]) (S' := [.ref 28, .ref 28]) (w' := px_w K s74 t75) (q := []) 2 hM rfl trivial ?_
                              rcases px_bi_some h with ⟨v83, s80, t81, hk82, h⟩ | ⟨x84, s80, t81, hk82, h⟩
                              · refine px_E_call hM rfl rfl rfl rfl (px_E_mono (by decide) (e_M_closed_28 K N s74 t75 _ hk82)) ?_
                                rcases px_bi_some h with ⟨v88, s85, t86, hk87, h⟩ | ⟨x89, s85, t86, hk87, h⟩
                                · refine px_E_call hM rfl rfl rfl rfl (px_E_mono (by decide) (e_M_answer_28 K N v83 s80 t81 _ hk87)) ?_
                                  cases h
                                  exact px_E_ret hM rfl rfl rfl trivial
                                · cases h
                              · cases h
                            · rw [if_neg hc79] at h
                              refine px_blk (i' := 73) (L' := [some (.ref 28), some (.int a0), some (.int a1), some (.long a2), none, some (.int v6)]) (S' := [.ref 28]) (w' := px_w K s74 t75) (q := []) 1 hM rfl trivial ?_
                              rcases px_bv_some h with ⟨s90, t91, hk92, h⟩ | ⟨x94, s90, t91, hk92, h⟩
                              · refine px_E_call hM rfl rfl rfl rfl (px_E_mono (by decide) (e_M_bringHome_28 K N s74 t75 _ hk92)) ?_
                                refine px_blk (i' := 76) (L' := [some (.ref 28), some (.int a0), some (.int a1), some (.long a2), none, some (.int v6)]) (S' := [.ref 28, .ref 28]) (w' := px_w K s90 t91) (q := []) 2 hM rfl trivial ?_
                                rcases px_bi_some h with ⟨v98, s95, t96, hk97, h⟩ | ⟨x99, s95, t96, hk97, h⟩
                                · refine px_E_call hM rfl rfl rfl rfl (px_E_mono (by decide) (e_M_closed_28 K N s90 t91 _ hk97)) ?_
                                  rcases px_bi_some h with ⟨v103, s100, t101, hk102, h⟩ | ⟨x104, s100, t101, hk102, h⟩
                                  · refine px_E_call hM rfl rfl rfl rfl (px_E_mono (by decide) (e_M_answer_28 K N v98 s95 t96 _ hk102)) ?_
                                    cases h
                                    exact px_E_ret hM rfl rfl rfl trivial
                                  · cases h
                                · cases h
                              · cases h
                          · cases h
                      · cases h
                    · cases h
                  · cases h
                · cases h
              · rw [if_neg hc26] at h
                refine px_blk (i' := 37) (L' := [some (.ref 28), some (.int a0), some (.int a1), some (.long a2), none, some (.int v6)]) (S' := [.int v6, .ref 28]) (w' := px_w K s21 t22) (q := []) 2 hM rfl trivial ?_
                rcases px_bv_some h with ⟨s105, t106, hk107, h⟩ | ⟨x109, s105, t106, hk107, h⟩
                · refine px_E_call hM rfl rfl rfl rfl (px_E_mono (by decide) (e_M_takesHalf_28 K N v6 s21 t22 _ hk107)) ?_
                  refine px_blk (i' := 39) (L' := [some (.ref 28), some (.int a0), some (.int a1), some (.long a2), none, some (.int v6)]) (S' := [.ref 28]) (w' := px_w K s105 t106) (q := []) 1 hM rfl trivial ?_
                  rcases px_bv_some h with ⟨s110, t111, hk112, h⟩ | ⟨x114, s110, t111, hk112, h⟩
                  · refine px_E_call hM rfl rfl rfl rfl (px_E_mono (by decide) (e_M_changeHalves_28 K N s105 t106 _ hk112)) ?_
                    refine px_blkif (c := (s110.1 29) = 0) (t := 69) (e := 67) (L' := [some (.ref 28), some (.int a0), some (.int a1), some (.long a2), none, some (.int v6)]) (S' := []) (w' := px_w K s110 t111) (q := []) 4 hM rfl trivial (fun hc115 => ?_) (fun hc115 => ?_)
                    · rw [if_pos hc115] at h
                      refine px_blkif (c := (s110.1 29) = 0) (t := 74) (e := 72) (L' := [some (.ref 28), some (.int a0), some (.int a1), some (.long a2), none, some (.int v6)]) (S' := []) (w' := px_w K s110 t111) (q := []) 3 hM rfl trivial (fun hc116 => ?_) (fun hc116 => ?_)
                      · rw [if_pos hc116] at h
                        refine px_blk (i' := 76) (L' := [some (.ref 28), some (.int a0), some (.int a1), some (.long a2), none, some (.int v6)]) (S' := [.ref 28, .ref 28]) (w' := px_w K s110 t111) (q := []) 2 hM rfl trivial ?_
                        rcases px_bi_some h with ⟨v120, s117, t118, hk119, h⟩ | ⟨x121, s117, t118, hk119, h⟩
                        · refine px_E_call hM rfl rfl rfl rfl (px_E_mono (by decide) (e_M_closed_28 K N s110 t111 _ hk119)) ?_
                          rcases px_bi_some h with ⟨v125, s122, t123, hk124, h⟩ | ⟨x126, s122, t123, hk124, h⟩
                          · refine px_E_call hM rfl rfl rfl rfl (px_E_mono (by decide) (e_M_answer_28 K N v120 s117 t118 _ hk124)) ?_
                            cases h
                            exact px_E_ret hM rfl rfl rfl trivial
                          · cases h
                        · cases h
                      · rw [if_neg hc116] at h
                        refine px_blk (i' := 73) (L' := [some (.ref 28), some (.int a0), some (.int a1), some (.long a2), none, some (.int v6)]) (S' := [.ref 28]) (w' := px_w K s110 t111) (q := []) 1 hM rfl trivial ?_
                        rcases px_bv_some h with ⟨s127, t128, hk129, h⟩ | ⟨x131, s127, t128, hk129, h⟩
                        · refine px_E_call hM rfl rfl rfl rfl (px_E_mono (by decide) (e_M_bringHome_28 K N s110 t111 _ hk129)) ?_
                          refine px_blk (i' := 76) (L' := [some (.ref 28), some (.int a0), some (.int a1), some (.long a2), none, some (.int v6)]) (S' := [.ref 28, .ref 28]) (w' := px_w K s127 t128) (q := []) 2 hM rfl trivial ?_
                          rcases px_bi_some h with ⟨v135, s132, t133, hk134, h⟩ | ⟨x136, s132, t133, hk134, h⟩
                          · refine px_E_call hM rfl rfl rfl rfl (px_E_mono (by decide) (e_M_closed_28 K N s127 t128 _ hk134)) ?_
                            rcases px_bi_some h with ⟨v140, s137, t138, hk139, h⟩ | ⟨x141, s137, t138, hk139, h⟩
                            · refine px_E_call hM rfl rfl rfl rfl (px_E_mono (by decide) (e_M_answer_28 K N v135 s132 t133 _ hk139)) ?_
                              cases h
                              exact px_E_ret hM rfl rfl rfl trivial
                            · cases h
                          · cases h
                        · cases h
                    · rw [if_neg hc115] at h
                      refine px_blk (i' := 68) (L' := [some (.ref 28), some (.int a0), some (.int a1), some (.long a2), none, some (.int v6)]) (S' := [.ref 28]) (w' := px_w K s110 t111) (q := []) 1 hM rfl trivial ?_
                      rcases px_bv_some h with ⟨s142, t143, hk144, h⟩ | ⟨x146, s142, t143, hk144, h⟩
                      · refine px_E_call hM rfl rfl rfl rfl (px_E_mono (by decide) (e_M_loadsTree_28 K N s110 t111 _ hk144)) ?_
                        refine px_blkif (c := (s142.1 29) = 0) (t := 74) (e := 72) (L' := [some (.ref 28), some (.int a0), some (.int a1), some (.long a2), none, some (.int v6)]) (S' := []) (w' := px_w K s142 t143) (q := []) 3 hM rfl trivial (fun hc147 => ?_) (fun hc147 => ?_)
                        · rw [if_pos hc147] at h
                          refine px_blk (i' := 76) (L' := [some (.ref 28), some (.int a0), some (.int a1), some (.long a2), none, some (.int v6)]) (S' := [.ref 28, .ref 28]) (w' := px_w K s142 t143) (q := []) 2 hM rfl trivial ?_
                          rcases px_bi_some h with ⟨v151, s148, t149, hk150, h⟩ | ⟨x152, s148, t149, hk150, h⟩
                          · refine px_E_call hM rfl rfl rfl rfl (px_E_mono (by decide) (e_M_closed_28 K N s142 t143 _ hk150)) ?_
                            rcases px_bi_some h with ⟨v156, s153, t154, hk155, h⟩ | ⟨x157, s153, t154, hk155, h⟩
                            · refine px_E_call hM rfl rfl rfl rfl (px_E_mono (by decide) (e_M_answer_28 K N v151 s148 t149 _ hk155)) ?_
                              cases h
                              exact px_E_ret hM rfl rfl rfl trivial
                            · cases h
                          · cases h
                        · rw [if_neg hc147] at h
                          refine px_blk (i' := 73) (L' := [some (.ref 28), some (.int a0), some (.int a1), some (.long a2), none, some (.int v6)]) (S' := [.ref 28]) (w' := px_w K s142 t143) (q := []) 1 hM rfl trivial ?_
                          rcases px_bv_some h with ⟨s158, t159, hk160, h⟩ | ⟨x162, s158, t159, hk160, h⟩
                          · refine px_E_call hM rfl rfl rfl rfl (px_E_mono (by decide) (e_M_bringHome_28 K N s142 t143 _ hk160)) ?_
                            refine px_blk (i' := 76) (L' := [some (.ref 28), some (.int a0), some (.int a1), some (.long a2), none, some (.int v6)]) (S' := [.ref 28, .ref 28]) (w' := px_w K s158 t159) (q := []) 2 hM rfl trivial ?_
                            rcases px_bi_some h with ⟨v166, s163, t164, hk165, h⟩ | ⟨x167, s163, t164, hk165, h⟩
                            · refine px_E_call hM rfl rfl rfl rfl (px_E_mono (by decide) (e_M_closed_28 K N s158 t159 _ hk165)) ?_
                              rcases px_bi_some h with ⟨v171, s168, t169, hk170, h⟩ | ⟨x172, s168, t169, hk170, h⟩
                              · refine px_E_call hM rfl rfl rfl rfl (px_E_mono (by decide) (e_M_answer_28 K N v166 s163 t164 _ hk170)) ?_
                                cases h
                                exact px_E_ret hM rfl rfl rfl trivial
                              · cases h
                            · cases h
                          · cases h
                      · cases h
                  · cases h
                · cases h
            · cases h
          · cases h
        · rw [if_neg hc15] at h
          refine px_blk (i' := 26) (L' := [some (.ref 28), some (.int a0), some (.int a1), some (.long a2), none, some (.int v6)]) (S' := []) (w' := px_w K (sR s13 30 a1) t4) (q := []) 3 hM rfl trivial ?_
          obtain ⟨s173, hs174, h⟩ := px_let_some h
          rw [← hs174]
          refine px_blk (i' := 29) (L' := [some (.ref 28), some (.int a0), some (.int a1), some (.long a2), none, some (.int v6)]) (S' := []) (w' := px_w K (sQ s173 3 a2) t4) (q := []) 3 hM rfl trivial ?_
          obtain ⟨s175, hs176, h⟩ := px_let_some h
          rw [← hs176]
          refine px_blk (i' := 30) (L' := [some (.ref 28), some (.int a0), some (.int a1), some (.long a2), none, some (.int v6)]) (S' := [.ref 28]) (w' := px_w K s175 t4) (q := []) 1 hM rfl trivial ?_
          rcases px_bv_some h with ⟨s177, t178, hk179, h⟩ | ⟨x181, s177, t178, hk179, h⟩
          · refine px_E_call hM rfl rfl rfl rfl (px_E_mono (by decide) (e_M_redo_28 K N s175 t4 _ hk179)) ?_
            refine px_blk (i' := 32) (L' := [some (.ref 28), some (.int a0), some (.int a1), some (.long a2), none, some (.int v6)]) (S' := [.ref 28]) (w' := px_w K s177 t178) (q := []) 1 hM rfl trivial ?_
            rcases px_bv_some h with ⟨s182, t183, hk184, h⟩ | ⟨x186, s182, t183, hk184, h⟩
            · refine px_E_call hM rfl rfl rfl rfl (px_E_mono (by decide) (e_M_noSlots_28 K N s177 t178 _ hk184)) ?_
              refine px_blkif (c := a0 = 0) (t := 41) (e := 35) (L' := [some (.ref 28), some (.int a0), some (.int a1), some (.long a2), none, some (.int v6)]) (S' := []) (w' := px_w K s182 t183) (q := []) 2 hM rfl trivial (fun hc187 => ?_) (fun hc187 => ?_)
              · rw [if_pos hc187] at h
                refine px_blk (i' := 48) (L' := [some (.ref 28), some (.int a0), some (.int a1), some (.long a2), none, some (.int v6)]) (S' := [.int (0 : Int32), .int (0 : Int32), .int (0 : Int32), .ref 28, .ref 43, .ref 28]) (w' := px_w K s182 t183) (q := []) 7 hM rfl trivial ?_
                rcases px_bi_some h with ⟨v191, s188, t189, hk190, h⟩ | ⟨x192, s188, t189, hk190, h⟩
                · refine px_E_call hM rfl rfl rfl rfl (px_E_mono (by decide) (e_M_read_28 K N (0 : Int32) (0 : Int32) (0 : Int32) s182 t183 _ hk190)) ?_
                  refine px_blk (i' := 53) (L' := [some (.ref 28), some (.int a0), some (.int a1), some (.long a2), none, some (.int v6)]) (S' := [.int (0 : Int32), .int (0 : Int32), .int (v191 + (1 : Int32)), .ref 43, .ref 28]) (w' := px_w K s188 t189) (q := []) 4 hM rfl trivial ?_
                  rcases px_bv_some h with ⟨s193, t194, hk195, h⟩ | ⟨x197, s193, t194, hk195, h⟩
                  · refine px_E_call hM rfl rfl rfl rfl (px_E_mono (by decide) (e_M_three_28_43 K N (v191 + (1 : Int32)) (0 : Int32) (0 : Int32) s188 t189 _ hk195)) ?_
                    refine px_blk (i' := 60) (L' := [some (.ref 28), some (.int a0), some (.int a1), some (.long a2), none, some (.int v6)]) (S' := [.int (0 : Int32), .ref 43, .int (0 : Int32), .int (0 : Int32), .ref 28]) (w' := px_w K s193 t194) (q := []) 6 hM rfl trivial ?_
                    rcases px_bv_some h with ⟨s198, t199, hk200, h⟩ | ⟨x202, s198, t199, hk200, h⟩
                    · refine px_E_call hM rfl rfl rfl rfl (px_E_mono (by decide) (e_M_write_28_43 K N (0 : Int32) (0 : Int32) (0 : Int32) s193 t194 _ hk200)) ?_
                      refine px_blk (i' := 63) (L' := [some (.ref 28), some (.int a0), some (.int a1), some (.long a2), none, some (.int v6)]) (S' := [.int (0 : Int32), .ref 28]) (w' := px_w K s198 t199) (q := []) 2 hM rfl trivial ?_
                      rcases px_bv_some h with ⟨s203, t204, hk205, h⟩ | ⟨x207, s203, t204, hk205, h⟩
                      · refine px_E_call hM rfl rfl rfl rfl (px_E_mono (by decide) (e_M_flush_28 K N (0 : Int32) s198 t199 _ hk205)) ?_
                        refine px_blkif (c := (s203.1 29) = 0) (t := 69) (e := 67) (L' := [some (.ref 28), some (.int a0), some (.int a1), some (.long a2), none, some (.int v6)]) (S' := []) (w' := px_w K s203 t204) (q := []) 3 hM rfl trivial (fun hc208 => ?_) (fun hc208 => ?_)
                        · rw [if_pos hc208] at h
                          refine px_blkif (c := (s203.1 29) = 0) (t := 74) (e := 72) (L' := [some (.ref 28), some (.int a0), some (.int a1), some (.long a2), none, some (.int v6)]) (S' := []) (w' := px_w K s203 t204) (q := []) 3 hM rfl trivial (fun hc209 => ?_) (fun hc209 => ?_)
                          · rw [if_pos hc209] at h
                            refine px_blk (i' := 76) (L' := [some (.ref 28), some (.int a0), some (.int a1), some (.long a2), none, some (.int v6)]) (S' := [.ref 28, .ref 28]) (w' := px_w K s203 t204) (q := []) 2 hM rfl trivial ?_
                            rcases px_bi_some h with ⟨v213, s210, t211, hk212, h⟩ | ⟨x214, s210, t211, hk212, h⟩
                            · refine px_E_call hM rfl rfl rfl rfl (px_E_mono (by decide) (e_M_closed_28 K N s203 t204 _ hk212)) ?_
                              rcases px_bi_some h with ⟨v218, s215, t216, hk217, h⟩ | ⟨x219, s215, t216, hk217, h⟩
                              · refine px_E_call hM rfl rfl rfl rfl (px_E_mono (by decide) (e_M_answer_28 K N v213 s210 t211 _ hk217)) ?_
                                cases h
                                exact px_E_ret hM rfl rfl rfl trivial
                              · cases h
                            · cases h
                          · rw [if_neg hc209] at h
                            refine px_blk (i' := 73) (L' := [some (.ref 28), some (.int a0), some (.int a1), some (.long a2), none, some (.int v6)]) (S' := [.ref 28]) (w' := px_w K s203 t204) (q := []) 1 hM rfl trivial ?_
                            rcases px_bv_some h with ⟨s220, t221, hk222, h⟩ | ⟨x224, s220, t221, hk222, h⟩
                            · refine px_E_call hM rfl rfl rfl rfl (px_E_mono (by decide) (e_M_bringHome_28 K N s203 t204 _ hk222)) ?_
                              refine px_blk (i' := 76) (L' := [some (.ref 28), some (.int a0), some (.int a1), some (.long a2), none, some (.int v6)]) (S' := [.ref 28, .ref 28]) (w' := px_w K s220 t221) (q := []) 2 hM rfl trivial ?_
                              rcases px_bi_some h with ⟨v228, s225, t226, hk227, h⟩ | ⟨x229, s225, t226, hk227, h⟩
                              · refine px_E_call hM rfl rfl rfl rfl (px_E_mono (by decide) (e_M_closed_28 K N s220 t221 _ hk227)) ?_
                                rcases px_bi_some h with ⟨v233, s230, t231, hk232, h⟩ | ⟨x234, s230, t231, hk232, h⟩
                                · refine px_E_call hM rfl rfl rfl rfl (px_E_mono (by decide) (e_M_answer_28 K N v228 s225 t226 _ hk232)) ?_
                                  cases h
                                  exact px_E_ret hM rfl rfl rfl trivial
                                · cases h
                              · cases h
                            · cases h
                        · rw [if_neg hc208] at h
                          refine px_blk (i' := 68) (L' := [some (.ref 28), some (.int a0), some (.int a1), some (.long a2), none, some (.int v6)]) (S' := [.ref 28]) (w' := px_w K s203 t204) (q := []) 1 hM rfl trivial ?_
                          rcases px_bv_some h with ⟨s235, t236, hk237, h⟩ | ⟨x239, s235, t236, hk237, h⟩
                          · refine px_E_call hM rfl rfl rfl rfl (px_E_mono (by decide) (e_M_loadsTree_28 K N s203 t204 _ hk237)) ?_
                            refine px_blkif (c := (s235.1 29) = 0) (t := 74) (e := 72) (L' := [some (.ref 28), some (.int a0), some (.int a1), some (.long a2), none, some (.int v6)]) (S' := []) (w' := px_w K s235 t236) (q := []) 3 hM rfl trivial (fun hc240 => ?_) (fun hc240 => ?_)
                            · rw [if_pos hc240] at h
                              refine px_blk (i' := 76) (L' := [some (.ref 28), some (.int a0), some (.int a1), some (.long a2), none, some (.int v6)]) (S' := [.ref 28, .ref 28]) (w' := px_w K s235 t236) (q := []) 2 hM rfl trivial ?_
                              rcases px_bi_some h with ⟨v244, s241, t242, hk243, h⟩ | ⟨x245, s241, t242, hk243, h⟩
                              · refine px_E_call hM rfl rfl rfl rfl (px_E_mono (by decide) (e_M_closed_28 K N s235 t236 _ hk243)) ?_
                                rcases px_bi_some h with ⟨v249, s246, t247, hk248, h⟩ | ⟨x250, s246, t247, hk248, h⟩
                                · refine px_E_call hM rfl rfl rfl rfl (px_E_mono (by decide) (e_M_answer_28 K N v244 s241 t242 _ hk248)) ?_
                                  cases h
                                  exact px_E_ret hM rfl rfl rfl trivial
                                · cases h
                              · cases h
                            · rw [if_neg hc240] at h
                              refine px_blk (i' := 73) (L' := [some (.ref 28), some (.int a0), some (.int a1), some (.long a2), none, some (.int v6)]) (S' := [.ref 28]) (w' := px_w K s235 t236) (q := []) 1 hM rfl trivial ?_
                              rcases px_bv_some h with ⟨s251, t252, hk253, h⟩ | ⟨x255, s251, t252, hk253, h⟩
                              · refine px_E_call hM rfl rfl rfl rfl (px_E_mono (by decide) (e_M_bringHome_28 K N s235 t236 _ hk253)) ?_
                                refine px_blk (i' := 76) (L' := [some (.ref 28), some (.int a0), some (.int a1), some (.long a2), none, some (.int v6)]) (S' := [.ref 28, .ref 28]) (w' := px_w K s251 t252) (q := []) 2 hM rfl trivial ?_
                                rcases px_bi_some h with ⟨v259, s256, t257, hk258, h⟩ | ⟨x260, s256, t257, hk258, h⟩
                                · refine px_E_call hM rfl rfl rfl rfl (px_E_mono (by decide) (e_M_closed_28 K N s251 t252 _ hk258)) ?_
                                  rcases px_bi_some h with ⟨v264, s261, t262, hk263, h⟩ | ⟨x265, s261, t262, hk263, h⟩
                                  · refine px_E_call hM rfl rfl rfl rfl (px_E_mono (by decide) (e_M_answer_28 K N v259 s256 t257 _ hk263)) ?_
                                    cases h
                                    exact px_E_ret hM rfl rfl rfl trivial
                                  · cases h
                                · cases h
                              · cases h
                          · cases h
                      · cases h
                    · cases h
                  · cases h
                · cases h
              · rw [if_neg hc187] at h
                refine px_blk (i' := 37) (L' := [some (.ref 28), some (.int a0), some (.int a1), some (.long a2), none, some (.int v6)]) (S' := [.int v6, .ref 28]) (w' := px_w K s182 t183) (q := []) 2 hM rfl trivial ?_
                rcases px_bv_some h with ⟨s266, t267, hk268, h⟩ | ⟨x270, s266, t267, hk268, h⟩
                · refine px_E_call hM rfl rfl rfl rfl (px_E_mono (by decide) (e_M_takesHalf_28 K N v6 s182 t183 _ hk268)) ?_
                  refine px_blk (i' := 39) (L' := [some (.ref 28), some (.int a0), some (.int a1), some (.long a2), none, some (.int v6)]) (S' := [.ref 28]) (w' := px_w K s266 t267) (q := []) 1 hM rfl trivial ?_
                  rcases px_bv_some h with ⟨s271, t272, hk273, h⟩ | ⟨x275, s271, t272, hk273, h⟩
                  · refine px_E_call hM rfl rfl rfl rfl (px_E_mono (by decide) (e_M_changeHalves_28 K N s266 t267 _ hk273)) ?_
                    refine px_blkif (c := (s271.1 29) = 0) (t := 69) (e := 67) (L' := [some (.ref 28), some (.int a0), some (.int a1), some (.long a2), none, some (.int v6)]) (S' := []) (w' := px_w K s271 t272) (q := []) 4 hM rfl trivial (fun hc276 => ?_) (fun hc276 => ?_)
                    · rw [if_pos hc276] at h
                      refine px_blkif (c := (s271.1 29) = 0) (t := 74) (e := 72) (L' := [some (.ref 28), some (.int a0), some (.int a1), some (.long a2), none, some (.int v6)]) (S' := []) (w' := px_w K s271 t272) (q := []) 3 hM rfl trivial (fun hc277 => ?_) (fun hc277 => ?_)
                      · rw [if_pos hc277] at h
                        refine px_blk (i' := 76) (L' := [some (.ref 28), some (.int a0), some (.int a1), some (.long a2), none, some (.int v6)]) (S' := [.ref 28, .ref 28]) (w' := px_w K s271 t272) (q := []) 2 hM rfl trivial ?_
                        rcases px_bi_some h with ⟨v281, s278, t279, hk280, h⟩ | ⟨x282, s278, t279, hk280, h⟩
                        · refine px_E_call hM rfl rfl rfl rfl (px_E_mono (by decide) (e_M_closed_28 K N s271 t272 _ hk280)) ?_
                          rcases px_bi_some h with ⟨v286, s283, t284, hk285, h⟩ | ⟨x287, s283, t284, hk285, h⟩
                          · refine px_E_call hM rfl rfl rfl rfl (px_E_mono (by decide) (e_M_answer_28 K N v281 s278 t279 _ hk285)) ?_
                            cases h
                            exact px_E_ret hM rfl rfl rfl trivial
                          · cases h
                        · cases h
                      · rw [if_neg hc277] at h
                        refine px_blk (i' := 73) (L' := [some (.ref 28), some (.int a0), some (.int a1), some (.long a2), none, some (.int v6)]) (S' := [.ref 28]) (w' := px_w K s271 t272) (q := []) 1 hM rfl trivial ?_
                        rcases px_bv_some h with ⟨s288, t289, hk290, h⟩ | ⟨x292, s288, t289, hk290, h⟩
                        · refine px_E_call hM rfl rfl rfl rfl (px_E_mono (by decide) (e_M_bringHome_28 K N s271 t272 _ hk290)) ?_
                          refine px_blk (i' := 76) (L' := [some (.ref 28), some (.int a0), some (.int a1), some (.long a2), none, some (.int v6)]) (S' := [.ref 28, .ref 28]) (w' := px_w K s288 t289) (q := []) 2 hM rfl trivial ?_
                          rcases px_bi_some h with ⟨v296, s293, t294, hk295, h⟩ | ⟨x297, s293, t294, hk295, h⟩
                          · refine px_E_call hM rfl rfl rfl rfl (px_E_mono (by decide) (e_M_closed_28 K N s288 t289 _ hk295)) ?_
                            rcases px_bi_some h with ⟨v301, s298, t299, hk300, h⟩ | ⟨x302, s298, t299, hk300, h⟩
                            · refine px_E_call hM rfl rfl rfl rfl (px_E_mono (by decide) (e_M_answer_28 K N v296 s293 t294 _ hk300)) ?_
                              cases h
                              exact px_E_ret hM rfl rfl rfl trivial
                            · cases h
                          · cases h
                        · cases h
                    · rw [if_neg hc276] at h
                      refine px_blk (i' := 68) (L' := [some (.ref 28), some (.int a0), some (.int a1), some (.long a2), none, some (.int v6)]) (S' := [.ref 28]) (w' := px_w K s271 t272) (q := []) 1 hM rfl trivial ?_
                      rcases px_bv_some h with ⟨s303, t304, hk305, h⟩ | ⟨x307, s303, t304, hk305, h⟩
                      · refine px_E_call hM rfl rfl rfl rfl (px_E_mono (by decide) (e_M_loadsTree_28 K N s271 t272 _ hk305)) ?_
                        refine px_blkif (c := (s303.1 29) = 0) (t := 74) (e := 72) (L' := [some (.ref 28), some (.int a0), some (.int a1), some (.long a2), none, some (.int v6)]) (S' := []) (w' := px_w K s303 t304) (q := []) 3 hM rfl trivial (fun hc308 => ?_) (fun hc308 => ?_)
                        · rw [if_pos hc308] at h
                          refine px_blk (i' := 76) (L' := [some (.ref 28), some (.int a0), some (.int a1), some (.long a2), none, some (.int v6)]) (S' := [.ref 28, .ref 28]) (w' := px_w K s303 t304) (q := []) 2 hM rfl trivial ?_
                          rcases px_bi_some h with ⟨v312, s309, t310, hk311, h⟩ | ⟨x313, s309, t310, hk311, h⟩
                          · refine px_E_call hM rfl rfl rfl rfl (px_E_mono (by decide) (e_M_closed_28 K N s303 t304 _ hk311)) ?_
                            rcases px_bi_some h with ⟨v317, s314, t315, hk316, h⟩ | ⟨x318, s314, t315, hk316, h⟩
                            · refine px_E_call hM rfl rfl rfl rfl (px_E_mono (by decide) (e_M_answer_28 K N v312 s309 t310 _ hk316)) ?_
                              cases h
                              exact px_E_ret hM rfl rfl rfl trivial
                            · cases h
                          · cases h
                        · rw [if_neg hc308] at h
                          refine px_blk (i' := 73) (L' := [some (.ref 28), some (.int a0), some (.int a1), some (.long a2), none, some (.int v6)]) (S' := [.ref 28]) (w' := px_w K s303 t304) (q := []) 1 hM rfl trivial ?_
                          rcases px_bv_some h with ⟨s319, t320, hk321, h⟩ | ⟨x323, s319, t320, hk321, h⟩
                          · refine px_E_call hM rfl rfl rfl rfl (px_E_mono (by decide) (e_M_bringHome_28 K N s303 t304 _ hk321)) ?_
                            refine px_blk (i' := 76) (L' := [some (.ref 28), some (.int a0), some (.int a1), some (.long a2), none, some (.int v6)]) (S' := [.ref 28, .ref 28]) (w' := px_w K s319 t320) (q := []) 2 hM rfl trivial ?_
                            rcases px_bi_some h with ⟨v327, s324, t325, hk326, h⟩ | ⟨x328, s324, t325, hk326, h⟩
                            · refine px_E_call hM rfl rfl rfl rfl (px_E_mono (by decide) (e_M_closed_28 K N s319 t320 _ hk326)) ?_
                              rcases px_bi_some h with ⟨v332, s329, t330, hk331, h⟩ | ⟨x333, s329, t330, hk331, h⟩
                              · refine px_E_call hM rfl rfl rfl rfl (px_E_mono (by decide) (e_M_answer_28 K N v327 s324 t325 _ hk331)) ?_
                                cases h
                                exact px_E_ret hM rfl rfl rfl trivial
                              · cases h
                            · cases h
                          · cases h
                      · cases h
                  · cases h
                · cases h
            · cases h
          · cases h
      · rw [if_neg hc9] at h
        refine px_blkif (c := 0 ≤ v6) (t := 15) (e := 13) (L' := [some (.ref 28), some (.int a0), some (.int a1), some (.long a2), none, some (.int v6)]) (S' := []) (w' := px_w K s3 t4) (q := []) 2 hM rfl trivial (fun hc334 => ?_) (fun hc334 => ?_)
        · rw [if_pos hc334] at h
          refine px_blk (i' := 18) (L' := [some (.ref 28), some (.int a0), some (.int a1), some (.long a2), none, some (.int v6)]) (S' := []) (w' := px_w K (sR s3 29 (1 : Int32)) t4) (q := [(1 : Int32) = 0 ∨ (1 : Int32) = 1]) 3 hM rfl (show (1 : Int32) = 0 ∨ (1 : Int32) = 1 from Or.inr rfl) ?_
          obtain ⟨s335, hs336, h⟩ := px_let_some h
          rw [← hs336]
          obtain ⟨hq337, h⟩ := px_gd_some h
          refine px_blk (i' := 21) (L' := [some (.ref 28), some (.int a0), some (.int a1), some (.long a2), none, some (.int v6)]) (S' := []) (w' := px_w K (sR s335 31 a0) t4) (q := [a0 = 0 ∨ a0 = 1]) 3 hM rfl (show a0 = 0 ∨ a0 = 1 from hq337) ?_
          obtain ⟨s338, hs339, h⟩ := px_let_some h
          rw [← hs339]
          refine px_blkif (c := a1 ≤ 0) (t := 29) (e := 23) (L' := [some (.ref 28), some (.int a0), some (.int a1), some (.long a2), none, some (.int v6)]) (S' := []) (w' := px_w K s338 t4) (q := []) 2 hM rfl trivial (fun hc340 => ?_) (fun hc340 => ?_)
          · rw [if_pos hc340] at h
            refine px_blk (i' := 30) (L' := [some (.ref 28), some (.int a0), some (.int a1), some (.long a2), none, some (.int v6)]) (S' := [.ref 28]) (w' := px_w K s338 t4) (q := []) 1 hM rfl trivial ?_
            rcases px_bv_some h with ⟨s341, t342, hk343, h⟩ | ⟨x345, s341, t342, hk343, h⟩
            · refine px_E_call hM rfl rfl rfl rfl (px_E_mono (by decide) (e_M_redo_28 K N s338 t4 _ hk343)) ?_
              refine px_blk (i' := 32) (L' := [some (.ref 28), some (.int a0), some (.int a1), some (.long a2), none, some (.int v6)]) (S' := [.ref 28]) (w' := px_w K s341 t342) (q := []) 1 hM rfl trivial ?_
              rcases px_bv_some h with ⟨s346, t347, hk348, h⟩ | ⟨x350, s346, t347, hk348, h⟩
              · refine px_E_call hM rfl rfl rfl rfl (px_E_mono (by decide) (e_M_noSlots_28 K N s341 t342 _ hk348)) ?_
                refine px_blkif (c := a0 = 0) (t := 41) (e := 35) (L' := [some (.ref 28), some (.int a0), some (.int a1), some (.long a2), none, some (.int v6)]) (S' := []) (w' := px_w K s346 t347) (q := []) 2 hM rfl trivial (fun hc351 => ?_) (fun hc351 => ?_)
                · rw [if_pos hc351] at h
                  refine px_blk (i' := 48) (L' := [some (.ref 28), some (.int a0), some (.int a1), some (.long a2), none, some (.int v6)]) (S' := [.int (0 : Int32), .int (0 : Int32), .int (0 : Int32), .ref 28, .ref 43, .ref 28]) (w' := px_w K s346 t347) (q := []) 7 hM rfl trivial ?_
                  rcases px_bi_some h with ⟨v355, s352, t353, hk354, h⟩ | ⟨x356, s352, t353, hk354, h⟩
                  · refine px_E_call hM rfl rfl rfl rfl (px_E_mono (by decide) (e_M_read_28 K N (0 : Int32) (0 : Int32) (0 : Int32) s346 t347 _ hk354)) ?_
                    refine px_blk (i' := 53) (L' := [some (.ref 28), some (.int a0), some (.int a1), some (.long a2), none, some (.int v6)]) (S' := [.int (0 : Int32), .int (0 : Int32), .int (v355 + (1 : Int32)), .ref 43, .ref 28]) (w' := px_w K s352 t353) (q := []) 4 hM rfl trivial ?_
                    rcases px_bv_some h with ⟨s357, t358, hk359, h⟩ | ⟨x361, s357, t358, hk359, h⟩
                    · refine px_E_call hM rfl rfl rfl rfl (px_E_mono (by decide) (e_M_three_28_43 K N (v355 + (1 : Int32)) (0 : Int32) (0 : Int32) s352 t353 _ hk359)) ?_
                      refine px_blk (i' := 60) (L' := [some (.ref 28), some (.int a0), some (.int a1), some (.long a2), none, some (.int v6)]) (S' := [.int (0 : Int32), .ref 43, .int (0 : Int32), .int (0 : Int32), .ref 28]) (w' := px_w K s357 t358) (q := []) 6 hM rfl trivial ?_
                      rcases px_bv_some h with ⟨s362, t363, hk364, h⟩ | ⟨x366, s362, t363, hk364, h⟩
                      · refine px_E_call hM rfl rfl rfl rfl (px_E_mono (by decide) (e_M_write_28_43 K N (0 : Int32) (0 : Int32) (0 : Int32) s357 t358 _ hk364)) ?_
                        refine px_blk (i' := 63) (L' := [some (.ref 28), some (.int a0), some (.int a1), some (.long a2), none, some (.int v6)]) (S' := [.int (0 : Int32), .ref 28]) (w' := px_w K s362 t363) (q := []) 2 hM rfl trivial ?_
                        rcases px_bv_some h with ⟨s367, t368, hk369, h⟩ | ⟨x371, s367, t368, hk369, h⟩
                        · refine px_E_call hM rfl rfl rfl rfl (px_E_mono (by decide) (e_M_flush_28 K N (0 : Int32) s362 t363 _ hk369)) ?_
                          refine px_blkif (c := (s367.1 29) = 0) (t := 69) (e := 67) (L' := [some (.ref 28), some (.int a0), some (.int a1), some (.long a2), none, some (.int v6)]) (S' := []) (w' := px_w K s367 t368) (q := []) 3 hM rfl trivial (fun hc372 => ?_) (fun hc372 => ?_)
                          · rw [if_pos hc372] at h
                            refine px_blkif (c := (s367.1 29) = 0) (t := 74) (e := 72) (L' := [some (.ref 28), some (.int a0), some (.int a1), some (.long a2), none, some (.int v6)]) (S' := []) (w' := px_w K s367 t368) (q := []) 3 hM rfl trivial (fun hc373 => ?_) (fun hc373 => ?_)
                            · rw [if_pos hc373] at h
                              refine px_blk (i' := 76) (L' := [some (.ref 28), some (.int a0), some (.int a1), some (.long a2), none, some (.int v6)]) (S' := [.ref 28, .ref 28]) (w' := px_w K s367 t368) (q := []) 2 hM rfl trivial ?_
                              rcases px_bi_some h with ⟨v377, s374, t375, hk376, h⟩ | ⟨x378, s374, t375, hk376, h⟩
                              · refine px_E_call hM rfl rfl rfl rfl (px_E_mono (by decide) (e_M_closed_28 K N s367 t368 _ hk376)) ?_
                                rcases px_bi_some h with ⟨v382, s379, t380, hk381, h⟩ | ⟨x383, s379, t380, hk381, h⟩
                                · refine px_E_call hM rfl rfl rfl rfl (px_E_mono (by decide) (e_M_answer_28 K N v377 s374 t375 _ hk381)) ?_
                                  cases h
                                  exact px_E_ret hM rfl rfl rfl trivial
                                · cases h
                              · cases h
                            · rw [if_neg hc373] at h
                              refine px_blk (i' := 73) (L' := [some (.ref 28), some (.int a0), some (.int a1), some (.long a2), none, some (.int v6)]) (S' := [.ref 28]) (w' := px_w K s367 t368) (q := []) 1 hM rfl trivial ?_
                              rcases px_bv_some h with ⟨s384, t385, hk386, h⟩ | ⟨x388, s384, t385, hk386, h⟩
                              · refine px_E_call hM rfl rfl rfl rfl (px_E_mono (by decide) (e_M_bringHome_28 K N s367 t368 _ hk386)) ?_
                                refine px_blk (i' := 76) (L' := [some (.ref 28), some (.int a0), some (.int a1), some (.long a2), none, some (.int v6)]) (S' := [.ref 28, .ref 28]) (w' := px_w K s384 t385) (q := []) 2 hM rfl trivial ?_
                                rcases px_bi_some h with ⟨v392, s389, t390, hk391, h⟩ | ⟨x393, s389, t390, hk391, h⟩
                                · refine px_E_call hM rfl rfl rfl rfl (px_E_mono (by decide) (e_M_closed_28 K N s384 t385 _ hk391)) ?_
                                  rcases px_bi_some h with ⟨v397, s394, t395, hk396, h⟩ | ⟨x398, s394, t395, hk396, h⟩
                                  · refine px_E_call hM rfl rfl rfl rfl (px_E_mono (by decide) (e_M_answer_28 K N v392 s389 t390 _ hk396)) ?_
                                    cases h
                                    exact px_E_ret hM rfl rfl rfl trivial
                                  · cases h
                                · cases h
                              · cases h
                          · rw [if_neg hc372] at h
                            refine px_blk (i' := 68) (L' := [some (.ref 28), some (.int a0), some (.int a1), some (.long a2), none, some (.int v6)]) (S' := [.ref 28]) (w' := px_w K s367 t368) (q := []) 1 hM rfl trivial ?_
                            rcases px_bv_some h with ⟨s399, t400, hk401, h⟩ | ⟨x403, s399, t400, hk401, h⟩
                            · refine px_E_call hM rfl rfl rfl rfl (px_E_mono (by decide) (e_M_loadsTree_28 K N s367 t368 _ hk401)) ?_
                              refine px_blkif (c := (s399.1 29) = 0) (t := 74) (e := 72) (L' := [some (.ref 28), some (.int a0), some (.int a1), some (.long a2), none, some (.int v6)]) (S' := []) (w' := px_w K s399 t400) (q := []) 3 hM rfl trivial (fun hc404 => ?_) (fun hc404 => ?_)
                              · rw [if_pos hc404] at h
                                refine px_blk (i' := 76) (L' := [some (.ref 28), some (.int a0), some (.int a1), some (.long a2), none, some (.int v6)]) (S' := [.ref 28, .ref 28]) (w' := px_w K s399 t400) (q := []) 2 hM rfl trivial ?_
                                rcases px_bi_some h with ⟨v408, s405, t406, hk407, h⟩ | ⟨x409, s405, t406, hk407, h⟩
                                · refine px_E_call hM rfl rfl rfl rfl (px_E_mono (by decide) (e_M_closed_28 K N s399 t400 _ hk407)) ?_
                                  rcases px_bi_some h with ⟨v413, s410, t411, hk412, h⟩ | ⟨x414, s410, t411, hk412, h⟩
                                  · refine px_E_call hM rfl rfl rfl rfl (px_E_mono (by decide) (e_M_answer_28 K N v408 s405 t406 _ hk412)) ?_
                                    cases h
                                    exact px_E_ret hM rfl rfl rfl trivial
                                  · cases h
                                · cases h
                              · rw [if_neg hc404] at h
                                refine px_blk (i' := 73) (L' := [some (.ref 28), some (.int a0), some (.int a1), some (.long a2), none, some (.int v6)]) (S' := [.ref 28]) (w' := px_w K s399 t400) (q := []) 1 hM rfl trivial ?_
                                rcases px_bv_some h with ⟨s415, t416, hk417, h⟩ | ⟨x419, s415, t416, hk417, h⟩
                                · refine px_E_call hM rfl rfl rfl rfl (px_E_mono (by decide) (e_M_bringHome_28 K N s399 t400 _ hk417)) ?_
                                  refine px_blk (i' := 76) (L' := [some (.ref 28), some (.int a0), some (.int a1), some (.long a2), none, some (.int v6)]) (S' := [.ref 28, .ref 28]) (w' := px_w K s415 t416) (q := []) 2 hM rfl trivial ?_
                                  rcases px_bi_some h with ⟨v423, s420, t421, hk422, h⟩ | ⟨x424, s420, t421, hk422, h⟩
                                  · refine px_E_call hM rfl rfl rfl rfl (px_E_mono (by decide) (e_M_closed_28 K N s415 t416 _ hk422)) ?_
                                    rcases px_bi_some h with ⟨v428, s425, t426, hk427, h⟩ | ⟨x429, s425, t426, hk427, h⟩
                                    · refine px_E_call hM rfl rfl rfl rfl (px_E_mono (by decide) (e_M_answer_28 K N v423 s420 t421 _ hk427)) ?_
                                      cases h
                                      exact px_E_ret hM rfl rfl rfl trivial
                                    · cases h
                                  · cases h
                                · cases h
                            · cases h
                        · cases h
                      · cases h
                    · cases h
                  · cases h
                · rw [if_neg hc351] at h
                  refine px_blk (i' := 37) (L' := [some (.ref 28), some (.int a0), some (.int a1), some (.long a2), none, some (.int v6)]) (S' := [.int v6, .ref 28]) (w' := px_w K s346 t347) (q := []) 2 hM rfl trivial ?_
                  rcases px_bv_some h with ⟨s430, t431, hk432, h⟩ | ⟨x434, s430, t431, hk432, h⟩
                  · refine px_E_call hM rfl rfl rfl rfl (px_E_mono (by decide) (e_M_takesHalf_28 K N v6 s346 t347 _ hk432)) ?_
                    refine px_blk (i' := 39) (L' := [some (.ref 28), some (.int a0), some (.int a1), some (.long a2), none, some (.int v6)]) (S' := [.ref 28]) (w' := px_w K s430 t431) (q := []) 1 hM rfl trivial ?_
                    rcases px_bv_some h with ⟨s435, t436, hk437, h⟩ | ⟨x439, s435, t436, hk437, h⟩
                    · refine px_E_call hM rfl rfl rfl rfl (px_E_mono (by decide) (e_M_changeHalves_28 K N s430 t431 _ hk437)) ?_
                      refine px_blkif (c := (s435.1 29) = 0) (t := 69) (e := 67) (L' := [some (.ref 28), some (.int a0), some (.int a1), some (.long a2), none, some (.int v6)]) (S' := []) (w' := px_w K s435 t436) (q := []) 4 hM rfl trivial (fun hc440 => ?_) (fun hc440 => ?_)
                      · rw [if_pos hc440] at h
                        refine px_blkif (c := (s435.1 29) = 0) (t := 74) (e := 72) (L' := [some (.ref 28), some (.int a0), some (.int a1), some (.long a2), none, some (.int v6)]) (S' := []) (w' := px_w K s435 t436) (q := []) 3 hM rfl trivial (fun hc441 => ?_) (fun hc441 => ?_)
                        · rw [if_pos hc441] at h
                          refine px_blk (i' := 76) (L' := [some (.ref 28), some (.int a0), some (.int a1), some (.long a2), none, some (.int v6)]) (S' := [.ref 28, .ref 28]) (w' := px_w K s435 t436) (q := []) 2 hM rfl trivial ?_
                          rcases px_bi_some h with ⟨v445, s442, t443, hk444, h⟩ | ⟨x446, s442, t443, hk444, h⟩
                          · refine px_E_call hM rfl rfl rfl rfl (px_E_mono (by decide) (e_M_closed_28 K N s435 t436 _ hk444)) ?_
                            rcases px_bi_some h with ⟨v450, s447, t448, hk449, h⟩ | ⟨x451, s447, t448, hk449, h⟩
                            · refine px_E_call hM rfl rfl rfl rfl (px_E_mono (by decide) (e_M_answer_28 K N v445 s442 t443 _ hk449)) ?_
                              cases h
                              exact px_E_ret hM rfl rfl rfl trivial
                            · cases h
                          · cases h
                        · rw [if_neg hc441] at h
                          refine px_blk (i' := 73) (L' := [some (.ref 28), some (.int a0), some (.int a1), some (.long a2), none, some (.int v6)]) (S' := [.ref 28]) (w' := px_w K s435 t436) (q := []) 1 hM rfl trivial ?_
                          rcases px_bv_some h with ⟨s452, t453, hk454, h⟩ | ⟨x456, s452, t453, hk454, h⟩
                          · refine px_E_call hM rfl rfl rfl rfl (px_E_mono (by decide) (e_M_bringHome_28 K N s435 t436 _ hk454)) ?_
                            refine px_blk (i' := 76) (L' := [some (.ref 28), some (.int a0), some (.int a1), some (.long a2), none, some (.int v6)]) (S' := [.ref 28, .ref 28]) (w' := px_w K s452 t453) (q := []) 2 hM rfl trivial ?_
                            rcases px_bi_some h with ⟨v460, s457, t458, hk459, h⟩ | ⟨x461, s457, t458, hk459, h⟩
                            · refine px_E_call hM rfl rfl rfl rfl (px_E_mono (by decide) (e_M_closed_28 K N s452 t453 _ hk459)) ?_
                              rcases px_bi_some h with ⟨v465, s462, t463, hk464, h⟩ | ⟨x466, s462, t463, hk464, h⟩
                              · refine px_E_call hM rfl rfl rfl rfl (px_E_mono (by decide) (e_M_answer_28 K N v460 s457 t458 _ hk464)) ?_
                                cases h
                                exact px_E_ret hM rfl rfl rfl trivial
                              · cases h
                            · cases h
                          · cases h
                      · rw [if_neg hc440] at h
                        refine px_blk (i' := 68) (L' := [some (.ref 28), some (.int a0), some (.int a1), some (.long a2), none, some (.int v6)]) (S' := [.ref 28]) (w' := px_w K s435 t436) (q := []) 1 hM rfl trivial ?_
                        rcases px_bv_some h with ⟨s467, t468, hk469, h⟩ | ⟨x471, s467, t468, hk469, h⟩
                        · refine px_E_call hM rfl rfl rfl rfl (px_E_mono (by decide) (e_M_loadsTree_28 K N s435 t436 _ hk469)) ?_
                          refine px_blkif (c := (s467.1 29) = 0) (t := 74) (e := 72) (L' := [some (.ref 28), some (.int a0), some (.int a1), some (.long a2), none, some (.int v6)]) (S' := []) (w' := px_w K s467 t468) (q := []) 3 hM rfl trivial (fun hc472 => ?_) (fun hc472 => ?_)
                          · rw [if_pos hc472] at h
                            refine px_blk (i' := 76) (L' := [some (.ref 28), some (.int a0), some (.int a1), some (.long a2), none, some (.int v6)]) (S' := [.ref 28, .ref 28]) (w' := px_w K s467 t468) (q := []) 2 hM rfl trivial ?_
                            rcases px_bi_some h with ⟨v476, s473, t474, hk475, h⟩ | ⟨x477, s473, t474, hk475, h⟩
                            · refine px_E_call hM rfl rfl rfl rfl (px_E_mono (by decide) (e_M_closed_28 K N s467 t468 _ hk475)) ?_
                              rcases px_bi_some h with ⟨v481, s478, t479, hk480, h⟩ | ⟨x482, s478, t479, hk480, h⟩
                              · refine px_E_call hM rfl rfl rfl rfl (px_E_mono (by decide) (e_M_answer_28 K N v476 s473 t474 _ hk480)) ?_
                                cases h
                                exact px_E_ret hM rfl rfl rfl trivial
                              · cases h
                            · cases h
                          · rw [if_neg hc472] at h
                            refine px_blk (i' := 73) (L' := [some (.ref 28), some (.int a0), some (.int a1), some (.long a2), none, some (.int v6)]) (S' := [.ref 28]) (w' := px_w K s467 t468) (q := []) 1 hM rfl trivial ?_
                            rcases px_bv_some h with ⟨s483, t484, hk485, h⟩ | ⟨x487, s483, t484, hk485, h⟩
                            · refine px_E_call hM rfl rfl rfl rfl (px_E_mono (by decide) (e_M_bringHome_28 K N s467 t468 _ hk485)) ?_
                              refine px_blk (i' := 76) (L' := [some (.ref 28), some (.int a0), some (.int a1), some (.long a2), none, some (.int v6)]) (S' := [.ref 28, .ref 28]) (w' := px_w K s483 t484) (q := []) 2 hM rfl trivial ?_
                              rcases px_bi_some h with ⟨v491, s488, t489, hk490, h⟩ | ⟨x492, s488, t489, hk490, h⟩
                              · refine px_E_call hM rfl rfl rfl rfl (px_E_mono (by decide) (e_M_closed_28 K N s483 t484 _ hk490)) ?_
                                rcases px_bi_some h with ⟨v496, s493, t494, hk495, h⟩ | ⟨x497, s493, t494, hk495, h⟩
                                · refine px_E_call hM rfl rfl rfl rfl (px_E_mono (by decide) (e_M_answer_28 K N v491 s488 t489 _ hk495)) ?_
                                  cases h
                                  exact px_E_ret hM rfl rfl rfl trivial
                                · cases h
                              · cases h
                            · cases h
                        · cases h
                    · cases h
                  · cases h
              · cases h
            · cases h
          · rw [if_neg hc340] at h
            refine px_blk (i' := 26) (L' := [some (.ref 28), some (.int a0), some (.int a1), some (.long a2), none, some (.int v6)]) (S' := []) (w' := px_w K (sR s338 30 a1) t4) (q := []) 3 hM rfl trivial ?_
            obtain ⟨s498, hs499, h⟩ := px_let_some h
            rw [← hs499]
            refine px_blk (i' := 29) (L' := [some (.ref 28), some (.int a0), some (.int a1), some (.long a2), none, some (.int v6)]) (S' := []) (w' := px_w K (sQ s498 3 a2) t4) (q := []) 3 hM rfl trivial ?_
            obtain ⟨s500, hs501, h⟩ := px_let_some h
            rw [← hs501]
            refine px_blk (i' := 30) (L' := [some (.ref 28), some (.int a0), some (.int a1), some (.long a2), none, some (.int v6)]) (S' := [.ref 28]) (w' := px_w K s500 t4) (q := []) 1 hM rfl trivial ?_
            rcases px_bv_some h with ⟨s502, t503, hk504, h⟩ | ⟨x506, s502, t503, hk504, h⟩
            · refine px_E_call hM rfl rfl rfl rfl (px_E_mono (by decide) (e_M_redo_28 K N s500 t4 _ hk504)) ?_
              refine px_blk (i' := 32) (L' := [some (.ref 28), some (.int a0), some (.int a1), some (.long a2), none, some (.int v6)]) (S' := [.ref 28]) (w' := px_w K s502 t503) (q := []) 1 hM rfl trivial ?_
              rcases px_bv_some h with ⟨s507, t508, hk509, h⟩ | ⟨x511, s507, t508, hk509, h⟩
              · refine px_E_call hM rfl rfl rfl rfl (px_E_mono (by decide) (e_M_noSlots_28 K N s502 t503 _ hk509)) ?_
                refine px_blkif (c := a0 = 0) (t := 41) (e := 35) (L' := [some (.ref 28), some (.int a0), some (.int a1), some (.long a2), none, some (.int v6)]) (S' := []) (w' := px_w K s507 t508) (q := []) 2 hM rfl trivial (fun hc512 => ?_) (fun hc512 => ?_)
                · rw [if_pos hc512] at h
                  refine px_blk (i' := 48) (L' := [some (.ref 28), some (.int a0), some (.int a1), some (.long a2), none, some (.int v6)]) (S' := [.int (0 : Int32), .int (0 : Int32), .int (0 : Int32), .ref 28, .ref 43, .ref 28]) (w' := px_w K s507 t508) (q := []) 7 hM rfl trivial ?_
                  rcases px_bi_some h with ⟨v516, s513, t514, hk515, h⟩ | ⟨x517, s513, t514, hk515, h⟩
                  · refine px_E_call hM rfl rfl rfl rfl (px_E_mono (by decide) (e_M_read_28 K N (0 : Int32) (0 : Int32) (0 : Int32) s507 t508 _ hk515)) ?_
                    refine px_blk (i' := 53) (L' := [some (.ref 28), some (.int a0), some (.int a1), some (.long a2), none, some (.int v6)]) (S' := [.int (0 : Int32), .int (0 : Int32), .int (v516 + (1 : Int32)), .ref 43, .ref 28]) (w' := px_w K s513 t514) (q := []) 4 hM rfl trivial ?_
                    rcases px_bv_some h with ⟨s518, t519, hk520, h⟩ | ⟨x522, s518, t519, hk520, h⟩
                    · refine px_E_call hM rfl rfl rfl rfl (px_E_mono (by decide) (e_M_three_28_43 K N (v516 + (1 : Int32)) (0 : Int32) (0 : Int32) s513 t514 _ hk520)) ?_
                      refine px_blk (i' := 60) (L' := [some (.ref 28), some (.int a0), some (.int a1), some (.long a2), none, some (.int v6)]) (S' := [.int (0 : Int32), .ref 43, .int (0 : Int32), .int (0 : Int32), .ref 28]) (w' := px_w K s518 t519) (q := []) 6 hM rfl trivial ?_
                      rcases px_bv_some h with ⟨s523, t524, hk525, h⟩ | ⟨x527, s523, t524, hk525, h⟩
                      · refine px_E_call hM rfl rfl rfl rfl (px_E_mono (by decide) (e_M_write_28_43 K N (0 : Int32) (0 : Int32) (0 : Int32) s518 t519 _ hk525)) ?_
                        refine px_blk (i' := 63) (L' := [some (.ref 28), some (.int a0), some (.int a1), some (.long a2), none, some (.int v6)]) (S' := [.int (0 : Int32), .ref 28]) (w' := px_w K s523 t524) (q := []) 2 hM rfl trivial ?_
                        rcases px_bv_some h with ⟨s528, t529, hk530, h⟩ | ⟨x532, s528, t529, hk530, h⟩
                        · refine px_E_call hM rfl rfl rfl rfl (px_E_mono (by decide) (e_M_flush_28 K N (0 : Int32) s523 t524 _ hk530)) ?_
                          refine px_blkif (c := (s528.1 29) = 0) (t := 69) (e := 67) (L' := [some (.ref 28), some (.int a0), some (.int a1), some (.long a2), none, some (.int v6)]) (S' := []) (w' := px_w K s528 t529) (q := []) 3 hM rfl trivial (fun hc533 => ?_) (fun hc533 => ?_)
                          · rw [if_pos hc533] at h
                            refine px_blkif (c := (s528.1 29) = 0) (t := 74) (e := 72) (L' := [some (.ref 28), some (.int a0), some (.int a1), some (.long a2), none, some (.int v6)]) (S' := []) (w' := px_w K s528 t529) (q := []) 3 hM rfl trivial (fun hc534 => ?_) (fun hc534 => ?_)
                            · rw [if_pos hc534] at h
                              refine px_blk (i' := 76) (L' := [some (.ref 28), some (.int a0), some (.int a1), some (.long a2), none, some (.int v6)]) (S' := [.ref 28, .ref 28]) (w' := px_w K s528 t529) (q := []) 2 hM rfl trivial ?_
                              rcases px_bi_some h with ⟨v538, s535, t536, hk537, h⟩ | ⟨x539, s535, t536, hk537, h⟩
                              · refine px_E_call hM rfl rfl rfl rfl (px_E_mono (by decide) (e_M_closed_28 K N s528 t529 _ hk537)) ?_
                                rcases px_bi_some h with ⟨v543, s540, t541, hk542, h⟩ | ⟨x544, s540, t541, hk542, h⟩
                                · refine px_E_call hM rfl rfl rfl rfl (px_E_mono (by decide) (e_M_answer_28 K N v538 s535 t536 _ hk542)) ?_
                                  cases h
                                  exact px_E_ret hM rfl rfl rfl trivial
                                · cases h
                              · cases h
                            · rw [if_neg hc534] at h
                              refine px_blk (i' := 73) (L' := [some (.ref 28), some (.int a0), some (.int a1), some (.long a2), none, some (.int v6)]) (S' := [.ref 28]) (w' := px_w K s528 t529) (q := []) 1 hM rfl trivial ?_
                              rcases px_bv_some h with ⟨s545, t546, hk547, h⟩ | ⟨x549, s545, t546, hk547, h⟩
                              · refine px_E_call hM rfl rfl rfl rfl (px_E_mono (by decide) (e_M_bringHome_28 K N s528 t529 _ hk547)) ?_
                                refine px_blk (i' := 76) (L' := [some (.ref 28), some (.int a0), some (.int a1), some (.long a2), none, some (.int v6)]) (S' := [.ref 28, .ref 28]) (w' := px_w K s545 t546) (q := []) 2 hM rfl trivial ?_
                                rcases px_bi_some h with ⟨v553, s550, t551, hk552, h⟩ | ⟨x554, s550, t551, hk552, h⟩
                                · refine px_E_call hM rfl rfl rfl rfl (px_E_mono (by decide) (e_M_closed_28 K N s545 t546 _ hk552)) ?_
                                  rcases px_bi_some h with ⟨v558, s555, t556, hk557, h⟩ | ⟨x559, s555, t556, hk557, h⟩
                                  · refine px_E_call hM rfl rfl rfl rfl (px_E_mono (by decide) (e_M_answer_28 K N v553 s550 t551 _ hk557)) ?_
                                    cases h
                                    exact px_E_ret hM rfl rfl rfl trivial
                                  · cases h
                                · cases h
                              · cases h
                          · rw [if_neg hc533] at h
                            refine px_blk (i' := 68) (L' := [some (.ref 28), some (.int a0), some (.int a1), some (.long a2), none, some (.int v6)]) (S' := [.ref 28]) (w' := px_w K s528 t529) (q := []) 1 hM rfl trivial ?_
                            rcases px_bv_some h with ⟨s560, t561, hk562, h⟩ | ⟨x564, s560, t561, hk562, h⟩
                            · refine px_E_call hM rfl rfl rfl rfl (px_E_mono (by decide) (e_M_loadsTree_28 K N s528 t529 _ hk562)) ?_
                              refine px_blkif (c := (s560.1 29) = 0) (t := 74) (e := 72) (L' := [some (.ref 28), some (.int a0), some (.int a1), some (.long a2), none, some (.int v6)]) (S' := []) (w' := px_w K s560 t561) (q := []) 3 hM rfl trivial (fun hc565 => ?_) (fun hc565 => ?_)
                              · rw [if_pos hc565] at h
                                refine px_blk (i' := 76) (L' := [some (.ref 28), some (.int a0), some (.int a1), some (.long a2), none, some (.int v6)]) (S' := [.ref 28, .ref 28]) (w' := px_w K s560 t561) (q := []) 2 hM rfl trivial ?_
                                rcases px_bi_some h with ⟨v569, s566, t567, hk568, h⟩ | ⟨x570, s566, t567, hk568, h⟩
                                · refine px_E_call hM rfl rfl rfl rfl (px_E_mono (by decide) (e_M_closed_28 K N s560 t561 _ hk568)) ?_
                                  rcases px_bi_some h with ⟨v574, s571, t572, hk573, h⟩ | ⟨x575, s571, t572, hk573, h⟩
                                  · refine px_E_call hM rfl rfl rfl rfl (px_E_mono (by decide) (e_M_answer_28 K N v569 s566 t567 _ hk573)) ?_
                                    cases h
                                    exact px_E_ret hM rfl rfl rfl trivial
                                  · cases h
                                · cases h
                              · rw [if_neg hc565] at h
                                refine px_blk (i' := 73) (L' := [some (.ref 28), some (.int a0), some (.int a1), some (.long a2), none, some (.int v6)]) (S' := [.ref 28]) (w' := px_w K s560 t561) (q := []) 1 hM rfl trivial ?_
                                rcases px_bv_some h with ⟨s576, t577, hk578, h⟩ | ⟨x580, s576, t577, hk578, h⟩
                                · refine px_E_call hM rfl rfl rfl rfl (px_E_mono (by decide) (e_M_bringHome_28 K N s560 t561 _ hk578)) ?_
                                  refine px_blk (i' := 76) (L' := [some (.ref 28), some (.int a0), some (.int a1), some (.long a2), none, some (.int v6)]) (S' := [.ref 28, .ref 28]) (w' := px_w K s576 t577) (q := []) 2 hM rfl trivial ?_
                                  rcases px_bi_some h with ⟨v584, s581, t582, hk583, h⟩ | ⟨x585, s581, t582, hk583, h⟩
                                  · refine px_E_call hM rfl rfl rfl rfl (px_E_mono (by decide) (e_M_closed_28 K N s576 t577 _ hk583)) ?_
                                    rcases px_bi_some h with ⟨v589, s586, t587, hk588, h⟩ | ⟨x590, s586, t587, hk588, h⟩
                                    · refine px_E_call hM rfl rfl rfl rfl (px_E_mono (by decide) (e_M_answer_28 K N v584 s581 t582 _ hk588)) ?_
                                      cases h
                                      exact px_E_ret hM rfl rfl rfl trivial
                                    · cases h
                                  · cases h
                                · cases h
                            · cases h
                        · cases h
                      · cases h
                    · cases h
                  · cases h
                · rw [if_neg hc512] at h
                  refine px_blk (i' := 37) (L' := [some (.ref 28), some (.int a0), some (.int a1), some (.long a2), none, some (.int v6)]) (S' := [.int v6, .ref 28]) (w' := px_w K s507 t508) (q := []) 2 hM rfl trivial ?_
                  rcases px_bv_some h with ⟨s591, t592, hk593, h⟩ | ⟨x595, s591, t592, hk593, h⟩
                  · refine px_E_call hM rfl rfl rfl rfl (px_E_mono (by decide) (e_M_takesHalf_28 K N v6 s507 t508 _ hk593)) ?_
                    refine px_blk (i' := 39) (L' := [some (.ref 28), some (.int a0), some (.int a1), some (.long a2), none, some (.int v6)]) (S' := [.ref 28]) (w' := px_w K s591 t592) (q := []) 1 hM rfl trivial ?_
                    rcases px_bv_some h with ⟨s596, t597, hk598, h⟩ | ⟨x600, s596, t597, hk598, h⟩
                    · refine px_E_call hM rfl rfl rfl rfl (px_E_mono (by decide) (e_M_changeHalves_28 K N s591 t592 _ hk598)) ?_
                      refine px_blkif (c := (s596.1 29) = 0) (t := 69) (e := 67) (L' := [some (.ref 28), some (.int a0), some (.int a1), some (.long a2), none, some (.int v6)]) (S' := []) (w' := px_w K s596 t597) (q := []) 4 hM rfl trivial (fun hc601 => ?_) (fun hc601 => ?_)
                      · rw [if_pos hc601] at h
                        refine px_blkif (c := (s596.1 29) = 0) (t := 74) (e := 72) (L' := [some (.ref 28), some (.int a0), some (.int a1), some (.long a2), none, some (.int v6)]) (S' := []) (w' := px_w K s596 t597) (q := []) 3 hM rfl trivial (fun hc602 => ?_) (fun hc602 => ?_)
                        · rw [if_pos hc602] at h
                          refine px_blk (i' := 76) (L' := [some (.ref 28), some (.int a0), some (.int a1), some (.long a2), none, some (.int v6)]) (S' := [.ref 28, .ref 28]) (w' := px_w K s596 t597) (q := []) 2 hM rfl trivial ?_
                          rcases px_bi_some h with ⟨v606, s603, t604, hk605, h⟩ | ⟨x607, s603, t604, hk605, h⟩
                          · refine px_E_call hM rfl rfl rfl rfl (px_E_mono (by decide) (e_M_closed_28 K N s596 t597 _ hk605)) ?_
                            rcases px_bi_some h with ⟨v611, s608, t609, hk610, h⟩ | ⟨x612, s608, t609, hk610, h⟩
                            · refine px_E_call hM rfl rfl rfl rfl (px_E_mono (by decide) (e_M_answer_28 K N v606 s603 t604 _ hk610)) ?_
                              cases h
                              exact px_E_ret hM rfl rfl rfl trivial
                            · cases h
                          · cases h
                        · rw [if_neg hc602] at h
                          refine px_blk (i' := 73) (L' := [some (.ref 28), some (.int a0), some (.int a1), some (.long a2), none, some (.int v6)]) (S' := [.ref 28]) (w' := px_w K s596 t597) (q := []) 1 hM rfl trivial ?_
                          rcases px_bv_some h with ⟨s613, t614, hk615, h⟩ | ⟨x617, s613, t614, hk615, h⟩
                          · refine px_E_call hM rfl rfl rfl rfl (px_E_mono (by decide) (e_M_bringHome_28 K N s596 t597 _ hk615)) ?_
                            refine px_blk (i' := 76) (L' := [some (.ref 28), some (.int a0), some (.int a1), some (.long a2), none, some (.int v6)]) (S' := [.ref 28, .ref 28]) (w' := px_w K s613 t614) (q := []) 2 hM rfl trivial ?_
                            rcases px_bi_some h with ⟨v621, s618, t619, hk620, h⟩ | ⟨x622, s618, t619, hk620, h⟩
                            · refine px_E_call hM rfl rfl rfl rfl (px_E_mono (by decide) (e_M_closed_28 K N s613 t614 _ hk620)) ?_
                              rcases px_bi_some h with ⟨v626, s623, t624, hk625, h⟩ | ⟨x627, s623, t624, hk625, h⟩
                              · refine px_E_call hM rfl rfl rfl rfl (px_E_mono (by decide) (e_M_answer_28 K N v621 s618 t619 _ hk625)) ?_
                                cases h
                                exact px_E_ret hM rfl rfl rfl trivial
                              · cases h
                            · cases h
                          · cases h
                      · rw [if_neg hc601] at h
                        refine px_blk (i' := 68) (L' := [some (.ref 28), some (.int a0), some (.int a1), some (.long a2), none, some (.int v6)]) (S' := [.ref 28]) (w' := px_w K s596 t597) (q := []) 1 hM rfl trivial ?_
                        rcases px_bv_some h with ⟨s628, t629, hk630, h⟩ | ⟨x632, s628, t629, hk630, h⟩
                        · refine px_E_call hM rfl rfl rfl rfl (px_E_mono (by decide) (e_M_loadsTree_28 K N s596 t597 _ hk630)) ?_
                          refine px_blkif (c := (s628.1 29) = 0) (t := 74) (e := 72) (L' := [some (.ref 28), some (.int a0), some (.int a1), some (.long a2), none, some (.int v6)]) (S' := []) (w' := px_w K s628 t629) (q := []) 3 hM rfl trivial (fun hc633 => ?_) (fun hc633 => ?_)
                          · rw [if_pos hc633] at h
                            refine px_blk (i' := 76) (L' := [some (.ref 28), some (.int a0), some (.int a1), some (.long a2), none, some (.int v6)]) (S' := [.ref 28, .ref 28]) (w' := px_w K s628 t629) (q := []) 2 hM rfl trivial ?_
                            rcases px_bi_some h with ⟨v637, s634, t635, hk636, h⟩ | ⟨x638, s634, t635, hk636, h⟩
                            · refine px_E_call hM rfl rfl rfl rfl (px_E_mono (by decide) (e_M_closed_28 K N s628 t629 _ hk636)) ?_
                              rcases px_bi_some h with ⟨v642, s639, t640, hk641, h⟩ | ⟨x643, s639, t640, hk641, h⟩
                              · refine px_E_call hM rfl rfl rfl rfl (px_E_mono (by decide) (e_M_answer_28 K N v637 s634 t635 _ hk641)) ?_
                                cases h
                                exact px_E_ret hM rfl rfl rfl trivial
                              · cases h
                            · cases h
                          · rw [if_neg hc633] at h
                            refine px_blk (i' := 73) (L' := [some (.ref 28), some (.int a0), some (.int a1), some (.long a2), none, some (.int v6)]) (S' := [.ref 28]) (w' := px_w K s628 t629) (q := []) 1 hM rfl trivial ?_
                            rcases px_bv_some h with ⟨s644, t645, hk646, h⟩ | ⟨x648, s644, t645, hk646, h⟩
                            · refine px_E_call hM rfl rfl rfl rfl (px_E_mono (by decide) (e_M_bringHome_28 K N s628 t629 _ hk646)) ?_
                              refine px_blk (i' := 76) (L' := [some (.ref 28), some (.int a0), some (.int a1), some (.long a2), none, some (.int v6)]) (S' := [.ref 28, .ref 28]) (w' := px_w K s644 t645) (q := []) 2 hM rfl trivial ?_
                              rcases px_bi_some h with ⟨v652, s649, t650, hk651, h⟩ | ⟨x653, s649, t650, hk651, h⟩
                              · refine px_E_call hM rfl rfl rfl rfl (px_E_mono (by decide) (e_M_closed_28 K N s644 t645 _ hk651)) ?_
                                rcases px_bi_some h with ⟨v657, s654, t655, hk656, h⟩ | ⟨x658, s654, t655, hk656, h⟩
                                · refine px_E_call hM rfl rfl rfl rfl (px_E_mono (by decide) (e_M_answer_28 K N v652 s649 t650 _ hk656)) ?_
                                  cases h
                                  exact px_E_ret hM rfl rfl rfl trivial
                                · cases h
                              · cases h
                            · cases h
                        · cases h
                    · cases h
                  · cases h
              · cases h
            · cases h
        · rw [if_neg hc334] at h
          refine px_blk (i' := 14) (L' := [some (.ref 28), some (.int a0), some (.int a1), some (.long a2), none, some (.int v6)]) (S' := [.int (-1 : Int32)]) (w' := px_w K s3 t4) (q := []) 1 hM rfl trivial ?_
          cases h
          exact px_E_ret hM rfl rfl rfl trivial
  · cases h
