/-! THE METHODS AS FUNCTIONS (by program). -/
noncomputable def f_M_word2_28 (K : px_K) (N : Nat) (a0 : Int32) (a1 : Int32) (a2 : Int32) (a3 : Int32) (s : px_S) (t : px_W) : Option px_Res :=
  (px_let (sR s 25 (0 : Int32)) (fun s1 => (if ¬ a0 = 0 then (if ¬ a0 = (1 : Int32) then (if a1 < 0 then (some (.inl (some (.int (-2147483648 : Int32))), s1, t)) else (if (0 : Int32) ≤ a1 then (some (.inl (some (.int (-2147483648 : Int32))), s1, t)) else (if a2 < 0 then (some (.inl (some (.int (-2147483648 : Int32))), s1, t)) else (if a2 < (16 : Int32) then (if a3 = 0 then (px_bi (f_M_read_28 K N a0 a1 a2 s1 t) (fun v13 s10 t11 => (some (.inl (some (.int v13)), s10, t11))) (fun x14 s10 t11 => none)) else (px_bi (f_M_at K N a0 a1 s1 t) (fun v18 s15 t16 => (px_gd (vp_in (v18 + a2) (K.2.2 29)) (some (.inl (some (.int ((s15.2.2.1 29) (v18 + a2).toNatClampNeg))), s15, t16)))) (fun x19 s15 t16 => none))) else (some (.inl (some (.int (-2147483648 : Int32))), s1, t)))))) else (px_let ((50 : Int32) + ((s1.1 26) * (s1.1 27))) (fun v21 => (if a1 < 0 then (some (.inl (some (.int (-2147483648 : Int32))), s1, t)) else (if v21 ≤ a1 then (some (.inl (some (.int (-2147483648 : Int32))), s1, t)) else (if a2 < 0 then (some (.inl (some (.int (-2147483648 : Int32))), s1, t)) else (if a2 < (16 : Int32) then (if a3 = 0 then (px_bi (f_M_read_28 K N a0 a1 a2 s1 t) (fun v31 s28 t29 => (some (.inl (some (.int v31)), s28, t29))) (fun x32 s28 t29 => none)) else (px_bi (f_M_at K N a0 a1 s1 t) (fun v36 s33 t34 => (px_gd (vp_in (v36 + a2) (K.2.2 29)) (some (.inl (some (.int ((s33.2.2.1 29) (v36 + a2).toNatClampNeg))), s33, t34)))) (fun x37 s33 t34 => none))) else (some (.inl (some (.int (-2147483648 : Int32))), s1, t))))))))) else (if a1 < 0 then (some (.inl (some (.int (-2147483648 : Int32))), s1, t)) else (if (125 : Int32) ≤ a1 then (some (.inl (some (.int (-2147483648 : Int32))), s1, t)) else (if a2 < 0 then (some (.inl (some (.int (-2147483648 : Int32))), s1, t)) else (if a2 < (16 : Int32) then (if a3 = 0 then (px_bi (f_M_read_28 K N a0 a1 a2 s1 t) (fun v47 s44 t45 => (some (.inl (some (.int v47)), s44, t45))) (fun x48 s44 t45 => none)) else (px_bi (f_M_at K N a0 a1 s1 t) (fun v52 s49 t50 => (px_gd (vp_in (v52 + a2) (K.2.2 29)) (some (.inl (some (.int ((s49.2.2.1 29) (v52 + a2).toNatClampNeg))), s49, t50)))) (fun x53 s49 t50 => none))) else (some (.inl (some (.int (-2147483648 : Int32))), s1, t)))))))))
set_option maxRecDepth 100000 in
theorem e_M_word2_28 (K : px_K) (N : Nat) (a0 : Int32) (a1 : Int32) (a2 : Int32) (a3 : Int32) (s : px_S) (t : px_W) (r : px_Res) (h : f_M_word2_28 K N a0 a1 a2 a3 s t = some r) : px_E px_ET px_P 3 106 0 (px_ent 6 [.ref 28, .int a0, .int a1, .int a2, .int a3]) [] (px_w K s t) r.1 (px_w K r.2.1 r.2.2) := by
  have hM : px_P[106]? = some pm_M_word2 := rfl
  unfold f_M_word2_28 at h
  refine px_blk (i' := 3) (L' := [some (.ref 28), some (.int a0), some (.int a1), some (.int a2), some (.int a3), none]) (S' := []) (w' := px_w K (sR s 25 (0 : Int32)) t) (q := []) 3 hM rfl trivial ?_
  obtain ⟨s1, hs2, h⟩ := px_let_some h
  rw [← hs2]
  refine px_blkif (c := ¬ a0 = 0) (t := 7) (e := 5) (L' := [some (.ref 28), some (.int a0), some (.int a1), some (.int a2), some (.int a3), none]) (S' := []) (w' := px_w K s1 t) (q := []) 2 hM rfl trivial (fun hc3 => ?_) (fun hc3 => ?_)
  · rw [if_pos hc3] at h
    refine px_blkif (c := ¬ a0 = (1 : Int32)) (t := 18) (e := 10) (L' := [some (.ref 28), some (.int a0), some (.int a1), some (.int a2), some (.int a3), none]) (S' := []) (w' := px_w K s1 t) (q := []) 3 hM rfl trivial (fun hc4 => ?_) (fun hc4 => ?_)
    · rw [if_pos hc4] at h
      refine px_blkif (c := a1 < 0) (t := 30) (e := 22) (L' := [some (.ref 28), some (.int a0), some (.int a1), some (.int a2), some (.int a3), some (.int (0 : Int32))]) (S' := []) (w' := px_w K s1 t) (q := []) 4 hM rfl trivial (fun hc5 => ?_) (fun hc5 => ?_)
      · rw [if_pos hc5] at h
        refine px_blk (i' := 31) (L' := [some (.ref 28), some (.int a0), some (.int a1), some (.int a2), some (.int a3), some (.int (0 : Int32))]) (S' := [.int (-2147483648 : Int32)]) (w' := px_w K s1 t) (q := []) 1 hM rfl trivial ?_
        cases h
        exact px_E_ret hM rfl rfl rfl trivial
      · rw [if_neg hc5] at h
        refine px_blkif (c := (0 : Int32) ≤ a1) (t := 30) (e := 25) (L' := [some (.ref 28), some (.int a0), some (.int a1), some (.int a2), some (.int a3), some (.int (0 : Int32))]) (S' := []) (w' := px_w K s1 t) (q := []) 3 hM rfl trivial (fun hc6 => ?_) (fun hc6 => ?_)
        · rw [if_pos hc6] at h
          refine px_blk (i' := 31) (L' := [some (.ref 28), some (.int a0), some (.int a1), some (.int a2), some (.int a3), some (.int (0 : Int32))]) (S' := [.int (-2147483648 : Int32)]) (w' := px_w K s1 t) (q := []) 1 hM rfl trivial ?_
          cases h
          exact px_E_ret hM rfl rfl rfl trivial
        · rw [if_neg hc6] at h
          refine px_blkif (c := a2 < 0) (t := 30) (e := 27) (L' := [some (.ref 28), some (.int a0), some (.int a1), some (.int a2), some (.int a3), some (.int (0 : Int32))]) (S' := []) (w' := px_w K s1 t) (q := []) 2 hM rfl trivial (fun hc7 => ?_) (fun hc7 => ?_)
          · rw [if_pos hc7] at h
            refine px_blk (i' := 31) (L' := [some (.ref 28), some (.int a0), some (.int a1), some (.int a2), some (.int a3), some (.int (0 : Int32))]) (S' := [.int (-2147483648 : Int32)]) (w' := px_w K s1 t) (q := []) 1 hM rfl trivial ?_
            cases h
            exact px_E_ret hM rfl rfl rfl trivial
          · rw [if_neg hc7] at h
            refine px_blkif (c := a2 < (16 : Int32)) (t := 32) (e := 30) (L' := [some (.ref 28), some (.int a0), some (.int a1), some (.int a2), some (.int a3), some (.int (0 : Int32))]) (S' := []) (w' := px_w K s1 t) (q := []) 3 hM rfl trivial (fun hc8 => ?_) (fun hc8 => ?_)
            · rw [if_pos hc8] at h
              refine px_blkif (c := a3 = 0) (t := 43) (e := 34) (L' := [some (.ref 28), some (.int a0), some (.int a1), some (.int a2), some (.int a3), some (.int (0 : Int32))]) (S' := []) (w' := px_w K s1 t) (q := []) 2 hM rfl trivial (fun hc9 => ?_) (fun hc9 => ?_)
              · rw [if_pos hc9] at h
                refine px_blk (i' := 47) (L' := [some (.ref 28), some (.int a0), some (.int a1), some (.int a2), some (.int a3), some (.int (0 : Int32))]) (S' := [.int a2, .int a1, .int a0, .ref 28]) (w' := px_w K s1 t) (q := []) 4 hM rfl trivial ?_
                rcases px_bi_some h with ⟨v13, s10, t11, hk12, h⟩ | ⟨x14, s10, t11, hk12, h⟩
                · refine px_E_call hM rfl rfl rfl rfl (px_E_mono (by decide) (e_M_read_28 K N a0 a1 a2 s1 t _ hk12)) ?_
                  cases h
                  exact px_E_ret hM rfl rfl rfl trivial
                · cases h
              · rw [if_neg hc9] at h
                refine px_blk (i' := 38) (L' := [some (.ref 28), some (.int a0), some (.int a1), some (.int a2), some (.int a3), some (.int (0 : Int32))]) (S' := [.int a1, .int a0, .ref 29]) (w' := px_w K s1 t) (q := []) 4 hM rfl trivial ?_
                rcases px_bi_some h with ⟨v18, s15, t16, hk17, h⟩ | ⟨x19, s15, t16, hk17, h⟩
                · refine px_E_call hM rfl rfl rfl rfl (px_E_mono (by decide) (e_M_at K N a0 a1 s1 t _ hk17)) ?_
                  obtain ⟨hq20, h⟩ := px_gd_some h
                  refine px_blk (i' := 48) (L' := [some (.ref 28), some (.int a0), some (.int a1), some (.int a2), some (.int a3), some (.int (0 : Int32))]) (S' := [.int ((s15.2.2.1 29) (v18 + a2).toNatClampNeg)]) (w' := px_w K s15 t16) (q := [vp_in (v18 + a2) (K.2.2 29)]) 4 hM rfl (show vp_in (v18 + a2) (K.2.2 29) from hq20) ?_
                  cases h
                  exact px_E_ret hM rfl rfl rfl trivial
                · cases h
            · rw [if_neg hc8] at h
              refine px_blk (i' := 31) (L' := [some (.ref 28), some (.int a0), some (.int a1), some (.int a2), some (.int a3), some (.int (0 : Int32))]) (S' := [.int (-2147483648 : Int32)]) (w' := px_w K s1 t) (q := []) 1 hM rfl trivial ?_
              cases h
              exact px_E_ret hM rfl rfl rfl trivial
    · rw [if_neg hc4] at h
      refine px_blk (i' := 20) (L' := [some (.ref 28), some (.int a0), some (.int a1), some (.int a2), some (.int a3), some (.int ((50 : Int32) + ((s1.1 26) * (s1.1 27))))]) (S' := []) (w' := px_w K s1 t) (q := []) 9 hM rfl trivial ?_
      obtain ⟨v21, hv22, h⟩ := px_let_some h
      rw [← hv22]
      refine px_blkif (c := a1 < 0) (t := 30) (e := 22) (L' := [some (.ref 28), some (.int a0), some (.int a1), some (.int a2), some (.int a3), some (.int v21)]) (S' := []) (w' := px_w K s1 t) (q := []) 2 hM rfl trivial (fun hc23 => ?_) (fun hc23 => ?_)
      · rw [if_pos hc23] at h
        refine px_blk (i' := 31) (L' := [some (.ref 28), some (.int a0), some (.int a1), some (.int a2), some (.int a3), some (.int v21)]) (S' := [.int (-2147483648 : Int32)]) (w' := px_w K s1 t) (q := []) 1 hM rfl trivial ?_
        cases h
        exact px_E_ret hM rfl rfl rfl trivial
      · rw [if_neg hc23] at h
        refine px_blkif (c := v21 ≤ a1) (t := 30) (e := 25) (L' := [some (.ref 28), some (.int a0), some (.int a1), some (.int a2), some (.int a3), some (.int v21)]) (S' := []) (w' := px_w K s1 t) (q := []) 3 hM rfl trivial (fun hc24 => ?_) (fun hc24 => ?_)
        · rw [if_pos hc24] at h
          refine px_blk (i' := 31) (L' := [some (.ref 28), some (.int a0), some (.int a1), some (.int a2), some (.int a3), some (.int v21)]) (S' := [.int (-2147483648 : Int32)]) (w' := px_w K s1 t) (q := []) 1 hM rfl trivial ?_
          cases h
          exact px_E_ret hM rfl rfl rfl trivial
        · rw [if_neg hc24] at h
          refine px_blkif (c := a2 < 0) (t := 30) (e := 27) (L' := [some (.ref 28), some (.int a0), some (.int a1), some (.int a2), some (.int a3), some (.int v21)]) (S' := []) (w' := px_w K s1 t) (q := []) 2 hM rfl trivial (fun hc25 => ?_) (fun hc25 => ?_)
          · rw [if_pos hc25] at h
            refine px_blk (i' := 31) (L' := [some (.ref 28), some (.int a0), some (.int a1), some (.int a2), some (.int a3), some (.int v21)]) (S' := [.int (-2147483648 : Int32)]) (w' := px_w K s1 t) (q := []) 1 hM rfl trivial ?_
            cases h
            exact px_E_ret hM rfl rfl rfl trivial
          · rw [if_neg hc25] at h
            refine px_blkif (c := a2 < (16 : Int32)) (t := 32) (e := 30) (L' := [some (.ref 28), some (.int a0), some (.int a1), some (.int a2), some (.int a3), some (.int v21)]) (S' := []) (w' := px_w K s1 t) (q := []) 3 hM rfl trivial (fun hc26 => ?_) (fun hc26 => ?_)
            · rw [if_pos hc26] at h
              refine px_blkif (c := a3 = 0) (t := 43) (e := 34) (L' := [some (.ref 28), some (.int a0), some (.int a1), some (.int a2), some (.int a3), some (.int v21)]) (S' := []) (w' := px_w K s1 t) (q := []) 2 hM rfl trivial (fun hc27 => ?_) (fun hc27 => ?_)
              · rw [if_pos hc27] at h
                refine px_blk (i' := 47) (L' := [some (.ref 28), some (.int a0), some (.int a1), some (.int a2), some (.int a3), some (.int v21)]) (S' := [.int a2, .int a1, .int a0, .ref 28]) (w' := px_w K s1 t) (q := []) 4 hM rfl trivial ?_
                rcases px_bi_some h with ⟨v31, s28, t29, hk30, h⟩ | ⟨x32, s28, t29, hk30, h⟩
                · refine px_E_call hM rfl rfl rfl rfl (px_E_mono (by decide) (e_M_read_28 K N a0 a1 a2 s1 t _ hk30)) ?_
                  cases h
                  exact px_E_ret hM rfl rfl rfl trivial
                · cases h
              · rw [if_neg hc27] at h
                refine px_blk (i' := 38) (L' := [some (.ref 28), some (.int a0), some (.int a1), some (.int a2), some (.int a3), some (.int v21)]) (S' := [.int a1, .int a0, .ref 29]) (w' := px_w K s1 t) (q := []) 4 hM rfl trivial ?_
                rcases px_bi_some h with ⟨v36, s33, t34, hk35, h⟩ | ⟨x37, s33, t34, hk35, h⟩
                · refine px_E_call hM rfl rfl rfl rfl (px_E_mono (by decide) (e_M_at K N a0 a1 s1 t _ hk35)) ?_
                  obtain ⟨hq38, h⟩ := px_gd_some h
                  refine px_blk (i' := 48) (L' := [some (.ref 28), some (.int a0), some (.int a1), some (.int a2), some (.int a3), some (.int v21)]) (S' := [.int ((s33.2.2.1 29) (v36 + a2).toNatClampNeg)]) (w' := px_w K s33 t34) (q := [vp_in (v36 + a2) (K.2.2 29)]) 4 hM rfl (show vp_in (v36 + a2) (K.2.2 29) from hq38) ?_
                  cases h
                  exact px_E_ret hM rfl rfl rfl trivial
                · cases h
            · rw [if_neg hc26] at h
              refine px_blk (i' := 31) (L' := [some (.ref 28), some (.int a0), some (.int a1), some (.int a2), some (.int a3), some (.int v21)]) (S' := [.int (-2147483648 : Int32)]) (w' := px_w K s1 t) (q := []) 1 hM rfl trivial ?_
              cases h
              exact px_E_ret hM rfl rfl rfl trivial
  · rw [if_neg hc3] at h
    refine px_blkif (c := a1 < 0) (t := 30) (e := 22) (L' := [some (.ref 28), some (.int a0), some (.int a1), some (.int a2), some (.int a3), some (.int (125 : Int32))]) (S' := []) (w' := px_w K s1 t) (q := []) 5 hM rfl trivial (fun hc39 => ?_) (fun hc39 => ?_)
    · rw [if_pos hc39] at h
      refine px_blk (i' := 31) (L' := [some (.ref 28), some (.int a0), some (.int a1), some (.int a2), some (.int a3), some (.int (125 : Int32))]) (S' := [.int (-2147483648 : Int32)]) (w' := px_w K s1 t) (q := []) 1 hM rfl trivial ?_
      cases h
      exact px_E_ret hM rfl rfl rfl trivial
    · rw [if_neg hc39] at h
      refine px_blkif (c := (125 : Int32) ≤ a1) (t := 30) (e := 25) (L' := [some (.ref 28), some (.int a0), some (.int a1), some (.int a2), some (.int a3), some (.int (125 : Int32))]) (S' := []) (w' := px_w K s1 t) (q := []) 3 hM rfl trivial (fun hc40 => ?_) (fun hc40 => ?_)
      · rw [if_pos hc40] at h
        refine px_blk (i' := 31) (L' := [some (.ref 28), some (.int a0), some (.int a1), some (.int a2), some (.int a3), some (.int (125 : Int32))]) (S' := [.int (-2147483648 : Int32)]) (w' := px_w K s1 t) (q := []) 1 hM rfl trivial ?_
        cases h
        exact px_E_ret hM rfl rfl rfl trivial
      · rw [if_neg hc40] at h
        refine px_blkif (c := a2 < 0) (t := 30) (e := 27) (L' := [some (.ref 28), some (.int a0), some (.int a1), some (.int a2), some (.int a3), some (.int (125 : Int32))]) (S' := []) (w' := px_w K s1 t) (q := []) 2 hM rfl trivial (fun hc41 => ?_) (fun hc41 => ?_)
        · rw [if_pos hc41] at h
          refine px_blk (i' := 31) (L' := [some (.ref 28), some (.int a0), some (.int a1), some (.int a2), some (.int a3), some (.int (125 : Int32))]) (S' := [.int (-2147483648 : Int32)]) (w' := px_w K s1 t) (q := []) 1 hM rfl trivial ?_
          cases h
          exact px_E_ret hM rfl rfl rfl trivial
        · rw [if_neg hc41] at h
          refine px_blkif (c := a2 < (16 : Int32)) (t := 32) (e := 30) (L' := [some (.ref 28), some (.int a0), some (.int a1), some (.int a2), some (.int a3), some (.int (125 : Int32))]) (S' := []) (w' := px_w K s1 t) (q := []) 3 hM rfl trivial (fun hc42 => ?_) (fun hc42 => ?_)
          · rw [if_pos hc42] at h
            refine px_blkif (c := a3 = 0) (t := 43) (e := 34) (L' := [some (.ref 28), some (.int a0), some (.int a1), some (.int a2), some (.int a3), some (.int (125 : Int32))]) (S' := []) (w' := px_w K s1 t) (q := []) 2 hM rfl trivial (fun hc43 => ?_) (fun hc43 => ?_)
            · rw [if_pos hc43] at h
              refine px_blk (i' := 47) (L' := [some (.ref 28), some (.int a0), some (.int a1), some (.int a2), some (.int a3), some (.int (125 : Int32))]) (S' := [.int a2, .int a1, .int a0, .ref 28]) (w' := px_w K s1 t) (q := []) 4 hM rfl trivial ?_
              rcases px_bi_some h with ⟨v47, s44, t45, hk46, h⟩ | ⟨x48, s44, t45, hk46, h⟩
              · refine px_E_call hM rfl rfl rfl rfl (px_E_mono (by decide) (e_M_read_28 K N a0 a1 a2 s1 t _ hk46)) ?_
                cases h
                exact px_E_ret hM rfl rfl rfl trivial
              · cases h
            · rw [if_neg hc43] at h
              refine px_blk (i' := 38) (L' := [some (.ref 28), some (.int a0), some (.int a1), some (.int a2), some (.int a3), some (.int (125 : Int32))]) (S' := [.int a1, .int a0, .ref 29]) (w' := px_w K s1 t) (q := []) 4 hM rfl trivial ?_
              rcases px_bi_some h with ⟨v52, s49, t50, hk51, h⟩ | ⟨x53, s49, t50, hk51, h⟩
              · refine px_E_call hM rfl rfl rfl rfl (px_E_mono (by decide) (e_M_at K N a0 a1 s1 t _ hk51)) ?_
                obtain ⟨hq54, h⟩ := px_gd_some h
                refine px_blk (i' := 48) (L' := [some (.ref 28), some (.int a0), some (.int a1), some (.int a2), some (.int a3), some (.int (125 : Int32))]) (S' := [.int ((s49.2.2.1 29) (v52 + a2).toNatClampNeg)]) (w' := px_w K s49 t50) (q := [vp_in (v52 + a2) (K.2.2 29)]) 4 hM rfl (show vp_in (v52 + a2) (K.2.2 29) from hq54) ?_
                cases h
                exact px_E_ret hM rfl rfl rfl trivial
              · cases h
          · rw [if_neg hc42] at h
            refine px_blk (i' := 31) (L' := [some (.ref 28), some (.int a0), some (.int a1), some (.int a2), some (.int a3), some (.int (125 : Int32))]) (S' := [.int (-2147483648 : Int32)]) (w' := px_w K s1 t) (q := []) 1 hM rfl trivial ?_
            cases h
            exact px_E_ret hM rfl rfl rfl trivial
noncomputable def l_M_inodes_28_4 (K : px_K) (N : Nat) (n : Nat) (m1 : Int32) (m2 : Int32) (s : px_S) (t : px_W) : Option px_LO := match n with
  | 0 => none
  | n + 1 => (if (24 : Int32) ≤ m2 then (some (.inl (20, [m1], s, t))) else (px_bi (f_M_ofInode_28 K N m2 (0 : Int32) s t) (fun v5 s2 t3 => (if v5 = 0 then (l_M_inodes_28_4 K N n (m1 + (0 : Int32)) (m2 + (1 : Int32)) s2 t3) else (l_M_inodes_28_4 K N n (m1 + (1 : Int32)) (m2 + (1 : Int32)) s2 t3))) (fun x6 s2 t3 => none)))
def a_l_M_inodes_28_4 (K : px_K) (z : px_LO) (o : Option Value ⊕ Nat) (w2 : px_W) : Prop := match z with
  | .inr (o', s', t') => o = o' ∧ w2 = px_w K s' t'
  | .inl (20, [y1], s', t') => px_E px_ET px_P 3 108 20 [none, some (.int y1), none] [] (px_w K s' t') o w2
  | _ => False
set_option maxRecDepth 100000 in
theorem e_l_M_inodes_28_4 (K : px_K) (N : Nat) : ∀ (n : Nat) (m1 : Int32) (m2 : Int32) (s : px_S) (t : px_W) (z : px_LO), l_M_inodes_28_4 K N n m1 m2 s t = some z → ∀ (o : Option Value ⊕ Nat) (w2 : px_W), a_l_M_inodes_28_4 K z o w2 → px_E px_ET px_P 3 108 4 [some (.ref 28), some (.int m1), some (.int m2)] [] (px_w K s t) o w2 := by
  have hM : px_P[108]? = some pm_M_inodes := rfl
  intro n
  induction n with
  | zero => intro m1 m2 s t z h; cases h
  | succ n ih =>
    intro m1 m2 s t z h o w2 ha
    unfold l_M_inodes_28_4 at h
    refine px_blkif (c := (24 : Int32) ≤ m2) (t := 20) (e := 7) (L' := [some (.ref 28), some (.int m1), some (.int m2)]) (S' := []) (w' := px_w K s t) (q := []) 3 hM rfl trivial (fun hc1 => ?_) (fun hc1 => ?_)
    · rw [if_pos hc1] at h
      cases h
      exact px_E_le (px_leC_L _ _ (by simp [px_leC, px_le1, Value.category])) ha
    · rw [if_neg hc1] at h
      refine px_blk (i' := 11) (L' := [some (.ref 28), some (.int m1), some (.int m2)]) (S' := [.int (0 : Int32), .int m2, .ref 28, .int m1]) (w' := px_w K s t) (q := []) 4 hM rfl trivial ?_
      rcases px_bi_some h with ⟨v5, s2, t3, hk4, h⟩ | ⟨x6, s2, t3, hk4, h⟩
      · refine px_E_call hM rfl rfl rfl rfl (px_E_mono (by decide) (e_M_ofInode_28 K N m2 (0 : Int32) s t _ hk4)) ?_
        refine px_blkif (c := v5 = 0) (t := 15) (e := 13) (L' := [some (.ref 28), some (.int m1), some (.int m2)]) (S' := [.int m1]) (w' := px_w K s2 t3) (q := []) 1 hM rfl trivial (fun hc7 => ?_) (fun hc7 => ?_)
        · rw [if_pos hc7] at h
          refine px_blk (i' := 4) (L' := [some (.ref 28), some (.int (m1 + (0 : Int32))), some (.int (m2 + (1 : Int32)))]) (S' := []) (w' := px_w K s2 t3) (q := []) 5 hM rfl trivial ?_
          exact ih (m1 + (0 : Int32)) (m2 + (1 : Int32)) s2 t3 z h o w2 ha
        · rw [if_neg hc7] at h
          refine px_blk (i' := 4) (L' := [some (.ref 28), some (.int (m1 + (1 : Int32))), some (.int (m2 + (1 : Int32)))]) (S' := []) (w' := px_w K s2 t3) (q := []) 6 hM rfl trivial ?_
          exact ih (m1 + (1 : Int32)) (m2 + (1 : Int32)) s2 t3 z h o w2 ha
      · cases h
noncomputable def f_M_inodes_28 (K : px_K) (N : Nat) (s : px_S) (t : px_W) : Option px_Res :=
  (px_lp (l_M_inodes_28_4 K N N (0 : Int32) (0 : Int32) s t) (fun i1 vs2 s3 t4 => (if i1 = 20 then (px_v1 vs2 (fun y7 => (some (.inl (some (.int y7)), s3, t4)))) else none)) (fun z6 => some z6))
set_option maxRecDepth 100000 in
theorem e_M_inodes_28 (K : px_K) (N : Nat) (s : px_S) (t : px_W) (r : px_Res) (h : f_M_inodes_28 K N s t = some r) : px_E px_ET px_P 3 108 0 (px_ent 3 [.ref 28]) [] (px_w K s t) r.1 (px_w K r.2.1 r.2.2) := by
  have hM : px_P[108]? = some pm_M_inodes := rfl
  unfold f_M_inodes_28 at h
  refine px_blk (i' := 4) (L' := [some (.ref 28), some (.int (0 : Int32)), some (.int (0 : Int32))]) (S' := []) (w' := px_w K s t) (q := []) 4 hM rfl trivial ?_
  rcases px_lp_some h with ⟨i1, vs2, s3, t4, hl5, h⟩ | ⟨z6, hl5, h⟩
  · by_cases hi8 : i1 = 20
    · subst hi8
      rw [if_pos rfl] at h
      have h9 := px_v1_some h
      clear h
      obtain ⟨y7, rfl, h⟩ := h9
      refine e_l_M_inodes_28_4 K N N (0 : Int32) (0 : Int32) s t _ hl5 _ _ ?_
      show px_E px_ET px_P 3 108 20 [none, some (.int y7), none] [] (px_w K s3 t4) _ _
      refine px_blk (i' := 21) (L' := [none, some (.int y7), none]) (S' := [.int y7]) (w' := px_w K s3 t4) (q := []) 1 hM rfl trivial ?_
      cases h
      exact px_E_ret hM rfl rfl rfl trivial
    · rw [if_neg hi8] at h
      cases h
  · cases h
    exact e_l_M_inodes_28_4 K N N (0 : Int32) (0 : Int32) s t _ hl5 _ _ ⟨rfl, rfl⟩
noncomputable def f_M_count_28 (K : px_K) (N : Nat) (a0 : Int32) (s : px_S) (t : px_W) : Option px_Res :=
  (px_let (sR s 25 (0 : Int32)) (fun s1 => (if (s1.1 29) = 0 then (if a0.toInt = 0 then (if (s1.1 29) = 0 then (some (.inl (some (.int (0 : Int32))), s1, t)) else (some (.inl (some (.int (1 : Int32))), s1, t))) else (if a0.toInt = 1 then (if (0 : Int32) = 0 then (some (.inl (some (.int (0 : Int32))), s1, t)) else (some (.inl (some (.int (1 : Int32))), s1, t))) else (if a0.toInt = 2 then (px_bi (f_M_landed_28 K N s1 t) (fun v12 s9 t10 => (some (.inl (some (.int v12)), s9, t10))) (fun x13 s9 t10 => none)) else (if a0.toInt = 3 then (if (0 : Int32) = 0 then (some (.inl (some (.int (-1 : Int32))), s1, t)) else (some (.inl (some (.int (s1.1 32))), s1, t))) else (if a0.toInt = 4 then (if (0 : Int32) = 0 then (some (.inl (some (.int (-1 : Int32))), s1, t)) else (px_bi (f_M_landed_28 K N s1 t) (fun v21 s18 t19 => (some (.inl (some (.int (((s1.1 32) - (1 : Int32)) - v21))), s18, t19))) (fun x22 s18 t19 => none))) else (if a0.toInt = 5 then (if (0 : Int32) = 0 then (some (.inl (some (.int (-1 : Int32))), s1, t)) else (px_bi (f_M_dirtyOf_28 K N (s1.1 32) s1 t) (fun v28 s25 t26 => (some (.inl (some (.int v28)), s25, t26))) (fun x29 s25 t26 => none))) else (if a0.toInt = 6 then (if (s1.1 29) = 0 then (some (.inl (some (.int (-1 : Int32))), s1, t)) else (some (.inl (some (.int (s1.1 36))), s1, t))) else (if a0.toInt = 7 then (if (s1.1 29) = 0 then (some (.inl (some (.int (-1 : Int32))), s1, t)) else (px_bi (f_M_changes_28 K N s1 t) (fun v37 s34 t35 => (some (.inl (some (.int v37)), s34, t35))) (fun x38 s34 t35 => none))) else (if a0.toInt = 8 then (if (s1.1 29) = 0 then (some (.inl (some (.int (-1 : Int32))), s1, t)) else (px_bi (f_M_keeps_28 K N s1 t) (fun v44 s41 t42 => (some (.inl (some (.int v44)), s41, t42))) (fun x45 s41 t42 => none))) else (if a0.toInt = 9 then (if (s1.1 29) = 0 then (some (.inl (some (.int (-1 : Int32))), s1, t)) else (some (.inl (some (.int ((29 : Int32) - (s1.1 37)))), s1, t))) else (if a0.toInt = 10 then (if (s1.1 29) = 0 then (some (.inl (some (.int (-1 : Int32))), s1, t)) else (px_bi (f_M_inodes_28 K N s1 t) (fun v53 s50 t51 => (some (.inl (some (.int v53)), s50, t51))) (fun x54 s50 t51 => none))) else (if a0.toInt = 11 then (if (s1.1 29) = 0 then (some (.inl (some (.int (-1 : Int32))), s1, t)) else (px_bi (f_M_left_28 K N s1 t) (fun v60 s57 t58 => (some (.inl (some (.int ((64 : Int32) - v60))), s57, t58))) (fun x61 s57 t58 => none))) else (if a0.toInt = 12 then (px_gd (vp_in (a0 - (12 : Int32)) (K.2.2 30)) (some (.inl (some (.int ((s1.2.2.1 30) (a0 - (12 : Int32)).toNatClampNeg))), s1, t))) else (if a0.toInt = 13 then (px_gd (vp_in (a0 - (12 : Int32)) (K.2.2 30)) (some (.inl (some (.int ((s1.2.2.1 30) (a0 - (12 : Int32)).toNatClampNeg))), s1, t))) else (if a0.toInt = 14 then (px_gd (vp_in (a0 - (14 : Int32)) (K.2.2 33)) (some (.inl (some (.int ((s1.2.2.1 33) (a0 - (14 : Int32)).toNatClampNeg))), s1, t))) else (if a0.toInt = 15 then (px_gd (vp_in (a0 - (14 : Int32)) (K.2.2 33)) (some (.inl (some (.int ((s1.2.2.1 33) (a0 - (14 : Int32)).toNatClampNeg))), s1, t))) else (if a0.toInt = 16 then (px_gd (vp_in (a0 - (16 : Int32)) (K.2.2 34)) (some (.inl (some (.int ((s1.2.2.1 34) (a0 - (16 : Int32)).toNatClampNeg))), s1, t))) else (if a0.toInt = 17 then (px_gd (vp_in (a0 - (16 : Int32)) (K.2.2 34)) (some (.inl (some (.int ((s1.2.2.1 34) (a0 - (16 : Int32)).toNatClampNeg))), s1, t))) else (some (.inl (some (.int (-1 : Int32))), s1, t)))))))))))))))))))) else (if (s1.1 31) = 0 then (if a0.toInt = 0 then (if (s1.1 29) = 0 then (some (.inl (some (.int (0 : Int32))), s1, t)) else (some (.inl (some (.int (1 : Int32))), s1, t))) else (if a0.toInt = 1 then (if (0 : Int32) = 0 then (some (.inl (some (.int (0 : Int32))), s1, t)) else (some (.inl (some (.int (1 : Int32))), s1, t))) else (if a0.toInt = 2 then (px_bi (f_M_landed_28 K N s1 t) (fun v83 s80 t81 => (some (.inl (some (.int v83)), s80, t81))) (fun x84 s80 t81 => none)) else (if a0.toInt = 3 then (if (0 : Int32) = 0 then (some (.inl (some (.int (-1 : Int32))), s1, t)) else (some (.inl (some (.int (s1.1 32))), s1, t))) else (if a0.toInt = 4 then (if (0 : Int32) = 0 then (some (.inl (some (.int (-1 : Int32))), s1, t)) else (px_bi (f_M_landed_28 K N s1 t) (fun v92 s89 t90 => (some (.inl (some (.int (((s1.1 32) - (1 : Int32)) - v92))), s89, t90))) (fun x93 s89 t90 => none))) else (if a0.toInt = 5 then (if (0 : Int32) = 0 then (some (.inl (some (.int (-1 : Int32))), s1, t)) else (px_bi (f_M_dirtyOf_28 K N (s1.1 32) s1 t) (fun v99 s96 t97 => (some (.inl (some (.int v99)), s96, t97))) (fun x100 s96 t97 => none))) else (if a0.toInt = 6 then (if (s1.1 29) = 0 then (some (.inl (some (.int (-1 : Int32))), s1, t)) else (some (.inl (some (.int (s1.1 36))), s1, t))) else (if a0.toInt = 7 then (if (s1.1 29) = 0 then (some (.inl (some (.int (-1 : Int32))), s1, t)) else (px_bi (f_M_changes_28 K N s1 t) (fun v108 s105 t106 => (some (.inl (some (.int v108)), s105, t106))) (fun x109 s105 t106 => none))) else (if a0.toInt = 8 then (if (s1.1 29) = 0 then (some (.inl (some (.int (-1 : Int32))), s1, t)) else (px_bi (f_M_keeps_28 K N s1 t) (fun v115 s112 t113 => (some (.inl (some (.int v115)), s112, t113))) (fun x116 s112 t113 => none))) else (if a0.toInt = 9 then (if (s1.1 29) = 0 then (some (.inl (some (.int (-1 : Int32))), s1, t)) else (some (.inl (some (.int ((29 : Int32) - (s1.1 37)))), s1, t))) else (if a0.toInt = 10 then (if (s1.1 29) = 0 then (some (.inl (some (.int (-1 : Int32))), s1, t)) else (px_bi (f_M_inodes_28 K N s1 t) (fun v124 s121 t122 => (some (.inl (some (.int v124)), s121, t122))) (fun x125 s121 t122 => none))) else (if a0.toInt = 11 then (if (s1.1 29) = 0 then (some (.inl (some (.int (-1 : Int32))), s1, t)) else (px_bi (f_M_left_28 K N s1 t) (fun v131 s128 t129 => (some (.inl (some (.int ((64 : Int32) - v131))), s128, t129))) (fun x132 s128 t129 => none))) else (if a0.toInt = 12 then (px_gd (vp_in (a0 - (12 : Int32)) (K.2.2 30)) (some (.inl (some (.int ((s1.2.2.1 30) (a0 - (12 : Int32)).toNatClampNeg))), s1, t))) else (if a0.toInt = 13 then (px_gd (vp_in (a0 - (12 : Int32)) (K.2.2 30)) (some (.inl (some (.int ((s1.2.2.1 30) (a0 - (12 : Int32)).toNatClampNeg))), s1, t))) else (if a0.toInt = 14 then (px_gd (vp_in (a0 - (14 : Int32)) (K.2.2 33)) (some (.inl (some (.int ((s1.2.2.1 33) (a0 - (14 : Int32)).toNatClampNeg))), s1, t))) else (if a0.toInt = 15 then (px_gd (vp_in (a0 - (14 : Int32)) (K.2.2 33)) (some (.inl (some (.int ((s1.2.2.1 33) (a0 - (14 : Int32)).toNatClampNeg))), s1, t))) else (if a0.toInt = 16 then (px_gd (vp_in (a0 - (16 : Int32)) (K.2.2 34)) (some (.inl (some (.int ((s1.2.2.1 34) (a0 - (16 : Int32)).toNatClampNeg))), s1, t))) else (if a0.toInt = 17 then (px_gd (vp_in (a0 - (16 : Int32)) (K.2.2 34)) (some (.inl (some (.int ((s1.2.2.1 34) (a0 - (16 : Int32)).toNatClampNeg))), s1, t))) else (some (.inl (some (.int (-1 : Int32))), s1, t)))))))))))))))))))) else (if a0.toInt = 0 then (if (s1.1 29) = 0 then (some (.inl (some (.int (0 : Int32))), s1, t)) else (some (.inl (some (.int (1 : Int32))), s1, t))) else (if a0.toInt = 1 then (if (1 : Int32) = 0 then (some (.inl (some (.int (0 : Int32))), s1, t)) else (some (.inl (some (.int (1 : Int32))), s1, t))) else (if a0.toInt = 2 then (px_bi (f_M_landed_28 K N s1 t) (fun v153 s150 t151 => (some (.inl (some (.int v153)), s150, t151))) (fun x154 s150 t151 => none)) else (if a0.toInt = 3 then (if (1 : Int32) = 0 then (some (.inl (some (.int (-1 : Int32))), s1, t)) else (some (.inl (some (.int (s1.1 32))), s1, t))) else (if a0.toInt = 4 then (if (1 : Int32) = 0 then (some (.inl (some (.int (-1 : Int32))), s1, t)) else (px_bi (f_M_landed_28 K N s1 t) (fun v162 s159 t160 => (some (.inl (some (.int (((s1.1 32) - (1 : Int32)) - v162))), s159, t160))) (fun x163 s159 t160 => none))) else (if a0.toInt = 5 then (if (1 : Int32) = 0 then (some (.inl (some (.int (-1 : Int32))), s1, t)) else (px_bi (f_M_dirtyOf_28 K N (s1.1 32) s1 t) (fun v169 s166 t167 => (some (.inl (some (.int v169)), s166, t167))) (fun x170 s166 t167 => none))) else (if a0.toInt = 6 then (if (s1.1 29) = 0 then (some (.inl (some (.int (-1 : Int32))), s1, t)) else (some (.inl (some (.int (s1.1 36))), s1, t))) else (if a0.toInt = 7 then (if (s1.1 29) = 0 then (some (.inl (some (.int (-1 : Int32))), s1, t)) else (px_bi (f_M_changes_28 K N s1 t) (fun v178 s175 t176 => (some (.inl (some (.int v178)), s175, t176))) (fun x179 s175 t176 => none))) else (if a0.toInt = 8 then (if (s1.1 29) = 0 then (some (.inl (some (.int (-1 : Int32))), s1, t)) else (px_bi (f_M_keeps_28 K N s1 t) (fun v185 s182 t183 => (some (.inl (some (.int v185)), s182, t183))) (fun x186 s182 t183 => none))) else (if a0.toInt = 9 then (if (s1.1 29) = 0 then (some (.inl (some (.int (-1 : Int32))), s1, t)) else (some (.inl (some (.int ((29 : Int32) - (s1.1 37)))), s1, t))) else (if a0.toInt = 10 then (if (s1.1 29) = 0 then (some (.inl (some (.int (-1 : Int32))), s1, t)) else (px_bi (f_M_inodes_28 K N s1 t) (fun v194 s191 t192 => (some (.inl (some (.int v194)), s191, t192))) (fun x195 s191 t192 => none))) else (if a0.toInt = 11 then (if (s1.1 29) = 0 then (some (.inl (some (.int (-1 : Int32))), s1, t)) else (px_bi (f_M_left_28 K N s1 t) (fun v201 s198 t199 => (some (.inl (some (.int ((64 : Int32) - v201))), s198, t199))) (fun x202 s198 t199 => none))) else (if a0.toInt = 12 then (px_gd (vp_in (a0 - (12 : Int32)) (K.2.2 30)) (some (.inl (some (.int ((s1.2.2.1 30) (a0 - (12 : Int32)).toNatClampNeg))), s1, t))) else (if a0.toInt = 13 then (px_gd (vp_in (a0 - (12 : Int32)) (K.2.2 30)) (some (.inl (some (.int ((s1.2.2.1 30) (a0 - (12 : Int32)).toNatClampNeg))), s1, t))) else (if a0.toInt = 14 then (px_gd (vp_in (a0 - (14 : Int32)) (K.2.2 33)) (some (.inl (some (.int ((s1.2.2.1 33) (a0 - (14 : Int32)).toNatClampNeg))), s1, t))) else (if a0.toInt = 15 then (px_gd (vp_in (a0 - (14 : Int32)) (K.2.2 33)) (some (.inl (some (.int ((s1.2.2.1 33) (a0 - (14 : Int32)).toNatClampNeg))), s1, t))) else (if a0.toInt = 16 then (px_gd (vp_in (a0 - (16 : Int32)) (K.2.2 34)) (some (.inl (some (.int ((s1.2.2.1 34) (a0 - (16 : Int32)).toNatClampNeg))), s1, t))) else (if a0.toInt = 17 then (px_gd (vp_in (a0 - (16 : Int32)) (K.2.2 34)) (some (.inl (some (.int ((s1.2.2.1 34) (a0 - (16 : Int32)).toNatClampNeg))), s1, t))) else (some (.inl (some (.int (-1 : Int32))), s1, t))))))))))))))))))))))))
set_option maxRecDepth 100000 in
theorem e_M_count_28 (K : px_K) (N : Nat) (a0 : Int32) (s : px_S) (t : px_W) (r : px_Res) (h : f_M_count_28 K N a0 s t = some r) : px_E px_ET px_P 4 107 0 (px_ent 3 [.ref 28, .int a0]) [] (px_w K s t) r.1 (px_w K r.2.1 r.2.2) := by
  have hM : px_P[107]? = some pm_M_count := rfl
  unfold f_M_count_28 at h
  refine px_blk (i' := 3) (L' := [some (.ref 28), some (.int a0), none]) (S' := []) (w' := px_w K (sR s 25 (0 : Int32)) t) (q := []) 3 hM rfl trivial ?_
  obtain ⟨s1, hs2, h⟩ := px_let_some h
  rw [← hs2]
  refine px_blkif (c := (s1.1 29) = 0) (t := 11) (e := 6) (L' := [some (.ref 28), some (.int a0), none]) (S' := []) (w' := px_w K s1 t) (q := []) 3 hM rfl trivial (fun hc3 => ?_) (fun hc3 => ?_)
  · rw [if_pos hc3] at h
    refine px_blk (i' := 14) (L' := [some (.ref 28), some (.int a0), some (.int (0 : Int32))]) (S' := [.int a0]) (w' := px_w K s1 t) (q := []) 3 hM rfl trivial ?_
    by_cases hs4 : a0.toInt = 0
    · rw [if_pos hs4] at h
      refine px_E_step hM rfl rfl (px_tb_at hs4 rfl) trivial ?_
      refine px_blkif (c := (s1.1 29) = 0) (t := 20) (e := 18) (L' := [some (.ref 28), some (.int a0), some (.int (0 : Int32))]) (S' := []) (w' := px_w K s1 t) (q := []) 3 hM rfl trivial (fun hc5 => ?_) (fun hc5 => ?_)
      · rw [if_pos hc5] at h
        refine px_blk (i' := 21) (L' := [some (.ref 28), some (.int a0), some (.int (0 : Int32))]) (S' := [.int (0 : Int32)]) (w' := px_w K s1 t) (q := []) 1 hM rfl trivial ?_
        cases h
        exact px_E_ret hM rfl rfl rfl trivial
      · rw [if_neg hc5] at h
        refine px_blk (i' := 21) (L' := [some (.ref 28), some (.int a0), some (.int (0 : Int32))]) (S' := [.int (1 : Int32)]) (w' := px_w K s1 t) (q := []) 2 hM rfl trivial ?_
        cases h
        exact px_E_ret hM rfl rfl rfl trivial
    · rw [if_neg hs4] at h
      by_cases hs6 : a0.toInt = 1
      · rw [if_pos hs6] at h
        refine px_E_step hM rfl rfl (px_tb_at hs6 rfl) trivial ?_
        refine px_blkif (c := (0 : Int32) = 0) (t := 26) (e := 24) (L' := [some (.ref 28), some (.int a0), some (.int (0 : Int32))]) (S' := []) (w' := px_w K s1 t) (q := []) 2 hM rfl trivial (fun hc7 => ?_) (fun hc7 => ?_)
        · rw [if_pos hc7] at h
          refine px_blk (i' := 27) (L' := [some (.ref 28), some (.int a0), some (.int (0 : Int32))]) (S' := [.int (0 : Int32)]) (w' := px_w K s1 t) (q := []) 1 hM rfl trivial ?_
          cases h
          exact px_E_ret hM rfl rfl rfl trivial
        · rw [if_neg hc7] at h
          refine px_blk (i' := 27) (L' := [some (.ref 28), some (.int a0), some (.int (0 : Int32))]) (S' := [.int (1 : Int32)]) (w' := px_w K s1 t) (q := []) 2 hM rfl trivial ?_
          cases h
          exact px_E_ret hM rfl rfl rfl trivial
      · rw [if_neg hs6] at h
        by_cases hs8 : a0.toInt = 2
        · rw [if_pos hs8] at h
          refine px_E_step hM rfl rfl (px_tb_at hs8 rfl) trivial ?_
          refine px_blk (i' := 29) (L' := [some (.ref 28), some (.int a0), some (.int (0 : Int32))]) (S' := [.ref 28]) (w' := px_w K s1 t) (q := []) 1 hM rfl trivial ?_
          rcases px_bi_some h with ⟨v12, s9, t10, hk11, h⟩ | ⟨x13, s9, t10, hk11, h⟩
          · refine px_E_call hM rfl rfl rfl rfl (px_E_mono (by decide) (e_M_landed_28 K N s1 t _ hk11)) ?_
            cases h
            exact px_E_ret hM rfl rfl rfl trivial
          · cases h
        · rw [if_neg hs8] at h
          by_cases hs14 : a0.toInt = 3
          · rw [if_pos hs14] at h
            refine px_E_step hM rfl rfl (px_tb_at hs14 rfl) trivial ?_
            refine px_blkif (c := (0 : Int32) = 0) (t := 36) (e := 33) (L' := [some (.ref 28), some (.int a0), some (.int (0 : Int32))]) (S' := []) (w' := px_w K s1 t) (q := []) 2 hM rfl trivial (fun hc15 => ?_) (fun hc15 => ?_)
            · rw [if_pos hc15] at h
              refine px_blk (i' := 37) (L' := [some (.ref 28), some (.int a0), some (.int (0 : Int32))]) (S' := [.int (-1 : Int32)]) (w' := px_w K s1 t) (q := []) 1 hM rfl trivial ?_
              cases h
              exact px_E_ret hM rfl rfl rfl trivial
            · rw [if_neg hc15] at h
              refine px_blk (i' := 37) (L' := [some (.ref 28), some (.int a0), some (.int (0 : Int32))]) (S' := [.int (s1.1 32)]) (w' := px_w K s1 t) (q := []) 3 hM rfl trivial ?_
              cases h
              exact px_E_ret hM rfl rfl rfl trivial
          · rw [if_neg hs14] at h
            by_cases hs16 : a0.toInt = 4
            · rw [if_pos hs16] at h
              refine px_E_step hM rfl rfl (px_tb_at hs16 rfl) trivial ?_
              refine px_blkif (c := (0 : Int32) = 0) (t := 48) (e := 40) (L' := [some (.ref 28), some (.int a0), some (.int (0 : Int32))]) (S' := []) (w' := px_w K s1 t) (q := []) 2 hM rfl trivial (fun hc17 => ?_) (fun hc17 => ?_)
              · rw [if_pos hc17] at h
                refine px_blk (i' := 49) (L' := [some (.ref 28), some (.int a0), some (.int (0 : Int32))]) (S' := [.int (-1 : Int32)]) (w' := px_w K s1 t) (q := []) 1 hM rfl trivial ?_
                cases h
                exact px_E_ret hM rfl rfl rfl trivial
              · rw [if_neg hc17] at h
                refine px_blk (i' := 45) (L' := [some (.ref 28), some (.int a0), some (.int (0 : Int32))]) (S' := [.ref 28, .int ((s1.1 32) - (1 : Int32))]) (w' := px_w K s1 t) (q := []) 5 hM rfl trivial ?_
                rcases px_bi_some h with ⟨v21, s18, t19, hk20, h⟩ | ⟨x22, s18, t19, hk20, h⟩
                · refine px_E_call hM rfl rfl rfl rfl (px_E_mono (by decide) (e_M_landed_28 K N s1 t _ hk20)) ?_
                  refine px_blk (i' := 49) (L' := [some (.ref 28), some (.int a0), some (.int (0 : Int32))]) (S' := [.int (((s1.1 32) - (1 : Int32)) - v21)]) (w' := px_w K s18 t19) (q := []) 2 hM rfl trivial ?_
                  cases h
                  exact px_E_ret hM rfl rfl rfl trivial
                · cases h
            · rw [if_neg hs16] at h
              by_cases hs23 : a0.toInt = 5
              · rw [if_pos hs23] at h
                refine px_E_step hM rfl rfl (px_tb_at hs23 rfl) trivial ?_
                refine px_blkif (c := (0 : Int32) = 0) (t := 57) (e := 52) (L' := [some (.ref 28), some (.int a0), some (.int (0 : Int32))]) (S' := []) (w' := px_w K s1 t) (q := []) 2 hM rfl trivial (fun hc24 => ?_) (fun hc24 => ?_)
                · rw [if_pos hc24] at h
                  refine px_blk (i' := 58) (L' := [some (.ref 28), some (.int a0), some (.int (0 : Int32))]) (S' := [.int (-1 : Int32)]) (w' := px_w K s1 t) (q := []) 1 hM rfl trivial ?_
                  cases h
                  exact px_E_ret hM rfl rfl rfl trivial
                · rw [if_neg hc24] at h
                  refine px_blk (i' := 55) (L' := [some (.ref 28), some (.int a0), some (.int (0 : Int32))]) (S' := [.int (s1.1 32), .ref 28]) (w' := px_w K s1 t) (q := []) 3 hM rfl trivial ?_
                  rcases px_bi_some h with ⟨v28, s25, t26, hk27, h⟩ | ⟨x29, s25, t26, hk27, h⟩
                  · refine px_E_call hM rfl rfl rfl rfl (px_E_mono (by decide) (e_M_dirtyOf_28 K N (s1.1 32) s1 t _ hk27)) ?_
                    refine px_blk (i' := 58) (L' := [some (.ref 28), some (.int a0), some (.int (0 : Int32))]) (S' := [.int v28]) (w' := px_w K s25 t26) (q := []) 1 hM rfl trivial ?_
                    cases h
                    exact px_E_ret hM rfl rfl rfl trivial
                  · cases h
              · rw [if_neg hs23] at h
                by_cases hs30 : a0.toInt = 6
                · rw [if_pos hs30] at h
                  refine px_E_step hM rfl rfl (px_tb_at hs30 rfl) trivial ?_
                  refine px_blkif (c := (s1.1 29) = 0) (t := 65) (e := 62) (L' := [some (.ref 28), some (.int a0), some (.int (0 : Int32))]) (S' := []) (w' := px_w K s1 t) (q := []) 3 hM rfl trivial (fun hc31 => ?_) (fun hc31 => ?_)
                  · rw [if_pos hc31] at h
                    refine px_blk (i' := 66) (L' := [some (.ref 28), some (.int a0), some (.int (0 : Int32))]) (S' := [.int (-1 : Int32)]) (w' := px_w K s1 t) (q := []) 1 hM rfl trivial ?_
                    cases h
                    exact px_E_ret hM rfl rfl rfl trivial
                  · rw [if_neg hc31] at h
                    refine px_blk (i' := 66) (L' := [some (.ref 28), some (.int a0), some (.int (0 : Int32))]) (S' := [.int (s1.1 36)]) (w' := px_w K s1 t) (q := []) 3 hM rfl trivial ?_
                    cases h
                    exact px_E_ret hM rfl rfl rfl trivial
                · rw [if_neg hs30] at h
                  by_cases hs32 : a0.toInt = 7
                  · rw [if_pos hs32] at h
                    refine px_E_step hM rfl rfl (px_tb_at hs32 rfl) trivial ?_
                    refine px_blkif (c := (s1.1 29) = 0) (t := 73) (e := 70) (L' := [some (.ref 28), some (.int a0), some (.int (0 : Int32))]) (S' := []) (w' := px_w K s1 t) (q := []) 3 hM rfl trivial (fun hc33 => ?_) (fun hc33 => ?_)
                    · rw [if_pos hc33] at h
                      refine px_blk (i' := 74) (L' := [some (.ref 28), some (.int a0), some (.int (0 : Int32))]) (S' := [.int (-1 : Int32)]) (w' := px_w K s1 t) (q := []) 1 hM rfl trivial ?_
                      cases h
                      exact px_E_ret hM rfl rfl rfl trivial
                    · rw [if_neg hc33] at h
                      refine px_blk (i' := 71) (L' := [some (.ref 28), some (.int a0), some (.int (0 : Int32))]) (S' := [.ref 28]) (w' := px_w K s1 t) (q := []) 1 hM rfl trivial ?_
                      rcases px_bi_some h with ⟨v37, s34, t35, hk36, h⟩ | ⟨x38, s34, t35, hk36, h⟩
                      · refine px_E_call hM rfl rfl rfl rfl (px_E_mono (by decide) (e_M_changes_28 K N s1 t _ hk36)) ?_
                        refine px_blk (i' := 74) (L' := [some (.ref 28), some (.int a0), some (.int (0 : Int32))]) (S' := [.int v37]) (w' := px_w K s34 t35) (q := []) 1 hM rfl trivial ?_
                        cases h
                        exact px_E_ret hM rfl rfl rfl trivial
                      · cases h
                  · rw [if_neg hs32] at h
                    by_cases hs39 : a0.toInt = 8
                    · rw [if_pos hs39] at h
                      refine px_E_step hM rfl rfl (px_tb_at hs39 rfl) trivial ?_
                      refine px_blkif (c := (s1.1 29) = 0) (t := 81) (e := 78) (L' := [some (.ref 28), some (.int a0), some (.int (0 : Int32))]) (S' := []) (w' := px_w K s1 t) (q := []) 3 hM rfl trivial (fun hc40 => ?_) (fun hc40 => ?_)
                      · rw [if_pos hc40] at h
                        refine px_blk (i' := 82) (L' := [some (.ref 28), some (.int a0), some (.int (0 : Int32))]) (S' := [.int (-1 : Int32)]) (w' := px_w K s1 t) (q := []) 1 hM rfl trivial ?_
                        cases h
                        exact px_E_ret hM rfl rfl rfl trivial
                      · rw [if_neg hc40] at h
                        refine px_blk (i' := 79) (L' := [some (.ref 28), some (.int a0), some (.int (0 : Int32))]) (S' := [.ref 28]) (w' := px_w K s1 t) (q := []) 1 hM rfl trivial ?_
                        rcases px_bi_some h with ⟨v44, s41, t42, hk43, h⟩ | ⟨x45, s41, t42, hk43, h⟩
                        · refine px_E_call hM rfl rfl rfl rfl (px_E_mono (by decide) (e_M_keeps_28 K N s1 t _ hk43)) ?_
                          refine px_blk (i' := 82) (L' := [some (.ref 28), some (.int a0), some (.int (0 : Int32))]) (S' := [.int v44]) (w' := px_w K s41 t42) (q := []) 1 hM rfl trivial ?_
                          cases h
                          exact px_E_ret hM rfl rfl rfl trivial
                        · cases h
                    · rw [if_neg hs39] at h
                      by_cases hs46 : a0.toInt = 9
                      · rw [if_pos hs46] at h
                        refine px_E_step hM rfl rfl (px_tb_at hs46 rfl) trivial ?_
                        refine px_blkif (c := (s1.1 29) = 0) (t := 91) (e := 86) (L' := [some (.ref 28), some (.int a0), some (.int (0 : Int32))]) (S' := []) (w' := px_w K s1 t) (q := []) 3 hM rfl trivial (fun hc47 => ?_) (fun hc47 => ?_)
                        · rw [if_pos hc47] at h
                          refine px_blk (i' := 92) (L' := [some (.ref 28), some (.int a0), some (.int (0 : Int32))]) (S' := [.int (-1 : Int32)]) (w' := px_w K s1 t) (q := []) 1 hM rfl trivial ?_
                          cases h
                          exact px_E_ret hM rfl rfl rfl trivial
                        · rw [if_neg hc47] at h
                          refine px_blk (i' := 92) (L' := [some (.ref 28), some (.int a0), some (.int (0 : Int32))]) (S' := [.int ((29 : Int32) - (s1.1 37))]) (w' := px_w K s1 t) (q := []) 5 hM rfl trivial ?_
                          cases h
                          exact px_E_ret hM rfl rfl rfl trivial
                      · rw [if_neg hs46] at h
                        by_cases hs48 : a0.toInt = 10
                        · rw [if_pos hs48] at h
                          refine px_E_step hM rfl rfl (px_tb_at hs48 rfl) trivial ?_
                          refine px_blkif (c := (s1.1 29) = 0) (t := 99) (e := 96) (L' := [some (.ref 28), some (.int a0), some (.int (0 : Int32))]) (S' := []) (w' := px_w K s1 t) (q := []) 3 hM rfl trivial (fun hc49 => ?_) (fun hc49 => ?_)
                          · rw [if_pos hc49] at h
                            refine px_blk (i' := 100) (L' := [some (.ref 28), some (.int a0), some (.int (0 : Int32))]) (S' := [.int (-1 : Int32)]) (w' := px_w K s1 t) (q := []) 1 hM rfl trivial ?_
                            cases h
                            exact px_E_ret hM rfl rfl rfl trivial
                          · rw [if_neg hc49] at h
                            refine px_blk (i' := 97) (L' := [some (.ref 28), some (.int a0), some (.int (0 : Int32))]) (S' := [.ref 28]) (w' := px_w K s1 t) (q := []) 1 hM rfl trivial ?_
                            rcases px_bi_some h with ⟨v53, s50, t51, hk52, h⟩ | ⟨x54, s50, t51, hk52, h⟩
                            · refine px_E_call hM rfl rfl rfl rfl (px_E_mono (by decide) (e_M_inodes_28 K N s1 t _ hk52)) ?_
                              refine px_blk (i' := 100) (L' := [some (.ref 28), some (.int a0), some (.int (0 : Int32))]) (S' := [.int v53]) (w' := px_w K s50 t51) (q := []) 1 hM rfl trivial ?_
                              cases h
                              exact px_E_ret hM rfl rfl rfl trivial
                            · cases h
                        · rw [if_neg hs48] at h
                          by_cases hs55 : a0.toInt = 11
                          · rw [if_pos hs55] at h
                            refine px_E_step hM rfl rfl (px_tb_at hs55 rfl) trivial ?_
                            refine px_blkif (c := (s1.1 29) = 0) (t := 109) (e := 104) (L' := [some (.ref 28), some (.int a0), some (.int (0 : Int32))]) (S' := []) (w' := px_w K s1 t) (q := []) 3 hM rfl trivial (fun hc56 => ?_) (fun hc56 => ?_)
                            · rw [if_pos hc56] at h
                              refine px_blk (i' := 110) (L' := [some (.ref 28), some (.int a0), some (.int (0 : Int32))]) (S' := [.int (-1 : Int32)]) (w' := px_w K s1 t) (q := []) 1 hM rfl trivial ?_
                              cases h
                              exact px_E_ret hM rfl rfl rfl trivial
                            · rw [if_neg hc56] at h
                              refine px_blk (i' := 106) (L' := [some (.ref 28), some (.int a0), some (.int (0 : Int32))]) (S' := [.ref 28, .int (64 : Int32)]) (w' := px_w K s1 t) (q := []) 2 hM rfl trivial ?_
                              rcases px_bi_some h with ⟨v60, s57, t58, hk59, h⟩ | ⟨x61, s57, t58, hk59, h⟩
                              · refine px_E_call hM rfl rfl rfl rfl (px_E_mono (by decide) (e_M_left_28 K N s1 t _ hk59)) ?_
                                refine px_blk (i' := 110) (L' := [some (.ref 28), some (.int a0), some (.int (0 : Int32))]) (S' := [.int ((64 : Int32) - v60)]) (w' := px_w K s57 t58) (q := []) 2 hM rfl trivial ?_
                                cases h
                                exact px_E_ret hM rfl rfl rfl trivial
                              · cases h
                          · rw [if_neg hs55] at h
                            by_cases hs62 : a0.toInt = 12
                            · rw [if_pos hs62] at h
                              refine px_E_step hM rfl rfl (px_tb_at hs62 rfl) trivial ?_
                              obtain ⟨hq63, h⟩ := px_gd_some h
                              refine px_blk (i' := 117) (L' := [some (.ref 28), some (.int a0), some (.int (0 : Int32))]) (S' := [.int ((s1.2.2.1 30) (a0 - (12 : Int32)).toNatClampNeg)]) (w' := px_w K s1 t) (q := [vp_in (a0 - (12 : Int32)) (K.2.2 30)]) 6 hM rfl (show vp_in (a0 - (12 : Int32)) (K.2.2 30) from hq63) ?_
                              cases h
                              exact px_E_ret hM rfl rfl rfl trivial
                            · rw [if_neg hs62] at h
                              by_cases hs64 : a0.toInt = 13
                              · rw [if_pos hs64] at h
                                refine px_E_step hM rfl rfl (px_tb_at hs64 rfl) trivial ?_
                                obtain ⟨hq65, h⟩ := px_gd_some h
                                refine px_blk (i' := 117) (L' := [some (.ref 28), some (.int a0), some (.int (0 : Int32))]) (S' := [.int ((s1.2.2.1 30) (a0 - (12 : Int32)).toNatClampNeg)]) (w' := px_w K s1 t) (q := [vp_in (a0 - (12 : Int32)) (K.2.2 30)]) 6 hM rfl (show vp_in (a0 - (12 : Int32)) (K.2.2 30) from hq65) ?_
                                cases h
                                exact px_E_ret hM rfl rfl rfl trivial
                              · rw [if_neg hs64] at h
                                by_cases hs66 : a0.toInt = 14
                                · rw [if_pos hs66] at h
                                  refine px_E_step hM rfl rfl (px_tb_at hs66 rfl) trivial ?_
                                  obtain ⟨hq67, h⟩ := px_gd_some h
                                  refine px_blk (i' := 124) (L' := [some (.ref 28), some (.int a0), some (.int (0 : Int32))]) (S' := [.int ((s1.2.2.1 33) (a0 - (14 : Int32)).toNatClampNeg)]) (w' := px_w K s1 t) (q := [vp_in (a0 - (14 : Int32)) (K.2.2 33)]) 6 hM rfl (show vp_in (a0 - (14 : Int32)) (K.2.2 33) from hq67) ?_
                                  cases h
                                  exact px_E_ret hM rfl rfl rfl trivial
                                · rw [if_neg hs66] at h
                                  by_cases hs68 : a0.toInt = 15
                                  · rw [if_pos hs68] at h
                                    refine px_E_step hM rfl rfl (px_tb_at hs68 rfl) trivial ?_
                                    obtain ⟨hq69, h⟩ := px_gd_some h
                                    refine px_blk (i' := 124) (L' := [some (.ref 28), some (.int a0), some (.int (0 : Int32))]) (S' := [.int ((s1.2.2.1 33) (a0 - (14 : Int32)).toNatClampNeg)]) (w' := px_w K s1 t) (q := [vp_in (a0 - (14 : Int32)) (K.2.2 33)]) 6 hM rfl (show vp_in (a0 - (14 : Int32)) (K.2.2 33) from hq69) ?_
                                    cases h
                                    exact px_E_ret hM rfl rfl rfl trivial
                                  · rw [if_neg hs68] at h
                                    by_cases hs70 : a0.toInt = 16
                                    · rw [if_pos hs70] at h
                                      refine px_E_step hM rfl rfl (px_tb_at hs70 rfl) trivial ?_
                                      obtain ⟨hq71, h⟩ := px_gd_some h
                                      refine px_blk (i' := 131) (L' := [some (.ref 28), some (.int a0), some (.int (0 : Int32))]) (S' := [.int ((s1.2.2.1 34) (a0 - (16 : Int32)).toNatClampNeg)]) (w' := px_w K s1 t) (q := [vp_in (a0 - (16 : Int32)) (K.2.2 34)]) 6 hM rfl (show vp_in (a0 - (16 : Int32)) (K.2.2 34) from hq71) ?_
                                      cases h
                                      exact px_E_ret hM rfl rfl rfl trivial
                                    · rw [if_neg hs70] at h
                                      by_cases hs72 : a0.toInt = 17
                                      · rw [if_pos hs72] at h
                                        refine px_E_step hM rfl rfl (px_tb_at hs72 rfl) trivial ?_
                                        obtain ⟨hq73, h⟩ := px_gd_some h
                                        refine px_blk (i' := 131) (L' := [some (.ref 28), some (.int a0), some (.int (0 : Int32))]) (S' := [.int ((s1.2.2.1 34) (a0 - (16 : Int32)).toNatClampNeg)]) (w' := px_w K s1 t) (q := [vp_in (a0 - (16 : Int32)) (K.2.2 34)]) 6 hM rfl (show vp_in (a0 - (16 : Int32)) (K.2.2 34) from hq73) ?_
                                        cases h
                                        exact px_E_ret hM rfl rfl rfl trivial
                                      · rw [if_neg hs72] at h
                                        refine px_E_step hM rfl rfl (px_tb_df (by omega) rfl) trivial ?_
                                        refine px_blk (i' := 133) (L' := [some (.ref 28), some (.int a0), some (.int (0 : Int32))]) (S' := [.int (-1 : Int32)]) (w' := px_w K s1 t) (q := []) 1 hM rfl trivial ?_
                                        cases h
                                        exact px_E_ret hM rfl rfl rfl trivial
  · rw [if_neg hc3] at h
    refine px_blkif (c := (s1.1 31) = 0) (t := 11) (e := 9) (L' := [some (.ref 28), some (.int a0), none]) (S' := []) (w' := px_w K s1 t) (q := []) 3 hM rfl trivial (fun hc74 => ?_) (fun hc74 => ?_)
    · rw [if_pos hc74] at h
      refine px_blk (i' := 14) (L' := [some (.ref 28), some (.int a0), some (.int (0 : Int32))]) (S' := [.int a0]) (w' := px_w K s1 t) (q := []) 3 hM rfl trivial ?_
      by_cases hs75 : a0.toInt = 0
      · rw [if_pos hs75] at h
        refine px_E_step hM rfl rfl (px_tb_at hs75 rfl) trivial ?_
        refine px_blkif (c := (s1.1 29) = 0) (t := 20) (e := 18) (L' := [some (.ref 28), some (.int a0), some (.int (0 : Int32))]) (S' := []) (w' := px_w K s1 t) (q := []) 3 hM rfl trivial (fun hc76 => ?_) (fun hc76 => ?_)
        · rw [if_pos hc76] at h
          refine px_blk (i' := 21) (L' := [some (.ref 28), some (.int a0), some (.int (0 : Int32))]) (S' := [.int (0 : Int32)]) (w' := px_w K s1 t) (q := []) 1 hM rfl trivial ?_
          cases h
          exact px_E_ret hM rfl rfl rfl trivial
        · rw [if_neg hc76] at h
          refine px_blk (i' := 21) (L' := [some (.ref 28), some (.int a0), some (.int (0 : Int32))]) (S' := [.int (1 : Int32)]) (w' := px_w K s1 t) (q := []) 2 hM rfl trivial ?_
          cases h
          exact px_E_ret hM rfl rfl rfl trivial
      · rw [if_neg hs75] at h
        by_cases hs77 : a0.toInt = 1
        · rw [if_pos hs77] at h
          refine px_E_step hM rfl rfl (px_tb_at hs77 rfl) trivial ?_
          refine px_blkif (c := (0 : Int32) = 0) (t := 26) (e := 24) (L' := [some (.ref 28), some (.int a0), some (.int (0 : Int32))]) (S' := []) (w' := px_w K s1 t) (q := []) 2 hM rfl trivial (fun hc78 => ?_) (fun hc78 => ?_)
          · rw [if_pos hc78] at h
            refine px_blk (i' := 27) (L' := [some (.ref 28), some (.int a0), some (.int (0 : Int32))]) (S' := [.int (0 : Int32)]) (w' := px_w K s1 t) (q := []) 1 hM rfl trivial ?_
            cases h
            exact px_E_ret hM rfl rfl rfl trivial
          · rw [if_neg hc78] at h
            refine px_blk (i' := 27) (L' := [some (.ref 28), some (.int a0), some (.int (0 : Int32))]) (S' := [.int (1 : Int32)]) (w' := px_w K s1 t) (q := []) 2 hM rfl trivial ?_
            cases h
            exact px_E_ret hM rfl rfl rfl trivial
        · rw [if_neg hs77] at h
          by_cases hs79 : a0.toInt = 2
          · rw [if_pos hs79] at h
            refine px_E_step hM rfl rfl (px_tb_at hs79 rfl) trivial ?_
            refine px_blk (i' := 29) (L' := [some (.ref 28), some (.int a0), some (.int (0 : Int32))]) (S' := [.ref 28]) (w' := px_w K s1 t) (q := []) 1 hM rfl trivial ?_
            rcases px_bi_some h with ⟨v83, s80, t81, hk82, h⟩ | ⟨x84, s80, t81, hk82, h⟩
            · refine px_E_call hM rfl rfl rfl rfl (px_E_mono (by decide) (e_M_landed_28 K N s1 t _ hk82)) ?_
              cases h
              exact px_E_ret hM rfl rfl rfl trivial
            · cases h
          · rw [if_neg hs79] at h
            by_cases hs85 : a0.toInt = 3
            · rw [if_pos hs85] at h
              refine px_E_step hM rfl rfl (px_tb_at hs85 rfl) trivial ?_
              refine px_blkif (c := (0 : Int32) = 0) (t := 36) (e := 33) (L' := [some (.ref 28), some (.int a0), some (.int (0 : Int32))]) (S' := []) (w' := px_w K s1 t) (q := []) 2 hM rfl trivial (fun hc86 => ?_) (fun hc86 => ?_)
              · rw [if_pos hc86] at h
                refine px_blk (i' := 37) (L' := [some (.ref 28), some (.int a0), some (.int (0 : Int32))]) (S' := [.int (-1 : Int32)]) (w' := px_w K s1 t) (q := []) 1 hM rfl trivial ?_
                cases h
                exact px_E_ret hM rfl rfl rfl trivial
              · rw [if_neg hc86] at h
                refine px_blk (i' := 37) (L' := [some (.ref 28), some (.int a0), some (.int (0 : Int32))]) (S' := [.int (s1.1 32)]) (w' := px_w K s1 t) (q := []) 3 hM rfl trivial ?_
                cases h
                exact px_E_ret hM rfl rfl rfl trivial
            · rw [if_neg hs85] at h
              by_cases hs87 : a0.toInt = 4
              · rw [if_pos hs87] at h
                refine px_E_step hM rfl rfl (px_tb_at hs87 rfl) trivial ?_
                refine px_blkif (c := (0 : Int32) = 0) (t := 48) (e := 40) (L' := [some (.ref 28), some (.int a0), some (.int (0 : Int32))]) (S' := []) (w' := px_w K s1 t) (q := []) 2 hM rfl trivial (fun hc88 => ?_) (fun hc88 => ?_)
                · rw [if_pos hc88] at h
                  refine px_blk (i' := 49) (L' := [some (.ref 28), some (.int a0), some (.int (0 : Int32))]) (S' := [.int (-1 : Int32)]) (w' := px_w K s1 t) (q := []) 1 hM rfl trivial ?_
                  cases h
                  exact px_E_ret hM rfl rfl rfl trivial
                · rw [if_neg hc88] at h
                  refine px_blk (i' := 45) (L' := [some (.ref 28), some (.int a0), some (.int (0 : Int32))]) (S' := [.ref 28, .int ((s1.1 32) - (1 : Int32))]) (w' := px_w K s1 t) (q := []) 5 hM rfl trivial ?_
                  rcases px_bi_some h with ⟨v92, s89, t90, hk91, h⟩ | ⟨x93, s89, t90, hk91, h⟩
                  · refine px_E_call hM rfl rfl rfl rfl (px_E_mono (by decide) (e_M_landed_28 K N s1 t _ hk91)) ?_
                    refine px_blk (i' := 49) (L' := [some (.ref 28), some (.int a0), some (.int (0 : Int32))]) (S' := [.int (((s1.1 32) - (1 : Int32)) - v92)]) (w' := px_w K s89 t90) (q := []) 2 hM rfl trivial ?_
                    cases h
                    exact px_E_ret hM rfl rfl rfl trivial
                  · cases h
              · rw [if_neg hs87] at h
                by_cases hs94 : a0.toInt = 5
                · rw [if_pos hs94] at h
                  refine px_E_step hM rfl rfl (px_tb_at hs94 rfl) trivial ?_
                  refine px_blkif (c := (0 : Int32) = 0) (t := 57) (e := 52) (L' := [some (.ref 28), some (.int a0), some (.int (0 : Int32))]) (S' := []) (w' := px_w K s1 t) (q := []) 2 hM rfl trivial (fun hc95 => ?_) (fun hc95 => ?_)
                  · rw [if_pos hc95] at h
                    refine px_blk (i' := 58) (L' := [some (.ref 28), some (.int a0), some (.int (0 : Int32))]) (S' := [.int (-1 : Int32)]) (w' := px_w K s1 t) (q := []) 1 hM rfl trivial ?_
                    cases h
                    exact px_E_ret hM rfl rfl rfl trivial
                  · rw [if_neg hc95] at h
                    refine px_blk (i' := 55) (L' := [some (.ref 28), some (.int a0), some (.int (0 : Int32))]) (S' := [.int (s1.1 32), .ref 28]) (w' := px_w K s1 t) (q := []) 3 hM rfl trivial ?_
                    rcases px_bi_some h with ⟨v99, s96, t97, hk98, h⟩ | ⟨x100, s96, t97, hk98, h⟩
                    · refine px_E_call hM rfl rfl rfl rfl (px_E_mono (by decide) (e_M_dirtyOf_28 K N (s1.1 32) s1 t _ hk98)) ?_
                      refine px_blk (i' := 58) (L' := [some (.ref 28), some (.int a0), some (.int (0 : Int32))]) (S' := [.int v99]) (w' := px_w K s96 t97) (q := []) 1 hM rfl trivial ?_
                      cases h
                      exact px_E_ret hM rfl rfl rfl trivial
                    · cases h
                · rw [if_neg hs94] at h
                  by_cases hs101 : a0.toInt = 6
                  · rw [if_pos hs101] at h
                    refine px_E_step hM rfl rfl (px_tb_at hs101 rfl) trivial ?_
                    refine px_blkif (c := (s1.1 29) = 0) (t := 65) (e := 62) (L' := [some (.ref 28), some (.int a0), some (.int (0 : Int32))]) (S' := []) (w' := px_w K s1 t) (q := []) 3 hM rfl trivial (fun hc102 => ?_) (fun hc102 => ?_)
                    · rw [if_pos hc102] at h
                      refine px_blk (i' := 66) (L' := [some (.ref 28), some (.int a0), some (.int (0 : Int32))]) (S' := [.int (-1 : Int32)]) (w' := px_w K s1 t) (q := []) 1 hM rfl trivial ?_
                      cases h
                      exact px_E_ret hM rfl rfl rfl trivial
                    · rw [if_neg hc102] at h
                      refine px_blk (i' := 66) (L' := [some (.ref 28), some (.int a0), some (.int (0 : Int32))]) (S' := [.int (s1.1 36)]) (w' := px_w K s1 t) (q := []) 3 hM rfl trivial ?_
                      cases h
                      exact px_E_ret hM rfl rfl rfl trivial
                  · rw [if_neg hs101] at h
                    by_cases hs103 : a0.toInt = 7
                    · rw [if_pos hs103] at h
                      refine px_E_step hM rfl rfl (px_tb_at hs103 rfl) trivial ?_
                      refine px_blkif (c := (s1.1 29) = 0) (t := 73) (e := 70) (L' := [some (.ref 28), some (.int a0), some (.int (0 : Int32))]) (S' := []) (w' := px_w K s1 t) (q := []) 3 hM rfl trivial (fun hc104 => ?_) (fun hc104 => ?_)
                      · rw [if_pos hc104] at h
                        refine px_blk (i' := 74) (L' := [some (.ref 28), some (.int a0), some (.int (0 : Int32))]) (S' := [.int (-1 : Int32)]) (w' := px_w K s1 t) (q := []) 1 hM rfl trivial ?_
                        cases h
                        exact px_E_ret hM rfl rfl rfl trivial
                      · rw [if_neg hc104] at h
                        refine px_blk (i' := 71) (L' := [some (.ref 28), some (.int a0), some (.int (0 : Int32))]) (S' := [.ref 28]) (w' := px_w K s1 t) (q := []) 1 hM rfl trivial ?_
                        rcases px_bi_some h with ⟨v108, s105, t106, hk107, h⟩ | ⟨x109, s105, t106, hk107, h⟩
                        · refine px_E_call hM rfl rfl rfl rfl (px_E_mono (by decide) (e_M_changes_28 K N s1 t _ hk107)) ?_
                          refine px_blk (i' := 74) (L' := [some (.ref 28), some (.int a0), some (.int (0 : Int32))]) (S' := [.int v108]) (w' := px_w K s105 t106) (q := []) 1 hM rfl trivial ?_
                          cases h
                          exact px_E_ret hM rfl rfl rfl trivial
                        · cases h
                    · rw [if_neg hs103] at h
                      by_cases hs110 : a0.toInt = 8
                      · rw [if_pos hs110] at h
                        refine px_E_step hM rfl rfl (px_tb_at hs110 rfl) trivial ?_
                        refine px_blkif (c := (s1.1 29) = 0) (t := 81) (e := 78) (L' := [some (.ref 28), some (.int a0), some (.int (0 : Int32))]) (S' := []) (w' := px_w K s1 t) (q := []) 3 hM rfl trivial (fun hc111 => ?_) (fun hc111 => ?_)
                        · rw [if_pos hc111] at h
                          refine px_blk (i' := 82) (L' := [some (.ref 28), some (.int a0), some (.int (0 : Int32))]) (S' := [.int (-1 : Int32)]) (w' := px_w K s1 t) (q := []) 1 hM rfl trivial ?_
                          cases h
                          exact px_E_ret hM rfl rfl rfl trivial
                        · rw [if_neg hc111] at h
                          refine px_blk (i' := 79) (L' := [some (.ref 28), some (.int a0), some (.int (0 : Int32))]) (S' := [.ref 28]) (w' := px_w K s1 t) (q := []) 1 hM rfl trivial ?_
                          rcases px_bi_some h with ⟨v115, s112, t113, hk114, h⟩ | ⟨x116, s112, t113, hk114, h⟩
                          · refine px_E_call hM rfl rfl rfl rfl (px_E_mono (by decide) (e_M_keeps_28 K N s1 t _ hk114)) ?_
                            refine px_blk (i' := 82) (L' := [some (.ref 28), some (.int a0), some (.int (0 : Int32))]) (S' := [.int v115]) (w' := px_w K s112 t113) (q := []) 1 hM rfl trivial ?_
                            cases h
                            exact px_E_ret hM rfl rfl rfl trivial
                          · cases h
                      · rw [if_neg hs110] at h
                        by_cases hs117 : a0.toInt = 9
                        · rw [if_pos hs117] at h
                          refine px_E_step hM rfl rfl (px_tb_at hs117 rfl) trivial ?_
                          refine px_blkif (c := (s1.1 29) = 0) (t := 91) (e := 86) (L' := [some (.ref 28), some (.int a0), some (.int (0 : Int32))]) (S' := []) (w' := px_w K s1 t) (q := []) 3 hM rfl trivial (fun hc118 => ?_) (fun hc118 => ?_)
                          · rw [if_pos hc118] at h
                            refine px_blk (i' := 92) (L' := [some (.ref 28), some (.int a0), some (.int (0 : Int32))]) (S' := [.int (-1 : Int32)]) (w' := px_w K s1 t) (q := []) 1 hM rfl trivial ?_
                            cases h
                            exact px_E_ret hM rfl rfl rfl trivial
                          · rw [if_neg hc118] at h
                            refine px_blk (i' := 92) (L' := [some (.ref 28), some (.int a0), some (.int (0 : Int32))]) (S' := [.int ((29 : Int32) - (s1.1 37))]) (w' := px_w K s1 t) (q := []) 5 hM rfl trivial ?_
                            cases h
                            exact px_E_ret hM rfl rfl rfl trivial
                        · rw [if_neg hs117] at h
                          by_cases hs119 : a0.toInt = 10
                          · rw [if_pos hs119] at h
                            refine px_E_step hM rfl rfl (px_tb_at hs119 rfl) trivial ?_
                            refine px_blkif (c := (s1.1 29) = 0) (t := 99) (e := 96) (L' := [some (.ref 28), some (.int a0), some (.int (0 : Int32))]) (S' := []) (w' := px_w K s1 t) (q := []) 3 hM rfl trivial (fun hc120 => ?_) (fun hc120 => ?_)
                            · rw [if_pos hc120] at h
                              refine px_blk (i' := 100) (L' := [some (.ref 28), some (.int a0), some (.int (0 : Int32))]) (S' := [.int (-1 : Int32)]) (w' := px_w K s1 t) (q := []) 1 hM rfl trivial ?_
                              cases h
                              exact px_E_ret hM rfl rfl rfl trivial
                            · rw [if_neg hc120] at h
                              refine px_blk (i' := 97) (L' := [some (.ref 28), some (.int a0), some (.int (0 : Int32))]) (S' := [.ref 28]) (w' := px_w K s1 t) (q := []) 1 hM rfl trivial ?_
                              rcases px_bi_some h with ⟨v124, s121, t122, hk123, h⟩ | ⟨x125, s121, t122, hk123, h⟩
                              · refine px_E_call hM rfl rfl rfl rfl (px_E_mono (by decide) (e_M_inodes_28 K N s1 t _ hk123)) ?_
                                refine px_blk (i' := 100) (L' := [some (.ref 28), some (.int a0), some (.int (0 : Int32))]) (S' := [.int v124]) (w' := px_w K s121 t122) (q := []) 1 hM rfl trivial ?_
                                cases h
                                exact px_E_ret hM rfl rfl rfl trivial
                              · cases h
                          · rw [if_neg hs119] at h
                            by_cases hs126 : a0.toInt = 11
                            · rw [if_pos hs126] at h
                              refine px_E_step hM rfl rfl (px_tb_at hs126 rfl) trivial ?_
                              refine px_blkif (c := (s1.1 29) = 0) (t := 109) (e := 104) (L' := [some (.ref 28), some (.int a0), some (.int (0 : Int32))]) (S' := []) (w' := px_w K s1 t) (q := []) 3 hM rfl trivial (fun hc127 => ?_) (fun hc127 => ?_)
                              · rw [if_pos hc127] at h
                                refine px_blk (i' := 110) (L' := [some (.ref 28), some (.int a0), some (.int (0 : Int32))]) (S' := [.int (-1 : Int32)]) (w' := px_w K s1 t) (q := []) 1 hM rfl trivial ?_
                                cases h
                                exact px_E_ret hM rfl rfl rfl trivial
                              · rw [if_neg hc127] at h
                                refine px_blk (i' := 106) (L' := [some (.ref 28), some (.int a0), some (.int (0 : Int32))]) (S' := [.ref 28, .int (64 : Int32)]) (w' := px_w K s1 t) (q := []) 2 hM rfl trivial ?_
                                rcases px_bi_some h with ⟨v131, s128, t129, hk130, h⟩ | ⟨x132, s128, t129, hk130, h⟩
                                · refine px_E_call hM rfl rfl rfl rfl (px_E_mono (by decide) (e_M_left_28 K N s1 t _ hk130)) ?_
                                  refine px_blk (i' := 110) (L' := [some (.ref 28), some (.int a0), some (.int (0 : Int32))]) (S' := [.int ((64 : Int32) - v131)]) (w' := px_w K s128 t129) (q := []) 2 hM rfl trivial ?_
                                  cases h
                                  exact px_E_ret hM rfl rfl rfl trivial
                                · cases h
                            · rw [if_neg hs126] at h
                              by_cases hs133 : a0.toInt = 12
                              · rw [if_pos hs133] at h
                                refine px_E_step hM rfl rfl (px_tb_at hs133 rfl) trivial ?_
                                obtain ⟨hq134, h⟩ := px_gd_some h
                                refine px_blk (i' := 117) (L' := [some (.ref 28), some (.int a0), some (.int (0 : Int32))]) (S' := [.int ((s1.2.2.1 30) (a0 - (12 : Int32)).toNatClampNeg)]) (w' := px_w K s1 t) (q := [vp_in (a0 - (12 : Int32)) (K.2.2 30)]) 6 hM rfl (show vp_in (a0 - (12 : Int32)) (K.2.2 30) from hq134) ?_
                                cases h
                                exact px_E_ret hM rfl rfl rfl trivial
                              · rw [if_neg hs133] at h
                                by_cases hs135 : a0.toInt = 13
                                · rw [if_pos hs135] at h
                                  refine px_E_step hM rfl rfl (px_tb_at hs135 rfl) trivial ?_
                                  obtain ⟨hq136, h⟩ := px_gd_some h
                                  refine px_blk (i' := 117) (L' := [some (.ref 28), some (.int a0), some (.int (0 : Int32))]) (S' := [.int ((s1.2.2.1 30) (a0 - (12 : Int32)).toNatClampNeg)]) (w' := px_w K s1 t) (q := [vp_in (a0 - (12 : Int32)) (K.2.2 30)]) 6 hM rfl (show vp_in (a0 - (12 : Int32)) (K.2.2 30) from hq136) ?_
                                  cases h
                                  exact px_E_ret hM rfl rfl rfl trivial
                                · rw [if_neg hs135] at h
                                  by_cases hs137 : a0.toInt = 14
                                  · rw [if_pos hs137] at h
                                    refine px_E_step hM rfl rfl (px_tb_at hs137 rfl) trivial ?_
                                    obtain ⟨hq138, h⟩ := px_gd_some h
                                    refine px_blk (i' := 124) (L' := [some (.ref 28), some (.int a0), some (.int (0 : Int32))]) (S' := [.int ((s1.2.2.1 33) (a0 - (14 : Int32)).toNatClampNeg)]) (w' := px_w K s1 t) (q := [vp_in (a0 - (14 : Int32)) (K.2.2 33)]) 6 hM rfl (show vp_in (a0 - (14 : Int32)) (K.2.2 33) from hq138) ?_
                                    cases h
                                    exact px_E_ret hM rfl rfl rfl trivial
                                  · rw [if_neg hs137] at h
                                    by_cases hs139 : a0.toInt = 15
                                    · rw [if_pos hs139] at h
                                      refine px_E_step hM rfl rfl (px_tb_at hs139 rfl) trivial ?_
                                      obtain ⟨hq140, h⟩ := px_gd_some h
                                      refine px_blk (i' := 124) (L' := [some (.ref 28), some (.int a0), some (.int (0 : Int32))]) (S' := [.int ((s1.2.2.1 33) (a0 - (14 : Int32)).toNatClampNeg)]) (w' := px_w K s1 t) (q := [vp_in (a0 - (14 : Int32)) (K.2.2 33)]) 6 hM rfl (show vp_in (a0 - (14 : Int32)) (K.2.2 33) from hq140) ?_
                                      cases h
                                      exact px_E_ret hM rfl rfl rfl trivial
                                    · rw [if_neg hs139] at h
                                      by_cases hs141 : a0.toInt = 16
                                      · rw [if_pos hs141] at h
                                        refine px_E_step hM rfl rfl (px_tb_at hs141 rfl) trivial ?_
                                        obtain ⟨hq142, h⟩ := px_gd_some h
                                        refine px_blk (i' := 131) (L' := [some (.ref 28), some (.int a0), some (.int (0 : Int32))]) (S' := [.int ((s1.2.2.1 34) (a0 - (16 : Int32)).toNatClampNeg)]) (w' := px_w K s1 t) (q := [vp_in (a0 - (16 : Int32)) (K.2.2 34)]) 6 hM rfl (show vp_in (a0 - (16 : Int32)) (K.2.2 34) from hq142) ?_
                                        cases h
                                        exact px_E_ret hM rfl rfl rfl trivial
                                      · rw [if_neg hs141] at h
                                        by_cases hs143 : a0.toInt = 17
                                        · rw [if_pos hs143] at h
                                          refine px_E_step hM rfl rfl (px_tb_at hs143 rfl) trivial ?_
                                          obtain ⟨hq144, h⟩ := px_gd_some h
                                          refine px_blk (i' := 131) (L' := [some (.ref 28), some (.int a0), some (.int (0 : Int32))]) (S' := [.int ((s1.2.2.1 34) (a0 - (16 : Int32)).toNatClampNeg)]) (w' := px_w K s1 t) (q := [vp_in (a0 - (16 : Int32)) (K.2.2 34)]) 6 hM rfl (show vp_in (a0 - (16 : Int32)) (K.2.2 34) from hq144) ?_
                                          cases h
                                          exact px_E_ret hM rfl rfl rfl trivial
                                        · rw [if_neg hs143] at h
                                          refine px_E_step hM rfl rfl (px_tb_df (by omega) rfl) trivial ?_
                                          refine px_blk (i' := 133) (L' := [some (.ref 28), some (.int a0), some (.int (0 : Int32))]) (S' := [.int (-1 : Int32)]) (w' := px_w K s1 t) (q := []) 1 hM rfl trivial ?_
                                          cases h
                                          exact px_E_ret hM rfl rfl rfl trivial
    · rw [if_neg hc74] at h
      refine px_blk (i' := 14) (L' := [some (.ref 28), some (.int a0), some (.int (1 : Int32))]) (S' := [.int a0]) (w' := px_w K s1 t) (q := []) 4 hM rfl trivial ?_
      by_cases hs145 : a0.toInt = 0
      · rw [if_pos hs145] at h
        refine px_E_step hM rfl rfl (px_tb_at hs145 rfl) trivial ?_
        refine px_blkif (c := (s1.1 29) = 0) (t := 20) (e := 18) (L' := [some (.ref 28), some (.int a0), some (.int (1 : Int32))]) (S' := []) (w' := px_w K s1 t) (q := []) 3 hM rfl trivial (fun hc146 => ?_) (fun hc146 => ?_)
        · rw [if_pos hc146] at h
          refine px_blk (i' := 21) (L' := [some (.ref 28), some (.int a0), some (.int (1 : Int32))]) (S' := [.int (0 : Int32)]) (w' := px_w K s1 t) (q := []) 1 hM rfl trivial ?_
          cases h
          exact px_E_ret hM rfl rfl rfl trivial
        · rw [if_neg hc146] at h
          refine px_blk (i' := 21) (L' := [some (.ref 28), some (.int a0), some (.int (1 : Int32))]) (S' := [.int (1 : Int32)]) (w' := px_w K s1 t) (q := []) 2 hM rfl trivial ?_
          cases h
          exact px_E_ret hM rfl rfl rfl trivial
      · rw [if_neg hs145] at h
        by_cases hs147 : a0.toInt = 1
        · rw [if_pos hs147] at h
          refine px_E_step hM rfl rfl (px_tb_at hs147 rfl) trivial ?_
          refine px_blkif (c := (1 : Int32) = 0) (t := 26) (e := 24) (L' := [some (.ref 28), some (.int a0), some (.int (1 : Int32))]) (S' := []) (w' := px_w K s1 t) (q := []) 2 hM rfl trivial (fun hc148 => ?_) (fun hc148 => ?_)
          · rw [if_pos hc148] at h
            refine px_blk (i' := 27) (L' := [some (.ref 28), some (.int a0), some (.int (1 : Int32))]) (S' := [.int (0 : Int32)]) (w' := px_w K s1 t) (q := []) 1 hM rfl trivial ?_
            cases h
            exact px_E_ret hM rfl rfl rfl trivial
          · rw [if_neg hc148] at h
            refine px_blk (i' := 27) (L' := [some (.ref 28), some (.int a0), some (.int (1 : Int32))]) (S' := [.int (1 : Int32)]) (w' := px_w K s1 t) (q := []) 2 hM rfl trivial ?_
            cases h
            exact px_E_ret hM rfl rfl rfl trivial
        · rw [if_neg hs147] at h
          by_cases hs149 : a0.toInt = 2
          · rw [if_pos hs149] at h
            refine px_E_step hM rfl rfl (px_tb_at hs149 rfl) trivial ?_
            refine px_blk (i' := 29) (L' := [some (.ref 28), some (.int a0), some (.int (1 : Int32))]) (S' := [.ref 28]) (w' := px_w K s1 t) (q := []) 1 hM rfl trivial ?_
            rcases px_bi_some h with ⟨v153, s150, t151, hk152, h⟩ | ⟨x154, s150, t151, hk152, h⟩
            · refine px_E_call hM rfl rfl rfl rfl (px_E_mono (by decide) (e_M_landed_28 K N s1 t _ hk152)) ?_
              cases h
              exact px_E_ret hM rfl rfl rfl trivial
            · cases h
          · rw [if_neg hs149] at h
            by_cases hs155 : a0.toInt = 3
            · rw [if_pos hs155] at h
              refine px_E_step hM rfl rfl (px_tb_at hs155 rfl) trivial ?_
              refine px_blkif (c := (1 : Int32) = 0) (t := 36) (e := 33) (L' := [some (.ref 28), some (.int a0), some (.int (1 : Int32))]) (S' := []) (w' := px_w K s1 t) (q := []) 2 hM rfl trivial (fun hc156 => ?_) (fun hc156 => ?_)
              · rw [if_pos hc156] at h
                refine px_blk (i' := 37) (L' := [some (.ref 28), some (.int a0), some (.int (1 : Int32))]) (S' := [.int (-1 : Int32)]) (w' := px_w K s1 t) (q := []) 1 hM rfl trivial ?_
                cases h
                exact px_E_ret hM rfl rfl rfl trivial
              · rw [if_neg hc156] at h
                refine px_blk (i' := 37) (L' := [some (.ref 28), some (.int a0), some (.int (1 : Int32))]) (S' := [.int (s1.1 32)]) (w' := px_w K s1 t) (q := []) 3 hM rfl trivial ?_
                cases h
                exact px_E_ret hM rfl rfl rfl trivial
            · rw [if_neg hs155] at h
              by_cases hs157 : a0.toInt = 4
              · rw [if_pos hs157] at h
                refine px_E_step hM rfl rfl (px_tb_at hs157 rfl) trivial ?_
                refine px_blkif (c := (1 : Int32) = 0) (t := 48) (e := 40) (L' := [some (.ref 28), some (.int a0), some (.int (1 : Int32))]) (S' := []) (w' := px_w K s1 t) (q := []) 2 hM rfl trivial (fun hc158 => ?_) (fun hc158 => ?_)
                · rw [if_pos hc158] at h
                  refine px_blk (i' := 49) (L' := [some (.ref 28), some (.int a0), some (.int (1 : Int32))]) (S' := [.int (-1 : Int32)]) (w' := px_w K s1 t) (q := []) 1 hM rfl trivial ?_
                  cases h
                  exact px_E_ret hM rfl rfl rfl trivial
                · rw [if_neg hc158] at h
                  refine px_blk (i' := 45) (L' := [some (.ref 28), some (.int a0), some (.int (1 : Int32))]) (S' := [.ref 28, .int ((s1.1 32) - (1 : Int32))]) (w' := px_w K s1 t) (q := []) 5 hM rfl trivial ?_
                  rcases px_bi_some h with ⟨v162, s159, t160, hk161, h⟩ | ⟨x163, s159, t160, hk161, h⟩
                  · refine px_E_call hM rfl rfl rfl rfl (px_E_mono (by decide) (e_M_landed_28 K N s1 t _ hk161)) ?_
                    refine px_blk (i' := 49) (L' := [some (.ref 28), some (.int a0), some (.int (1 : Int32))]) (S' := [.int (((s1.1 32) - (1 : Int32)) - v162)]) (w' := px_w K s159 t160) (q := []) 2 hM rfl trivial ?_
                    cases h
                    exact px_E_ret hM rfl rfl rfl trivial
                  · cases h
              · rw [if_neg hs157] at h
                by_cases hs164 : a0.toInt = 5
                · rw [if_pos hs164] at h
                  refine px_E_step hM rfl rfl (px_tb_at hs164 rfl) trivial ?_
                  refine px_blkif (c := (1 : Int32) = 0) (t := 57) (e := 52) (L' := [some (.ref 28), some (.int a0), some (.int (1 : Int32))]) (S' := []) (w' := px_w K s1 t) (q := []) 2 hM rfl trivial (fun hc165 => ?_) (fun hc165 => ?_)
                  · rw [if_pos hc165] at h
                    refine px_blk (i' := 58) (L' := [some (.ref 28), some (.int a0), some (.int (1 : Int32))]) (S' := [.int (-1 : Int32)]) (w' := px_w K s1 t) (q := []) 1 hM rfl trivial ?_
                    cases h
                    exact px_E_ret hM rfl rfl rfl trivial
                  · rw [if_neg hc165] at h
                    refine px_blk (i' := 55) (L' := [some (.ref 28), some (.int a0), some (.int (1 : Int32))]) (S' := [.int (s1.1 32), .ref 28]) (w' := px_w K s1 t) (q := []) 3 hM rfl trivial ?_
                    rcases px_bi_some h with ⟨v169, s166, t167, hk168, h⟩ | ⟨x170, s166, t167, hk168, h⟩
                    · refine px_E_call hM rfl rfl rfl rfl (px_E_mono (by decide) (e_M_dirtyOf_28 K N (s1.1 32) s1 t _ hk168)) ?_
                      refine px_blk (i' := 58) (L' := [some (.ref 28), some (.int a0), some (.int (1 : Int32))]) (S' := [.int v169]) (w' := px_w K s166 t167) (q := []) 1 hM rfl trivial ?_
                      cases h
                      exact px_E_ret hM rfl rfl rfl trivial
                    · cases h
                · rw [if_neg hs164] at h
                  by_cases hs171 : a0.toInt = 6
                  · rw [if_pos hs171] at h
                    refine px_E_step hM rfl rfl (px_tb_at hs171 rfl) trivial ?_
                    refine px_blkif (c := (s1.1 29) = 0) (t := 65) (e := 62) (L' := [some (.ref 28), some (.int a0), some (.int (1 : Int32))]) (S' := []) (w' := px_w K s1 t) (q := []) 3 hM rfl trivial (fun hc172 => ?_) (fun hc172 => ?_)
                    · rw [if_pos hc172] at h
                      refine px_blk (i' := 66) (L' := [some (.ref 28), some (.int a0), some (.int (1 : Int32))]) (S' := [.int (-1 : Int32)]) (w' := px_w K s1 t) (q := []) 1 hM rfl trivial ?_
                      cases h
                      exact px_E_ret hM rfl rfl rfl trivial
                    · rw [if_neg hc172] at h
                      refine px_blk (i' := 66) (L' := [some (.ref 28), some (.int a0), some (.int (1 : Int32))]) (S' := [.int (s1.1 36)]) (w' := px_w K s1 t) (q := []) 3 hM rfl trivial ?_
                      cases h
                      exact px_E_ret hM rfl rfl rfl trivial
                  · rw [if_neg hs171] at h
                    by_cases hs173 : a0.toInt = 7
                    · rw [if_pos hs173] at h
                      refine px_E_step hM rfl rfl (px_tb_at hs173 rfl) trivial ?_
                      refine px_blkif (c := (s1.1 29) = 0) (t := 73) (e := 70) (L' := [some (.ref 28), some (.int a0), some (.int (1 : Int32))]) (S' := []) (w' := px_w K s1 t) (q := []) 3 hM rfl trivial (fun hc174 => ?_) (fun hc174 => ?_)
                      · rw [if_pos hc174] at h
                        refine px_blk (i' := 74) (L' := [some (.ref 28), some (.int a0), some (.int (1 : Int32))]) (S' := [.int (-1 : Int32)]) (w' := px_w K s1 t) (q := []) 1 hM rfl trivial ?_
                        cases h
                        exact px_E_ret hM rfl rfl rfl trivial
                      · rw [if_neg hc174] at h
                        refine px_blk (i' := 71) (L' := [some (.ref 28), some (.int a0), some (.int (1 : Int32))]) (S' := [.ref 28]) (w' := px_w K s1 t) (q := []) 1 hM rfl trivial ?_
                        rcases px_bi_some h with ⟨v178, s175, t176, hk177, h⟩ | ⟨x179, s175, t176, hk177, h⟩
                        · refine px_E_call hM rfl rfl rfl rfl (px_E_mono (by decide) (e_M_changes_28 K N s1 t _ hk177)) ?_
                          refine px_blk (i' := 74) (L' := [some (.ref 28), some (.int a0), some (.int (1 : Int32))]) (S' := [.int v178]) (w' := px_w K s175 t176) (q := []) 1 hM rfl trivial ?_
                          cases h
                          exact px_E_ret hM rfl rfl rfl trivial
                        · cases h
                    · rw [if_neg hs173] at h
                      by_cases hs180 : a0.toInt = 8
                      · rw [if_pos hs180] at h
                        refine px_E_step hM rfl rfl (px_tb_at hs180 rfl) trivial ?_
                        refine px_blkif (c := (s1.1 29) = 0) (t := 81) (e := 78) (L' := [some (.ref 28), some (.int a0), some (.int (1 : Int32))]) (S' := []) (w' := px_w K s1 t) (q := []) 3 hM rfl trivial (fun hc181 => ?_) (fun hc181 => ?_)
                        · rw [if_pos hc181] at h
                          refine px_blk (i' := 82) (L' := [some (.ref 28), some (.int a0), some (.int (1 : Int32))]) (S' := [.int (-1 : Int32)]) (w' := px_w K s1 t) (q := []) 1 hM rfl trivial ?_
                          cases h
                          exact px_E_ret hM rfl rfl rfl trivial
                        · rw [if_neg hc181] at h
                          refine px_blk (i' := 79) (L' := [some (.ref 28), some (.int a0), some (.int (1 : Int32))]) (S' := [.ref 28]) (w' := px_w K s1 t) (q := []) 1 hM rfl trivial ?_
                          rcases px_bi_some h with ⟨v185, s182, t183, hk184, h⟩ | ⟨x186, s182, t183, hk184, h⟩
                          · refine px_E_call hM rfl rfl rfl rfl (px_E_mono (by decide) (e_M_keeps_28 K N s1 t _ hk184)) ?_
                            refine px_blk (i' := 82) (L' := [some (.ref 28), some (.int a0), some (.int (1 : Int32))]) (S' := [.int v185]) (w' := px_w K s182 t183) (q := []) 1 hM rfl trivial ?_
                            cases h
                            exact px_E_ret hM rfl rfl rfl trivial
                          · cases h
                      · rw [if_neg hs180] at h
                        by_cases hs187 : a0.toInt = 9
                        · rw [if_pos hs187] at h
                          refine px_E_step hM rfl rfl (px_tb_at hs187 rfl) trivial ?_
                          refine px_blkif (c := (s1.1 29) = 0) (t := 91) (e := 86) (L' := [some (.ref 28), some (.int a0), some (.int (1 : Int32))]) (S' := []) (w' := px_w K s1 t) (q := []) 3 hM rfl trivial (fun hc188 => ?_) (fun hc188 => ?_)
                          · rw [if_pos hc188] at h
                            refine px_blk (i' := 92) (L' := [some (.ref 28), some (.int a0), some (.int (1 : Int32))]) (S' := [.int (-1 : Int32)]) (w' := px_w K s1 t) (q := []) 1 hM rfl trivial ?_
                            cases h
                            exact px_E_ret hM rfl rfl rfl trivial
                          · rw [if_neg hc188] at h
                            refine px_blk (i' := 92) (L' := [some (.ref 28), some (.int a0), some (.int (1 : Int32))]) (S' := [.int ((29 : Int32) - (s1.1 37))]) (w' := px_w K s1 t) (q := []) 5 hM rfl trivial ?_
                            cases h
                            exact px_E_ret hM rfl rfl rfl trivial
                        · rw [if_neg hs187] at h
                          by_cases hs189 : a0.toInt = 10
                          · rw [if_pos hs189] at h
                            refine px_E_step hM rfl rfl (px_tb_at hs189 rfl) trivial ?_
                            refine px_blkif (c := (s1.1 29) = 0) (t := 99) (e := 96) (L' := [some (.ref 28), some (.int a0), some (.int (1 : Int32))]) (S' := []) (w' := px_w K s1 t) (q := []) 3 hM rfl trivial (fun hc190 => ?_) (fun hc190 => ?_)
                            · rw [if_pos hc190] at h
                              refine px_blk (i' := 100) (L' := [some (.ref 28), some (.int a0), some (.int (1 : Int32))]) (S' := [.int (-1 : Int32)]) (w' := px_w K s1 t) (q := []) 1 hM rfl trivial ?_
                              cases h
                              exact px_E_ret hM rfl rfl rfl trivial
                            · rw [if_neg hc190] at h
                              refine px_blk (i' := 97) (L' := [some (.ref 28), some (.int a0), some (.int (1 : Int32))]) (S' := [.ref 28]) (w' := px_w K s1 t) (q := []) 1 hM rfl trivial ?_
                              rcases px_bi_some h with ⟨v194, s191, t192, hk193, h⟩ | ⟨x195, s191, t192, hk193, h⟩
                              · refine px_E_call hM rfl rfl rfl rfl (px_E_mono (by decide) (e_M_inodes_28 K N s1 t _ hk193)) ?_
                                refine px_blk (i' := 100) (L' := [some (.ref 28), some (.int a0), some (.int (1 : Int32))]) (S' := [.int v194]) (w' := px_w K s191 t192) (q := []) 1 hM rfl trivial ?_
                                cases h
                                exact px_E_ret hM rfl rfl rfl trivial
                              · cases h
                          · rw [if_neg hs189] at h
                            by_cases hs196 : a0.toInt = 11
                            · rw [if_pos hs196] at h
                              refine px_E_step hM rfl rfl (px_tb_at hs196 rfl) trivial ?_
                              refine px_blkif (c := (s1.1 29) = 0) (t := 109) (e := 104) (L' := [some (.ref 28), some (.int a0), some (.int (1 : Int32))]) (S' := []) (w' := px_w K s1 t) (q := []) 3 hM rfl trivial (fun hc197 => ?_) (fun hc197 => ?_)
                              · rw [if_pos hc197] at h
                                refine px_blk (i' := 110) (L' := [some (.ref 28), some (.int a0), some (.int (1 : Int32))]) (S' := [.int (-1 : Int32)]) (w' := px_w K s1 t) (q := []) 1 hM rfl trivial ?_
                                cases h
                                exact px_E_ret hM rfl rfl rfl trivial
                              · rw [if_neg hc197] at h
                                refine px_blk (i' := 106) (L' := [some (.ref 28), some (.int a0), some (.int (1 : Int32))]) (S' := [.ref 28, .int (64 : Int32)]) (w' := px_w K s1 t) (q := []) 2 hM rfl trivial ?_
                                rcases px_bi_some h with ⟨v201, s198, t199, hk200, h⟩ | ⟨x202, s198, t199, hk200, h⟩
                                · refine px_E_call hM rfl rfl rfl rfl (px_E_mono (by decide) (e_M_left_28 K N s1 t _ hk200)) ?_
                                  refine px_blk (i' := 110) (L' := [some (.ref 28), some (.int a0), some (.int (1 : Int32))]) (S' := [.int ((64 : Int32) - v201)]) (w' := px_w K s198 t199) (q := []) 2 hM rfl trivial ?_
                                  cases h
                                  exact px_E_ret hM rfl rfl rfl trivial
                                · cases h
                            · rw [if_neg hs196] at h
                              by_cases hs203 : a0.toInt = 12
                              · rw [if_pos hs203] at h
                                refine px_E_step hM rfl rfl (px_tb_at hs203 rfl) trivial ?_
                                obtain ⟨hq204, h⟩ := px_gd_some h
                                refine px_blk (i' := 117) (L' := [some (.ref 28), some (.int a0), some (.int (1 : Int32))]) (S' := [.int ((s1.2.2.1 30) (a0 - (12 : Int32)).toNatClampNeg)]) (w' := px_w K s1 t) (q := [vp_in (a0 - (12 : Int32)) (K.2.2 30)]) 6 hM rfl (show vp_in (a0 - (12 : Int32)) (K.2.2 30) from hq204) ?_
                                cases h
                                exact px_E_ret hM rfl rfl rfl trivial
                              · rw [if_neg hs203] at h
                                by_cases hs205 : a0.toInt = 13
                                · rw [if_pos hs205] at h
                                  refine px_E_step hM rfl rfl (px_tb_at hs205 rfl) trivial ?_
                                  obtain ⟨hq206, h⟩ := px_gd_some h
                                  refine px_blk (i' := 117) (L' := [some (.ref 28), some (.int a0), some (.int (1 : Int32))]) (S' := [.int ((s1.2.2.1 30) (a0 - (12 : Int32)).toNatClampNeg)]) (w' := px_w K s1 t) (q := [vp_in (a0 - (12 : Int32)) (K.2.2 30)]) 6 hM rfl (show vp_in (a0 - (12 : Int32)) (K.2.2 30) from hq206) ?_
                                  cases h
                                  exact px_E_ret hM rfl rfl rfl trivial
                                · rw [if_neg hs205] at h
                                  by_cases hs207 : a0.toInt = 14
                                  · rw [if_pos hs207] at h
                                    refine px_E_step hM rfl rfl (px_tb_at hs207 rfl) trivial ?_
                                    obtain ⟨hq208, h⟩ := px_gd_some h
                                    refine px_blk (i' := 124) (L' := [some (.ref 28), some (.int a0), some (.int (1 : Int32))]) (S' := [.int ((s1.2.2.1 33) (a0 - (14 : Int32)).toNatClampNeg)]) (w' := px_w K s1 t) (q := [vp_in (a0 - (14 : Int32)) (K.2.2 33)]) 6 hM rfl (show vp_in (a0 - (14 : Int32)) (K.2.2 33) from hq208) ?_
                                    cases h
                                    exact px_E_ret hM rfl rfl rfl trivial
                                  · rw [if_neg hs207] at h
                                    by_cases hs209 : a0.toInt = 15
                                    · rw [if_pos hs209] at h
                                      refine px_E_step hM rfl rfl (px_tb_at hs209 rfl) trivial ?_
                                      obtain ⟨hq210, h⟩ := px_gd_some h
                                      refine px_blk (i' := 124) (L' := [some (.ref 28), some (.int a0), some (.int (1 : Int32))]) (S' := [.int ((s1.2.2.1 33) (a0 - (14 : Int32)).toNatClampNeg)]) (w' := px_w K s1 t) (q := [vp_in (a0 - (14 : Int32)) (K.2.2 33)]) 6 hM rfl (show vp_in (a0 - (14 : Int32)) (K.2.2 33) from hq210) ?_
                                      cases h
                                      exact px_E_ret hM rfl rfl rfl trivial
                                    · rw [if_neg hs209] at h
                                      by_cases hs211 : a0.toInt = 16
                                      · rw [if_pos hs211] at h
                                        refine px_E_step hM rfl rfl (px_tb_at hs211 rfl) trivial ?_
                                        obtain ⟨hq212, h⟩ := px_gd_some h
                                        refine px_blk (i' := 131) (L' := [some (.ref 28), some (.int a0), some (.int (1 : Int32))]) (S' := [.int ((s1.2.2.1 34) (a0 - (16 : Int32)).toNatClampNeg)]) (w' := px_w K s1 t) (q := [vp_in (a0 - (16 : Int32)) (K.2.2 34)]) 6 hM rfl (show vp_in (a0 - (16 : Int32)) (K.2.2 34) from hq212) ?_
                                        cases h
                                        exact px_E_ret hM rfl rfl rfl trivial
                                      · rw [if_neg hs211] at h
                                        by_cases hs213 : a0.toInt = 17
                                        · rw [if_pos hs213] at h
                                          refine px_E_step hM rfl rfl (px_tb_at hs213 rfl) trivial ?_
                                          obtain ⟨hq214, h⟩ := px_gd_some h
                                          refine px_blk (i' := 131) (L' := [some (.ref 28), some (.int a0), some (.int (1 : Int32))]) (S' := [.int ((s1.2.2.1 34) (a0 - (16 : Int32)).toNatClampNeg)]) (w' := px_w K s1 t) (q := [vp_in (a0 - (16 : Int32)) (K.2.2 34)]) 6 hM rfl (show vp_in (a0 - (16 : Int32)) (K.2.2 34) from hq214) ?_
                                          cases h
                                          exact px_E_ret hM rfl rfl rfl trivial
                                        · rw [if_neg hs213] at h
                                          refine px_E_step hM rfl rfl (px_tb_df (by omega) rfl) trivial ?_
                                          refine px_blk (i' := 133) (L' := [some (.ref 28), some (.int a0), some (.int (1 : Int32))]) (S' := [.int (-1 : Int32)]) (w' := px_w K s1 t) (q := []) 1 hM rfl trivial ?_
                                          cases h
                                          exact px_E_ret hM rfl rfl rfl trivial
