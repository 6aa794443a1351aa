/-! THE METHODS AS FUNCTIONS (by program). -/
noncomputable def l_M_isWithin_28_9 (K : px_K) (N : Nat) (rec : Int32 → Int32 → px_S → px_W → Option px_Res) (n : Nat) (u1 : Int32) (u2 : Int32) (m3 : Int32) (m4 : Int32) (s : px_S) (t : px_W) : Option px_LO := match n with
  | 0 => none
  | n + 1 => (px_bi (f_M_ofInode_28 K N u2 (1 : Int32) s t) (fun v4 s1 t2 => (if v4 ≤ m4 then (some (.inl (44, [m3], s1, t2))) else (if ¬ m3 = 0 then (some (.inl (44, [m3], s1, t2))) else (px_bi (f_M_nameAt_28 K N u2 m4 s1 t2) (fun v11 s8 t9 => (if v11 = 0 then (l_M_isWithin_28_9 K N rec n u1 u2 (0 : Int32) (m4 + (1 : Int32)) s8 t9) else (px_bi (f_M_inodeAt_28 K N u2 m4 s8 t9) (fun v17 s14 t15 => (px_bi (f_M_isKind_28 K N v17 (1 : Int32) s14 t15) (fun v22 s19 t20 => (if v22 = 0 then (l_M_isWithin_28_9 K N rec n u1 u2 (0 : Int32) (m4 + (1 : Int32)) s19 t20) else (px_bi (f_M_inodeAt_28 K N u2 m4 s19 t20) (fun v28 s25 t26 => (px_bi (rec u1 v28 s25 t26) (fun v33 s30 t31 => (px_let (if v33 = 0 then (0 : Int32) else (1 : Int32)) (fun v35 => (l_M_isWithin_28_9 K N rec n u1 u2 v35 (m4 + (1 : Int32)) s30 t31)))) (fun x34 s30 t31 => none))) (fun x29 s25 t26 => none)))) (fun x23 s19 t20 => none))) (fun x18 s14 t15 => none)))) (fun x12 s8 t9 => none))))) (fun x5 s1 t2 => none))
def a_l_M_isWithin_28_9 (K : px_K) (d : Nat) (u1 : Int32) (u2 : Int32) (z : px_LO) (o : Option Value ⊕ Nat) (w2 : px_W) : Prop := match z with
  | .inr (o', s', t') => o = o' ∧ w2 = px_w K s' t'
  | .inl (44, [y3], s', t') => px_E px_ET px_P (d + 7) 83 44 [none, none, none, some (.int y3), none] [] (px_w K s' t') o w2
  | _ => False
set_option maxRecDepth 100000 in
theorem e_l_M_isWithin_28_9 (K : px_K) (N : Nat) (rec : Int32 → Int32 → px_S → px_W → Option px_Res) (d : Nat) (hrec : ∀ (a b : Int32) (s : px_S) (t : px_W) (r : px_Res), rec a b s t = some r → px_E px_ET px_P (d + 6) 83 0 (px_ent 5 [.ref 28, .int a, .int b]) [] (px_w K s t) r.1 (px_w K r.2.1 r.2.2)) (u1 : Int32) (u2 : Int32) : ∀ (n : Nat) (m3 : Int32) (m4 : Int32) (s : px_S) (t : px_W) (z : px_LO), l_M_isWithin_28_9 K N rec n u1 u2 m3 m4 s t = some z → ∀ (o : Option Value ⊕ Nat) (w2 : px_W), a_l_M_isWithin_28_9 K d u1 u2 z o w2 → px_E px_ET px_P (d + 7) 83 9 [some (.ref 28), some (.int u1), some (.int u2), some (.int m3), some (.int m4)] [] (px_w K s t) o w2 := by
  have hM : px_P[83]? = some pm_M_isWithin := rfl
  intro n
  induction n with
  | zero => intro m3 m4 s t z h; cases h
  | succ n ih =>
    intro m3 m4 s t z h o w2 ha
    unfold l_M_isWithin_28_9 at h
    refine px_blk (i' := 13) (L' := [some (.ref 28), some (.int u1), some (.int u2), some (.int m3), some (.int m4)]) (S' := [.int (1 : Int32), .int u2, .ref 28, .int m4]) (w' := px_w K s t) (q := []) 4 hM rfl trivial ?_
    rcases px_bi_some h with ⟨v4, s1, t2, hk3, h⟩ | ⟨x5, s1, t2, hk3, h⟩
    · refine px_E_call hM rfl rfl rfl rfl (px_E_mono (by omega) (e_M_ofInode_28 K N u2 (1 : Int32) s t _ hk3)) ?_
      refine px_blkif (c := v4 ≤ m4) (t := 44) (e := 15) (L' := [some (.ref 28), some (.int u1), some (.int u2), some (.int m3), some (.int m4)]) (S' := []) (w' := px_w K s1 t2) (q := []) 1 hM rfl trivial (fun hc6 => ?_) (fun hc6 => ?_)
      · rw [if_pos hc6] at h
        cases h
        exact px_E_le (px_leC_L _ _ (by simp [px_leC, px_le1, Value.category])) ha
      · rw [if_neg hc6] at h
        refine px_blkif (c := ¬ m3 = 0) (t := 44) (e := 17) (L' := [some (.ref 28), some (.int u1), some (.int u2), some (.int m3), some (.int m4)]) (S' := []) (w' := px_w K s1 t2) (q := []) 2 hM rfl trivial (fun hc7 => ?_) (fun hc7 => ?_)
        · rw [if_pos hc7] at h
          cases h
          exact px_E_le (px_leC_L _ _ (by simp [px_leC, px_le1, Value.category])) ha
        · rw [if_neg hc7] at h
          refine px_blk (i' := 20) (L' := [some (.ref 28), some (.int u1), some (.int u2), some (.int m3), some (.int m4)]) (S' := [.int m4, .int u2, .ref 28]) (w' := px_w K s1 t2) (q := []) 3 hM rfl trivial ?_
          rcases px_bi_some h with ⟨v11, s8, t9, hk10, h⟩ | ⟨x12, s8, t9, hk10, h⟩
          · refine px_E_call hM rfl rfl rfl rfl (px_E_mono (by omega) (e_M_nameAt_28 K N u2 m4 s1 t2 _ hk10)) ?_
            refine px_blkif (c := v11 = 0) (t := 40) (e := 22) (L' := [some (.ref 28), some (.int u1), some (.int u2), some (.int m3), some (.int m4)]) (S' := []) (w' := px_w K s8 t9) (q := []) 1 hM rfl trivial (fun hc13 => ?_) (fun hc13 => ?_)
            · rw [if_pos hc13] at h
              refine px_blk (i' := 9) (L' := [some (.ref 28), some (.int u1), some (.int u2), some (.int (0 : Int32)), some (.int (m4 + (1 : Int32)))]) (S' := []) (w' := px_w K s8 t9) (q := []) 4 hM rfl trivial ?_
              exact ih (0 : Int32) (m4 + (1 : Int32)) s8 t9 z h o w2 ha
            · rw [if_neg hc13] at h
              refine px_blk (i' := 26) (L' := [some (.ref 28), some (.int u1), some (.int u2), some (.int m3), some (.int m4)]) (S' := [.int m4, .int u2, .ref 28, .ref 28]) (w' := px_w K s8 t9) (q := []) 4 hM rfl trivial ?_
              rcases px_bi_some h with ⟨v17, s14, t15, hk16, h⟩ | ⟨x18, s14, t15, hk16, h⟩
              · refine px_E_call hM rfl rfl rfl rfl (px_E_mono (by omega) (e_M_inodeAt_28 K N u2 m4 s8 t9 _ hk16)) ?_
                refine px_blk (i' := 28) (L' := [some (.ref 28), some (.int u1), some (.int u2), some (.int m3), some (.int m4)]) (S' := [.int (1 : Int32), .int v17, .ref 28]) (w' := px_w K s14 t15) (q := []) 1 hM rfl trivial ?_
                rcases px_bi_some h with ⟨v22, s19, t20, hk21, h⟩ | ⟨x23, s19, t20, hk21, h⟩
                · refine px_E_call hM rfl rfl rfl rfl (px_E_mono (by omega) (e_M_isKind_28 K N v17 (1 : Int32) s14 t15 _ hk21)) ?_
                  refine px_blkif (c := v22 = 0) (t := 40) (e := 30) (L' := [some (.ref 28), some (.int u1), some (.int u2), some (.int m3), some (.int m4)]) (S' := []) (w' := px_w K s19 t20) (q := []) 1 hM rfl trivial (fun hc24 => ?_) (fun hc24 => ?_)
                  · rw [if_pos hc24] at h
                    refine px_blk (i' := 9) (L' := [some (.ref 28), some (.int u1), some (.int u2), some (.int (0 : Int32)), some (.int (m4 + (1 : Int32)))]) (S' := []) (w' := px_w K s19 t20) (q := []) 4 hM rfl trivial ?_
                    exact ih (0 : Int32) (m4 + (1 : Int32)) s19 t20 z h o w2 ha
                  · rw [if_neg hc24] at h
                    refine px_blk (i' := 35) (L' := [some (.ref 28), some (.int u1), some (.int u2), some (.int m3), some (.int m4)]) (S' := [.int m4, .int u2, .ref 28, .int u1, .ref 28]) (w' := px_w K s19 t20) (q := []) 5 hM rfl trivial ?_
                    rcases px_bi_some h with ⟨v28, s25, t26, hk27, h⟩ | ⟨x29, s25, t26, hk27, h⟩
                    · refine px_E_call hM rfl rfl rfl rfl (px_E_mono (by omega) (e_M_inodeAt_28 K N u2 m4 s19 t20 _ hk27)) ?_
                      rcases px_bi_some h with ⟨v33, s30, t31, hk32, h⟩ | ⟨x34, s30, t31, hk32, h⟩
                      · refine px_E_call hM rfl rfl rfl rfl (px_E_mono (by omega) (hrec u1 v28 s25 t26 _ hk32)) ?_
                        have hK : px_E px_ET px_P (d + 7) 83 41 [some (.ref 28), some (.int u1), some (.int u2), some (.int m3), some (.int m4)] [.int (if v33 = 0 then (0 : Int32) else (1 : Int32))] (px_w K s30 t31) o w2 := by
                          refine px_blk (i' := 42) (L' := [some (.ref 28), some (.int u1), some (.int u2), some (.int (if v33 = 0 then (0 : Int32) else (1 : Int32))), some (.int m4)]) (S' := []) (w' := px_w K s30 t31) (q := []) 1 hM rfl trivial ?_
                          obtain ⟨v35, hv36, h⟩ := px_let_some h
                          rw [← hv36]
                          refine px_blk (i' := 9) (L' := [some (.ref 28), some (.int u1), some (.int u2), some (.int v35), some (.int (m4 + (1 : Int32)))]) (S' := []) (w' := px_w K s30 t31) (q := []) 2 hM rfl trivial ?_
                          exact ih v35 (m4 + (1 : Int32)) s30 t31 z h o w2 ha
                        clear h
                        refine px_blkif (c := v33 = 0) (t := 40) (e := 38) (L' := [some (.ref 28), some (.int u1), some (.int u2), some (.int m3), some (.int m4)]) (S' := []) (w' := px_w K s30 t31) (q := []) 1 hM rfl trivial (fun hc37 => ?_) (fun hc37 => ?_)
                        · rw [if_pos hc37] at hK
                          exact px_blk (i' := 41) (L' := [some (.ref 28), some (.int u1), some (.int u2), some (.int m3), some (.int m4)]) (S' := [.int (0 : Int32)]) (w' := px_w K s30 t31) (q := []) 1 hM rfl trivial hK
                        · rw [if_neg hc37] at hK
                          exact px_blk (i' := 41) (L' := [some (.ref 28), some (.int u1), some (.int u2), some (.int m3), some (.int m4)]) (S' := [.int (1 : Int32)]) (w' := px_w K s30 t31) (q := []) 2 hM rfl trivial hK
                      · cases h
                    · cases h
                · cases h
              · cases h
          · cases h
    · cases h
noncomputable def b_M_isWithin_28 (K : px_K) (N : Nat) (rec : Int32 → Int32 → px_S → px_W → Option px_Res) (a0 : Int32) (a1 : Int32) (s : px_S) (t : px_W) : Option px_Res :=
  (if ¬ a0 = a1 then (px_lp (l_M_isWithin_28_9 K N rec N a0 a1 (0 : Int32) (0 : Int32) s t) (fun i2 vs3 s4 t5 => (if i2 = 44 then (px_v1 vs3 (fun y8 => (px_gd (y8 = 0 ∨ y8 = 1) (some (.inl (some (.int y8)), s4, t5))))) else none)) (fun z7 => some z7)) else (some (.inl (some (.int (1 : Int32))), s, t)))
set_option maxRecDepth 100000 in
theorem eb_M_isWithin_28 (K : px_K) (N : Nat) (rec : Int32 → Int32 → px_S → px_W → Option px_Res) (d : Nat) (hrec : ∀ (a b : Int32) (s : px_S) (t : px_W) (r : px_Res), rec a b s t = some r → px_E px_ET px_P (d + 6) 83 0 (px_ent 5 [.ref 28, .int a, .int b]) [] (px_w K s t) r.1 (px_w K r.2.1 r.2.2)) (a0 : Int32) (a1 : Int32) (s : px_S) (t : px_W) (r : px_Res) (h : b_M_isWithin_28 K N rec a0 a1 s t = some r) : px_E px_ET px_P (d + 7) 83 0 (px_ent 5 [.ref 28, .int a0, .int a1]) [] (px_w K s t) r.1 (px_w K r.2.1 r.2.2) := by
  have hM : px_P[83]? = some pm_M_isWithin := rfl
  unfold b_M_isWithin_28 at h
  refine px_blkif (c := ¬ a0 = a1) (t := 5) (e := 3) (L' := [some (.ref 28), some (.int a0), some (.int a1), none, none]) (S' := []) (w' := px_w K s t) (q := []) 3 hM rfl trivial (fun hc1 => ?_) (fun hc1 => ?_)
  · rw [if_pos hc1] at h
    refine px_blk (i' := 9) (L' := [some (.ref 28), some (.int a0), some (.int a1), some (.int (0 : Int32)), some (.int (0 : Int32))]) (S' := []) (w' := px_w K s t) (q := []) 4 hM rfl trivial ?_
    rcases px_lp_some h with ⟨i2, vs3, s4, t5, hl6, h⟩ | ⟨z7, hl6, h⟩
    · by_cases hi9 : i2 = 44
      · subst hi9
        rw [if_pos rfl] at h
        have h9 := px_v1_some h
        clear h
        obtain ⟨y8, rfl, h⟩ := h9
        refine e_l_M_isWithin_28_9 K N rec d hrec a0 a1 N (0 : Int32) (0 : Int32) s t _ hl6 _ _ ?_
        show px_E px_ET px_P (d + 7) 83 44 [none, none, none, some (.int y8), none] [] (px_w K s4 t5) _ _
        refine px_blk (i' := 45) (L' := [none, none, none, some (.int y8), none]) (S' := [.int y8]) (w' := px_w K s4 t5) (q := []) 1 hM rfl trivial ?_
        obtain ⟨hq10, h⟩ := px_gd_some h
        cases h
        exact px_E_ret hM rfl rfl rfl (show y8 = 0 ∨ y8 = 1 from hq10)
      · rw [if_neg hi9] at h
        cases h
    · cases h
      exact e_l_M_isWithin_28_9 K N rec d hrec a0 a1 N (0 : Int32) (0 : Int32) s t _ hl6 _ _ ⟨rfl, rfl⟩
  · rw [if_neg hc1] at h
    refine px_blk (i' := 4) (L' := [some (.ref 28), some (.int a0), some (.int a1), none, none]) (S' := [.int (1 : Int32)]) (w' := px_w K s t) (q := []) 1 hM rfl trivial ?_
    cases h
    exact px_E_ret hM rfl rfl rfl (show (1 : Int32) = 0 ∨ (1 : Int32) = 1 from Or.inr rfl)
noncomputable def g_M_isWithin_28 (K : px_K) (N : Nat) : Nat → Int32 → Int32 → px_S → px_W → Option px_Res
  | 0, _, _, _, _ => none
  | m + 1, a0, a1, s, t => b_M_isWithin_28 K N (g_M_isWithin_28 K N m) a0 a1 s t
theorem eg_M_isWithin_28 (K : px_K) (N : Nat) : ∀ (m : Nat) (a0 a1 : Int32) (s : px_S) (t : px_W) (r : px_Res), g_M_isWithin_28 K N m a0 a1 s t = some r → px_E px_ET px_P (m + 6) 83 0 (px_ent 5 [.ref 28, .int a0, .int a1]) [] (px_w K s t) r.1 (px_w K r.2.1 r.2.2) := by
  intro m
  induction m with
  | zero => intro a0 a1 s t r h; cases h
  | succ m ih =>
    intro a0 a1 s t r h
    have e := eb_M_isWithin_28 K N (g_M_isWithin_28 K N m) m ih a0 a1 s t r h
    rw [show m + 1 + 6 = m + 7 by omega]
    exact e
noncomputable def f_M_isWithin_28 (K : px_K) (N : Nat) (a0 a1 : Int32) (s : px_S) (t : px_W) : Option px_Res := g_M_isWithin_28 K N 30 a0 a1 s t
theorem e_M_isWithin_28 (K : px_K) (N : Nat) (a0 a1 : Int32) (s : px_S) (t : px_W) (r : px_Res) (h : f_M_isWithin_28 K N a0 a1 s t = some r) : px_E px_ET px_P 36 83 0 (px_ent 5 [.ref 28, .int a0, .int a1]) [] (px_w K s t) r.1 (px_w K r.2.1 r.2.2) := eg_M_isWithin_28 K N 30 a0 a1 s t r h
noncomputable def f_M_move_28 (K : px_K) (N : Nat) (a0 : Int32) (a1 : Int32) (a2 : Int32) (a3 : Int32) (s : px_S) (t : px_W) : Option px_Res :=
  (px_let (sR s 25 (0 : Int32)) (fun s1 => (px_bi (f_M_begins_28 K N s1 t) (fun v6 s3 t4 => (if ¬ v6 = 0 then (px_bi (f_M_isKind_28 K N a0 (1 : Int32) s3 t4) (fun v12 s9 t10 => (if v12 = 0 then (some (.inl (some (.int (-4 : Int32))), s9, t10)) else (px_bi (f_M_isKind_28 K N a2 (1 : Int32) s9 t10) (fun v18 s15 t16 => (if v18 = 0 then (some (.inl (some (.int (-4 : Int32))), s15, t16)) else (if (1 : Int32) ≤ a3 then (px_bi (f_M_placeOf_28 K N a0 a1 s15 t16) (fun v25 s22 t23 => (if 0 ≤ v25 then (px_bi (f_M_placeOf_28 K N a2 a3 s22 t23) (fun v31 s28 t29 => (if v31 < 0 then (px_bi (f_M_inodeAt_28 K N a0 v25 s28 t29) (fun v37 s34 t35 => (px_bi (f_M_isKind_28 K N v37 (1 : Int32) s34 t35) (fun v42 s39 t40 => (if v42 = 0 then (px_bi (f_M_hasRoom_28 K N a2 s39 t40) (fun v48 s45 t46 => (if ¬ v48 = 0 then (px_bv (f_M_enter_28 K N a2 a3 v37 s45 t46) (fun s51 t52 => (px_bv (f_M_leave_28 K N a0 v25 s51 t52) (fun s56 t57 => (some (.inl (some (.int (0 : Int32))), s56, t57))) (fun x60 s56 t57 => none))) (fun x55 s51 t52 => none)) else (some (.inl (some (.int (-3 : Int32))), s45, t46)))) (fun x49 s45 t46 => none)) else (px_bi (f_M_isWithin_28 K N a2 v37 s39 t40) (fun v64 s61 t62 => (if v64 = 0 then (px_bi (f_M_hasRoom_28 K N a2 s61 t62) (fun v70 s67 t68 => (if ¬ v70 = 0 then (px_bv (f_M_enter_28 K N a2 a3 v37 s67 t68) (fun s73 t74 => (px_bv (f_M_leave_28 K N a0 v25 s73 t74) (fun s78 t79 => (some (.inl (some (.int (0 : Int32))), s78, t79))) (fun x82 s78 t79 => none))) (fun x77 s73 t74 => none)) else (some (.inl (some (.int (-3 : Int32))), s67, t68)))) (fun x71 s67 t68 => none)) else (some (.inl (some (.int (-4 : Int32))), s61, t62)))) (fun x65 s61 t62 => none)))) (fun x43 s39 t40 => none))) (fun x38 s34 t35 => none)) else (some (.inl (some (.int (-2 : Int32))), s28, t29)))) (fun x32 s28 t29 => none)) else (some (.inl (some (.int (-1 : Int32))), s22, t23)))) (fun x26 s22 t23 => none)) else (some (.inl (some (.int (-4 : Int32))), s15, t16))))) (fun x19 s15 t16 => none)))) (fun x13 s9 t10 => none)) else (some (.inl (some (.int (-9 : Int32))), s3, t4)))) (fun x7 s3 t4 => none))))
set_option maxRecDepth 100000 in
theorem e_M_move_28 (K : px_K) (N : Nat) (a0 : Int32) (a1 : Int32) (a2 : Int32) (a3 : Int32) (s : px_S) (t : px_W) (r : px_Res) (h : f_M_move_28 K N a0 a1 a2 a3 s t = some r) : px_E px_ET px_P 37 84 0 (px_ent 7 [.ref 28, .int a0, .int a1, .int a2, .int a3]) [] (px_w K s t) r.1 (px_w K r.2.1 r.2.2) := by
  have hM : px_P[84]? = some pm_M_move := rfl
  unfold f_M_move_28 at h
  refine px_blk (i' := 3) (L' := [some (.ref 28), some (.int a0), some (.int a1), some (.int a2), some (.int a3), none, none]) (S' := []) (w' := px_w K (sR s 25 (0 : Int32)) t) (q := []) 3 hM rfl trivial ?_
  obtain ⟨s1, hs2, h⟩ := px_let_some h
  rw [← hs2]
  refine px_blk (i' := 4) (L' := [some (.ref 28), some (.int a0), some (.int a1), some (.int a2), some (.int a3), none, none]) (S' := [.ref 28]) (w' := px_w K s1 t) (q := []) 1 hM rfl trivial ?_
  rcases px_bi_some h with ⟨v6, s3, t4, hk5, h⟩ | ⟨x7, s3, t4, hk5, h⟩
  · refine px_E_call hM rfl rfl rfl rfl (px_E_mono (by decide) (e_M_begins_28 K N s1 t _ hk5)) ?_
    refine px_blkif (c := ¬ v6 = 0) (t := 8) (e := 6) (L' := [some (.ref 28), some (.int a0), some (.int a1), some (.int a2), some (.int a3), none, none]) (S' := []) (w' := px_w K s3 t4) (q := []) 1 hM rfl trivial (fun hc8 => ?_) (fun hc8 => ?_)
    · rw [if_pos hc8] at h
      refine px_blk (i' := 11) (L' := [some (.ref 28), some (.int a0), some (.int a1), some (.int a2), some (.int a3), none, none]) (S' := [.int (1 : Int32), .int a0, .ref 28]) (w' := px_w K s3 t4) (q := []) 3 hM rfl trivial ?_
      rcases px_bi_some h with ⟨v12, s9, t10, hk11, h⟩ | ⟨x13, s9, t10, hk11, h⟩
      · refine px_E_call hM rfl rfl rfl rfl (px_E_mono (by decide) (e_M_isKind_28 K N a0 (1 : Int32) s3 t4 _ hk11)) ?_
        refine px_blkif (c := v12 = 0) (t := 21) (e := 13) (L' := [some (.ref 28), some (.int a0), some (.int a1), some (.int a2), some (.int a3), none, none]) (S' := []) (w' := px_w K s9 t10) (q := []) 1 hM rfl trivial (fun hc14 => ?_) (fun hc14 => ?_)
        · rw [if_pos hc14] at h
          refine px_blk (i' := 22) (L' := [some (.ref 28), some (.int a0), some (.int a1), some (.int a2), some (.int a3), none, none]) (S' := [.int (-4 : Int32)]) (w' := px_w K s9 t10) (q := []) 1 hM rfl trivial ?_
          cases h
          exact px_E_ret hM rfl rfl rfl trivial
        · rw [if_neg hc14] at h
          refine px_blk (i' := 16) (L' := [some (.ref 28), some (.int a0), some (.int a1), some (.int a2), some (.int a3), none, none]) (S' := [.int (1 : Int32), .int a2, .ref 28]) (w' := px_w K s9 t10) (q := []) 3 hM rfl trivial ?_
          rcases px_bi_some h with ⟨v18, s15, t16, hk17, h⟩ | ⟨x19, s15, t16, hk17, h⟩
          · refine px_E_call hM rfl rfl rfl rfl (px_E_mono (by decide) (e_M_isKind_28 K N a2 (1 : Int32) s9 t10 _ hk17)) ?_
            refine px_blkif (c := v18 = 0) (t := 21) (e := 18) (L' := [some (.ref 28), some (.int a0), some (.int a1), some (.int a2), some (.int a3), none, none]) (S' := []) (w' := px_w K s15 t16) (q := []) 1 hM rfl trivial (fun hc20 => ?_) (fun hc20 => ?_)
            · rw [if_pos hc20] at h
              refine px_blk (i' := 22) (L' := [some (.ref 28), some (.int a0), some (.int a1), some (.int a2), some (.int a3), none, none]) (S' := [.int (-4 : Int32)]) (w' := px_w K s15 t16) (q := []) 1 hM rfl trivial ?_
              cases h
              exact px_E_ret hM rfl rfl rfl trivial
            · rw [if_neg hc20] at h
              refine px_blkif (c := (1 : Int32) ≤ a3) (t := 23) (e := 21) (L' := [some (.ref 28), some (.int a0), some (.int a1), some (.int a2), some (.int a3), none, none]) (S' := []) (w' := px_w K s15 t16) (q := []) 3 hM rfl trivial (fun hc21 => ?_) (fun hc21 => ?_)
              · rw [if_pos hc21] at h
                refine px_blk (i' := 26) (L' := [some (.ref 28), some (.int a0), some (.int a1), some (.int a2), some (.int a3), none, none]) (S' := [.int a1, .int a0, .ref 28]) (w' := px_w K s15 t16) (q := []) 3 hM rfl trivial ?_
                rcases px_bi_some h with ⟨v25, s22, t23, hk24, h⟩ | ⟨x26, s22, t23, hk24, h⟩
                · refine px_E_call hM rfl rfl rfl rfl (px_E_mono (by decide) (e_M_placeOf_28 K N a0 a1 s15 t16 _ hk24)) ?_
                  refine px_blkif (c := 0 ≤ v25) (t := 32) (e := 30) (L' := [some (.ref 28), some (.int a0), some (.int a1), some (.int a2), some (.int a3), some (.int v25), none]) (S' := []) (w' := px_w K s22 t23) (q := []) 3 hM rfl trivial (fun hc27 => ?_) (fun hc27 => ?_)
                  · rw [if_pos hc27] at h
                    refine px_blk (i' := 35) (L' := [some (.ref 28), some (.int a0), some (.int a1), some (.int a2), some (.int a3), some (.int v25), none]) (S' := [.int a3, .int a2, .ref 28]) (w' := px_w K s22 t23) (q := []) 3 hM rfl trivial ?_
                    rcases px_bi_some h with ⟨v31, s28, t29, hk30, h⟩ | ⟨x32, s28, t29, hk30, h⟩
                    · refine px_E_call hM rfl rfl rfl rfl (px_E_mono (by decide) (e_M_placeOf_28 K N a2 a3 s22 t23 _ hk30)) ?_
                      refine px_blkif (c := v31 < 0) (t := 39) (e := 37) (L' := [some (.ref 28), some (.int a0), some (.int a1), some (.int a2), some (.int a3), some (.int v25), none]) (S' := []) (w' := px_w K s28 t29) (q := []) 1 hM rfl trivial (fun hc33 => ?_) (fun hc33 => ?_)
                      · rw [if_pos hc33] at h
                        refine px_blk (i' := 42) (L' := [some (.ref 28), some (.int a0), some (.int a1), some (.int a2), some (.int a3), some (.int v25), none]) (S' := [.int v25, .int a0, .ref 28]) (w' := px_w K s28 t29) (q := []) 3 hM rfl trivial ?_
                        rcases px_bi_some h with ⟨v37, s34, t35, hk36, h⟩ | ⟨x38, s34, t35, hk36, h⟩
                        · refine px_E_call hM rfl rfl rfl rfl (px_E_mono (by decide) (e_M_inodeAt_28 K N a0 v25 s28 t29 _ hk36)) ?_
                          refine px_blk (i' := 47) (L' := [some (.ref 28), some (.int a0), some (.int a1), some (.int a2), some (.int a3), some (.int v25), some (.int v37)]) (S' := [.int (1 : Int32), .int v37, .ref 28]) (w' := px_w K s34 t35) (q := []) 4 hM rfl trivial ?_
                          rcases px_bi_some h with ⟨v42, s39, t40, hk41, h⟩ | ⟨x43, s39, t40, hk41, h⟩
                          · refine px_E_call hM rfl rfl rfl rfl (px_E_mono (by decide) (e_M_isKind_28 K N v37 (1 : Int32) s34 t35 _ hk41)) ?_
                            refine px_blkif (c := v42 = 0) (t := 56) (e := 49) (L' := [some (.ref 28), some (.int a0), some (.int a1), some (.int a2), some (.int a3), some (.int v25), some (.int v37)]) (S' := []) (w' := px_w K s39 t40) (q := []) 1 hM rfl trivial (fun hc44 => ?_) (fun hc44 => ?_)
                            · rw [if_pos hc44] at h
                              refine px_blk (i' := 58) (L' := [some (.ref 28), some (.int a0), some (.int a1), some (.int a2), some (.int a3), some (.int v25), some (.int v37)]) (S' := [.int a2, .ref 28]) (w' := px_w K s39 t40) (q := []) 2 hM rfl trivial ?_
                              rcases px_bi_some h with ⟨v48, s45, t46, hk47, h⟩ | ⟨x49, s45, t46, hk47, h⟩
                              · refine px_E_call hM rfl rfl rfl rfl (px_E_mono (by decide) (e_M_hasRoom_28 K N a2 s39 t40 _ hk47)) ?_
                                refine px_blkif (c := ¬ v48 = 0) (t := 62) (e := 60) (L' := [some (.ref 28), some (.int a0), some (.int a1), some (.int a2), some (.int a3), some (.int v25), some (.int v37)]) (S' := []) (w' := px_w K s45 t46) (q := []) 1 hM rfl trivial (fun hc50 => ?_) (fun hc50 => ?_)
                                · rw [if_pos hc50] at h
                                  refine px_blk (i' := 66) (L' := [some (.ref 28), some (.int a0), some (.int a1), some (.int a2), some (.int a3), some (.int v25), some (.int v37)]) (S' := [.int v37, .int a3, .int a2, .ref 28]) (w' := px_w K s45 t46) (q := []) 4 hM rfl trivial ?_
                                  rcases px_bv_some h with ⟨s51, t52, hk53, h⟩ | ⟨x55, s51, t52, hk53, h⟩
                                  · refine px_E_call hM rfl rfl rfl rfl (px_E_mono (by decide) (e_M_enter_28 K N a2 a3 v37 s45 t46 _ hk53)) ?_
                                    refine px_blk (i' := 70) (L' := [some (.ref 28), some (.int a0), some (.int a1), some (.int a2), some (.int a3), some (.int v25), some (.int v37)]) (S' := [.int v25, .int a0, .ref 28]) (w' := px_w K s51 t52) (q := []) 3 hM rfl trivial ?_
                                    rcases px_bv_some h with ⟨s56, t57, hk58, h⟩ | ⟨x60, s56, t57, hk58, h⟩
                                    · refine px_E_call hM rfl rfl rfl rfl (px_E_mono (by decide) (e_M_leave_28 K N a0 v25 s51 t52 _ hk58)) ?_
                                      refine px_blk (i' := 72) (L' := [some (.ref 28), some (.int a0), some (.int a1), some (.int a2), some (.int a3), some (.int v25), some (.int v37)]) (S' := [.int (0 : Int32)]) (w' := px_w K s56 t57) (q := []) 1 hM rfl trivial ?_
                                      cases h
                                      exact px_E_ret hM rfl rfl rfl trivial
                                    · cases h
                                  · cases h
                                · rw [if_neg hc50] at h
                                  refine px_blk (i' := 61) (L' := [some (.ref 28), some (.int a0), some (.int a1), some (.int a2), some (.int a3), some (.int v25), some (.int v37)]) (S' := [.int (-3 : Int32)]) (w' := px_w K s45 t46) (q := []) 1 hM rfl trivial ?_
                                  cases h
                                  exact px_E_ret hM rfl rfl rfl trivial
                              · cases h
                            · rw [if_neg hc44] at h
                              refine px_blk (i' := 52) (L' := [some (.ref 28), some (.int a0), some (.int a1), some (.int a2), some (.int a3), some (.int v25), some (.int v37)]) (S' := [.int v37, .int a2, .ref 28]) (w' := px_w K s39 t40) (q := []) 3 hM rfl trivial ?_
                              rcases px_bi_some h with ⟨v64, s61, t62, hk63, h⟩ | ⟨x65, s61, t62, hk63, h⟩
                              · refine px_E_call hM rfl rfl rfl rfl (px_E_mono (by decide) (e_M_isWithin_28 K N a2 v37 s39 t40 _ hk63)) ?_
                                refine px_blkif (c := v64 = 0) (t := 56) (e := 54) (L' := [some (.ref 28), some (.int a0), some (.int a1), some (.int a2), some (.int a3), some (.int v25), some (.int v37)]) (S' := []) (w' := px_w K s61 t62) (q := []) 1 hM rfl trivial (fun hc66 => ?_) (fun hc66 => ?_)
                                · rw [if_pos hc66] at h
                                  refine px_blk (i' := 58) (L' := [some (.ref 28), some (.int a0), some (.int a1), some (.int a2), some (.int a3), some (.int v25), some (.int v37)]) (S' := [.int a2, .ref 28]) (w' := px_w K s61 t62) (q := []) 2 hM rfl trivial ?_
                                  rcases px_bi_some h with ⟨v70, s67, t68, hk69, h⟩ | ⟨x71, s67, t68, hk69, h⟩
                                  · refine px_E_call hM rfl rfl rfl rfl (px_E_mono (by decide) (e_M_hasRoom_28 K N a2 s61 t62 _ hk69)) ?_
                                    refine px_blkif (c := ¬ v70 = 0) (t := 62) (e := 60) (L' := [some (.ref 28), some (.int a0), some (.int a1), some (.int a2), some (.int a3), some (.int v25), some (.int v37)]) (S' := []) (w' := px_w K s67 t68) (q := []) 1 hM rfl trivial (fun hc72 => ?_) (fun hc72 => ?_)
                                    · rw [if_pos hc72] at h
                                      refine px_blk (i' := 66) (L' := [some (.ref 28), some (.int a0), some (.int a1), some (.int a2), some (.int a3), some (.int v25), some (.int v37)]) (S' := [.int v37, .int a3, .int a2, .ref 28]) (w' := px_w K s67 t68) (q := []) 4 hM rfl trivial ?_
                                      rcases px_bv_some h with ⟨s73, t74, hk75, h⟩ | ⟨x77, s73, t74, hk75, h⟩
                                      · refine px_E_call hM rfl rfl rfl rfl (px_E_mono (by decide) (e_M_enter_28 K N a2 a3 v37 s67 t68 _ hk75)) ?_
                                        refine px_blk (i' := 70) (L' := [some (.ref 28), some (.int a0), some (.int a1), some (.int a2), some (.int a3), some (.int v25), some (.int v37)]) (S' := [.int v25, .int a0, .ref 28]) (w' := px_w K s73 t74) (q := []) 3 hM rfl trivial ?_
                                        rcases px_bv_some h with ⟨s78, t79, hk80, h⟩ | ⟨x82, s78, t79, hk80, h⟩
                                        · refine px_E_call hM rfl rfl rfl rfl (px_E_mono (by decide) (e_M_leave_28 K N a0 v25 s73 t74 _ hk80)) ?_
                                          refine px_blk (i' := 72) (L' := [some (.ref 28), some (.int a0), some (.int a1), some (.int a2), some (.int a3), some (.int v25), some (.int v37)]) (S' := [.int (0 : Int32)]) (w' := px_w K s78 t79) (q := []) 1 hM rfl trivial ?_
                                          cases h
                                          exact px_E_ret hM rfl rfl rfl trivial
                                        · cases h
                                      · cases h
                                    · rw [if_neg hc72] at h
                                      refine px_blk (i' := 61) (L' := [some (.ref 28), some (.int a0), some (.int a1), some (.int a2), some (.int a3), some (.int v25), some (.int v37)]) (S' := [.int (-3 : Int32)]) (w' := px_w K s67 t68) (q := []) 1 hM rfl trivial ?_
                                      cases h
                                      exact px_E_ret hM rfl rfl rfl trivial
                                  · cases h
                                · rw [if_neg hc66] at h
                                  refine px_blk (i' := 55) (L' := [some (.ref 28), some (.int a0), some (.int a1), some (.int a2), some (.int a3), some (.int v25), some (.int v37)]) (S' := [.int (-4 : Int32)]) (w' := px_w K s61 t62) (q := []) 1 hM rfl trivial ?_
                                  cases h
                                  exact px_E_ret hM rfl rfl rfl trivial
                              · cases h
                          · cases h
                        · cases h
                      · rw [if_neg hc33] at h
                        refine px_blk (i' := 38) (L' := [some (.ref 28), some (.int a0), some (.int a1), some (.int a2), some (.int a3), some (.int v25), none]) (S' := [.int (-2 : Int32)]) (w' := px_w K s28 t29) (q := []) 1 hM rfl trivial ?_
                        cases h
                        exact px_E_ret hM rfl rfl rfl trivial
                    · cases h
                  · rw [if_neg hc27] at h
                    refine px_blk (i' := 31) (L' := [some (.ref 28), some (.int a0), some (.int a1), some (.int a2), some (.int a3), some (.int v25), none]) (S' := [.int (-1 : Int32)]) (w' := px_w K s22 t23) (q := []) 1 hM rfl trivial ?_
                    cases h
                    exact px_E_ret hM rfl rfl rfl trivial
                · cases h
              · rw [if_neg hc21] at h
                refine px_blk (i' := 22) (L' := [some (.ref 28), some (.int a0), some (.int a1), some (.int a2), some (.int a3), none, none]) (S' := [.int (-4 : Int32)]) (w' := px_w K s15 t16) (q := []) 1 hM rfl trivial ?_
                cases h
                exact px_E_ret hM rfl rfl rfl trivial
          · cases h
      · cases h
    · rw [if_neg hc8] at h
      refine px_blk (i' := 7) (L' := [some (.ref 28), some (.int a0), some (.int a1), some (.int a2), some (.int a3), none, none]) (S' := [.int (-9 : Int32)]) (w' := px_w K s3 t4) (q := []) 1 hM rfl trivial ?_
      cases h
      exact px_E_ret hM rfl rfl rfl trivial
  · cases h
noncomputable def f_L_read_1_46 (K : px_K) (N : Nat) (a0 : Int32) (a1 : Int32) (s : px_S) (t : px_W) : Option px_Res :=
  (px_bi (f_E_read_1 K N a0 a1 s t) (fun v4 s1 t2 => (px_gd (vp_in (0 : Int32) (K.2.2 46)) (px_let (sO s1 (0 : Int32).toNatClampNeg v4.toInt64) (fun s7 => (some (.inl (some (.int (0 : Int32))), s7, t2)))))) (fun x5 s1 t2 => (@ite _ (px_isx t2 x5 7) (Classical.propDecidable _) (some (.inl (some (.int (1 : Int32))), s1, t2)) (px_gd (px_isx t2 x5 8) (some (.inl (some (.int (2 : Int32))), s1, t2))))))
set_option maxRecDepth 100000 in
theorem e_L_read_1_46 (K : px_K) (N : Nat) (a0 : Int32) (a1 : Int32) (s : px_S) (t : px_W) (r : px_Res) (h : f_L_read_1_46 K N a0 a1 s t = some r) : px_E px_ET px_P 14 202 0 (px_ent 5 [.ref 1, .int a0, .int a1, .ref 46]) [] (px_w K s t) r.1 (px_w K r.2.1 r.2.2) := by
  have hM : px_P[202]? = some pm_L_read := rfl
  unfold f_L_read_1_46 at h
  refine px_blk (i' := 5) (L' := [some (.ref 1), some (.int a0), some (.int a1), some (.ref 46), none]) (S' := [.int a1, .int a0, .ref 1, .int (0 : Int32), .ref 46]) (w' := px_w K s t) (q := []) 5 hM rfl trivial ?_
  rcases px_bi_some h with ⟨v4, s1, t2, hk3, h⟩ | ⟨x5, s1, t2, hk3, h⟩
  · refine px_E_call hM rfl rfl rfl rfl (px_E_mono (by decide) (e_E_read_1 K N a0 a1 s t _ hk3)) ?_
    obtain ⟨hq6, h⟩ := px_gd_some h
    refine px_blk (i' := 8) (L' := [some (.ref 1), some (.int a0), some (.int a1), some (.ref 46), none]) (S' := []) (w' := px_w K (sO s1 (0 : Int32).toNatClampNeg v4.toInt64) t2) (q := [vp_in (0 : Int32) (K.2.2 46)]) 2 hM rfl (show vp_in (0 : Int32) (K.2.2 46) from hq6) ?_
    obtain ⟨s7, hs8, h⟩ := px_let_some h
    rw [← hs8]
    refine px_blk (i' := 16) (L' := [some (.ref 1), some (.int a0), some (.int a1), some (.ref 46), none]) (S' := [.int (0 : Int32)]) (w' := px_w K s7 t2) (q := []) 2 hM rfl trivial ?_
    cases h
    exact px_E_ret hM rfl rfl rfl trivial
  · by_cases hx9 : px_isx t2 x5 7
    · rw [if_pos hx9] at h
      refine px_E_callC hM rfl rfl rfl rfl (px_E_mono (by decide) (e_E_read_1 K N a0 a1 s t _ hk3)) (px_hnd_of rfl rfl hx9) ?_
      refine px_blk (i' := 11) (L' := [some (.ref 1), some (.int a0), some (.int a1), some (.ref 46), some (.ref (x5))]) (S' := [.int (1 : Int32)]) (w' := px_w K s1 t2) (q := []) 2 hM rfl trivial ?_
      cases h
      exact px_E_ret hM rfl rfl rfl trivial
    · rw [if_neg hx9] at h
      obtain ⟨hx10, h⟩ := px_gd_some h
      refine px_E_callC hM rfl rfl rfl rfl (px_E_mono (by decide) (e_E_read_1 K N a0 a1 s t _ hk3)) (px_hnd_of rfl rfl hx10) ?_
      refine px_blk (i' := 14) (L' := [some (.ref 1), some (.int a0), some (.int a1), some (.ref 46), some (.ref (x5))]) (S' := [.int (2 : Int32)]) (w' := px_w K s1 t2) (q := []) 2 hM rfl trivial ?_
      cases h
      exact px_E_ret hM rfl rfl rfl trivial
