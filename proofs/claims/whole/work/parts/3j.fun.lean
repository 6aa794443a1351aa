/-! THE METHODS AS FUNCTIONS (by program). -/
noncomputable def l_M_changeHalves_28_20 (K : px_K) (N : Nat) (n : Nat) (m1 : Int32) (s : px_S) (t : px_W) : Option px_LO := match n with
  | 0 => none
  | n + 1 => (if (s.1 32) ≤ m1 then (some (.inl (30, [], s, t))) else (px_bv (f_M_records_28 K N m1 (0 : Int32) s t) (fun s2 t3 => (l_M_changeHalves_28_20 K N n (m1 + (1 : Int32)) s2 t3)) (fun x6 s2 t3 => none)))
def a_l_M_changeHalves_28_20 (K : px_K) (z : px_LO) (o : Option Value ⊕ Nat) (w2 : px_W) : Prop := match z with
  | .inr (o', s', t') => o = o' ∧ w2 = px_w K s' t'
  | .inl (30, [], s', t') => px_E px_ET px_P 7 46 30 [some (.ref 28), none] [] (px_w K s' t') o w2
  | _ => False
set_option maxRecDepth 100000 in
theorem e_l_M_changeHalves_28_20 (K : px_K) (N : Nat) : ∀ (n : Nat) (m1 : Int32) (s : px_S) (t : px_W) (z : px_LO), l_M_changeHalves_28_20 K N n m1 s t = some z → ∀ (o : Option Value ⊕ Nat) (w2 : px_W), a_l_M_changeHalves_28_20 K z o w2 → px_E px_ET px_P 7 46 20 [some (.ref 28), some (.int m1)] [] (px_w K s t) o w2 := by
  have hM : px_P[46]? = some pm_M_changeHalves := rfl
  intro n
  induction n with
  | zero => intro m1 s t z h; cases h
  | succ n ih =>
    intro m1 s t z h o w2 ha
    unfold l_M_changeHalves_28_20 at h
    refine px_blkif (c := (s.1 32) ≤ m1) (t := 30) (e := 24) (L' := [some (.ref 28), some (.int m1)]) (S' := []) (w' := px_w K s t) (q := []) 4 hM rfl trivial (fun hc1 => ?_) (fun hc1 => ?_)
    · rw [if_pos hc1] at h
      cases h
      exact px_E_le (px_leC_L _ _ (by simp [px_leC, px_le1, Value.category])) ha
    · rw [if_neg hc1] at h
      refine px_blk (i' := 27) (L' := [some (.ref 28), some (.int m1)]) (S' := [.int (0 : Int32), .int m1, .ref 28]) (w' := px_w K s t) (q := []) 3 hM rfl trivial ?_
      rcases px_bv_some h with ⟨s2, t3, hk4, h⟩ | ⟨x6, s2, t3, hk4, h⟩
      · refine px_E_call hM rfl rfl rfl rfl (px_E_mono (by decide) (e_M_records_28 K N m1 (0 : Int32) s t _ hk4)) ?_
        refine px_blk (i' := 20) (L' := [some (.ref 28), some (.int (m1 + (1 : Int32)))]) (S' := []) (w' := px_w K s2 t3) (q := []) 2 hM rfl trivial ?_
        exact ih (m1 + (1 : Int32)) s2 t3 z h o w2 ha
      · cases h
noncomputable def f_M_changeHalves_28 (K : px_K) (N : Nat) (s : px_S) (t : px_W) : Option px_Res :=
  (px_let (sR s 34 ((s.1 34) + (1 : Int32))) (fun s1 => (px_let (sR s1 33 ((1 : Int32) - (s1.1 33))) (fun s3 => (px_let (sR s3 35 (0 : Int32)) (fun s5 => (px_bi (f_M_landed_28 K N s5 t) (fun v10 s7 t8 => (px_let (v10 + (1 : Int32)) (fun v12 => (px_lp (l_M_changeHalves_28_20 K N N v12 s7 t8) (fun i14 vs15 s16 t17 => (if i14 = 30 then (px_v0 vs15 (px_bv (f_M_flush_28 K N (1 : Int32) s16 t17) (fun s21 t22 => (px_bi (f_M_read_28 K N (0 : Int32) (0 : Int32) (0 : Int32) s21 t22) (fun v29 s26 t27 => (px_bv (f_M_three_28_43 K N (s21.1 34) v29 (0 : Int32) s26 t27) (fun s31 t32 => (px_bv (f_M_write_28_43 K N (1 : Int32) ((25 : Int32) * (s31.1 33)) (0 : Int32) s31 t32) (fun s36 t37 => (px_bv (f_M_flush_28 K N (1 : Int32) s36 t37) (fun s41 t42 => (some (.inl none, s41, t42))) (fun x45 s41 t42 => none))) (fun x40 s36 t37 => none))) (fun x35 s31 t32 => none))) (fun x30 s26 t27 => none))) (fun x25 s21 t22 => none))) else none)) (fun z19 => some z19))))) (fun x11 s7 t8 => none))))))))
set_option maxRecDepth 100000 in
theorem e_M_changeHalves_28 (K : px_K) (N : Nat) (s : px_S) (t : px_W) (r : px_Res) (h : f_M_changeHalves_28 K N s t = some r) : px_E px_ET px_P 7 46 0 (px_ent 2 [.ref 28]) [] (px_w K s t) r.1 (px_w K r.2.1 r.2.2) := by
  have hM : px_P[46]? = some pm_M_changeHalves := rfl
  unfold f_M_changeHalves_28 at h
  refine px_blk (i' := 6) (L' := [some (.ref 28), none]) (S' := []) (w' := px_w K (sR s 34 ((s.1 34) + (1 : Int32))) t) (q := []) 6 hM rfl trivial ?_
  obtain ⟨s1, hs2, h⟩ := px_let_some h
  rw [← hs2]
  refine px_blk (i' := 12) (L' := [some (.ref 28), none]) (S' := []) (w' := px_w K (sR s1 33 ((1 : Int32) - (s1.1 33))) t) (q := []) 6 hM rfl trivial ?_
  obtain ⟨s3, hs4, h⟩ := px_let_some h
  rw [← hs4]
  refine px_blk (i' := 15) (L' := [some (.ref 28), none]) (S' := []) (w' := px_w K (sR s3 35 (0 : Int32)) t) (q := []) 3 hM rfl trivial ?_
  obtain ⟨s5, hs6, h⟩ := px_let_some h
  rw [← hs6]
  refine px_blk (i' := 16) (L' := [some (.ref 28), none]) (S' := [.ref 28]) (w' := px_w K s5 t) (q := []) 1 hM rfl trivial ?_
  rcases px_bi_some h with ⟨v10, s7, t8, hk9, h⟩ | ⟨x11, s7, t8, hk9, h⟩
  · refine px_E_call hM rfl rfl rfl rfl (px_E_mono (by decide) (e_M_landed_28 K N s5 t _ hk9)) ?_
    refine px_blk (i' := 20) (L' := [some (.ref 28), some (.int (v10 + (1 : Int32)))]) (S' := []) (w' := px_w K s7 t8) (q := []) 3 hM rfl trivial ?_
    obtain ⟨v12, hv13, h⟩ := px_let_some h
    rw [← hv13]
    rcases px_lp_some h with ⟨i14, vs15, s16, t17, hl18, h⟩ | ⟨z19, hl18, h⟩
    · by_cases hi20 : i14 = 30
      · subst hi20
        rw [if_pos rfl] at h
        have h9 := px_v0_some h
        clear h
        obtain ⟨rfl, h⟩ := h9
        refine e_l_M_changeHalves_28_20 K N N v12 s7 t8 _ hl18 _ _ ?_
        show px_E px_ET px_P 7 46 30 [some (.ref 28), none] [] (px_w K s16 t17) _ _
        refine px_blk (i' := 32) (L' := [some (.ref 28), none]) (S' := [.int (1 : Int32), .ref 28]) (w' := px_w K s16 t17) (q := []) 2 hM rfl trivial ?_
        rcases px_bv_some h with ⟨s21, t22, hk23, h⟩ | ⟨x25, s21, t22, hk23, h⟩
        · refine px_E_call hM rfl rfl rfl rfl (px_E_mono (by decide) (e_M_flush_28 K N (1 : Int32) s16 t17 _ hk23)) ?_
          refine px_blk (i' := 42) (L' := [some (.ref 28), none]) (S' := [.int (0 : Int32), .int (0 : Int32), .int (0 : Int32), .ref 28, .int (s21.1 34), .ref 43, .ref 28]) (w' := px_w K s21 t22) (q := []) 9 hM rfl trivial ?_
          rcases px_bi_some h with ⟨v29, s26, t27, hk28, h⟩ | ⟨x30, s26, t27, hk28, h⟩
          · refine px_E_call hM rfl rfl rfl rfl (px_E_mono (by decide) (e_M_read_28 K N (0 : Int32) (0 : Int32) (0 : Int32) s21 t22 _ hk28)) ?_
            refine px_blk (i' := 44) (L' := [some (.ref 28), none]) (S' := [.int (0 : Int32), .int v29, .int (s21.1 34), .ref 43, .ref 28]) (w' := px_w K s26 t27) (q := []) 1 hM rfl trivial ?_
            rcases px_bv_some h with ⟨s31, t32, hk33, h⟩ | ⟨x35, s31, t32, hk33, h⟩
            · refine px_E_call hM rfl rfl rfl rfl (px_E_mono (by decide) (e_M_three_28_43 K N (s21.1 34) v29 (0 : Int32) s26 t27 _ hk33)) ?_
              refine px_blk (i' := 54) (L' := [some (.ref 28), none]) (S' := [.int (0 : Int32), .ref 43, .int ((25 : Int32) * (s31.1 33)), .int (1 : Int32), .ref 28]) (w' := px_w K s31 t32) (q := []) 9 hM rfl trivial ?_
              rcases px_bv_some h with ⟨s36, t37, hk38, h⟩ | ⟨x40, s36, t37, hk38, h⟩
              · refine px_E_call hM rfl rfl rfl rfl (px_E_mono (by decide) (e_M_write_28_43 K N (1 : Int32) ((25 : Int32) * (s31.1 33)) (0 : Int32) s31 t32 _ hk38)) ?_
                refine px_blk (i' := 57) (L' := [some (.ref 28), none]) (S' := [.int (1 : Int32), .ref 28]) (w' := px_w K s36 t37) (q := []) 2 hM rfl trivial ?_
                rcases px_bv_some h with ⟨s41, t42, hk43, h⟩ | ⟨x45, s41, t42, hk43, h⟩
                · refine px_E_call hM rfl rfl rfl rfl (px_E_mono (by decide) (e_M_flush_28 K N (1 : Int32) s36 t37 _ hk43)) ?_
                  cases h
                  exact px_E_ret hM rfl rfl rfl trivial
                · cases h
              · cases h
            · cases h
          · cases h
        · cases h
      · rw [if_neg hi20] at h
        cases h
    · cases h
      exact e_l_M_changeHalves_28_20 K N N v12 s7 t8 _ hl18 _ _ ⟨rfl, rfl⟩
  · cases h
noncomputable def l_M_close_28_8 (K : px_K) (N : Nat) (n : Nat) (u1 : Int32) (s : px_S) (t : px_W) : Option px_LO := match n with
  | 0 => none
  | n + 1 => (if (s.1 29) = 0 then (some (.inl (25, [], s, t))) else (px_bi (f_M_landed_28 K N s t) (fun v5 s2 t3 => (if (((s.1 32) - (1 : Int32)) - v5) < (s2.1 28) then (some (.inl (25, [], s2, t3))) else (px_bi (f_M_land1_28 K N s2 t3) (fun v11 s8 t9 => (l_M_close_28_8 K N n u1 s8 t9)) (fun x12 s8 t9 => none)))) (fun x6 s2 t3 => none)))
def a_l_M_close_28_8 (K : px_K) (u1 : Int32) (z : px_LO) (o : Option Value ⊕ Nat) (w2 : px_W) : Prop := match z with
  | .inr (o', s', t') => o = o' ∧ w2 = px_w K s' t'
  | .inl (25, [], s', t') => px_E px_ET px_P 8 45 25 [some (.ref 28), some (.int u1), none] [] (px_w K s' t') o w2
  | _ => False
set_option maxRecDepth 100000 in
theorem e_l_M_close_28_8 (K : px_K) (N : Nat) (u1 : Int32) : ∀ (n : Nat) (s : px_S) (t : px_W) (z : px_LO), l_M_close_28_8 K N n u1 s t = some z → ∀ (o : Option Value ⊕ Nat) (w2 : px_W), a_l_M_close_28_8 K u1 z o w2 → px_E px_ET px_P 8 45 8 [some (.ref 28), some (.int u1), none] [] (px_w K s t) o w2 := by
  have hM : px_P[45]? = some pm_M_close := rfl
  intro n
  induction n with
  | zero => intro s t z h; cases h
  | succ n ih =>
    intro s t z h o w2 ha
    unfold l_M_close_28_8 at h
    refine px_blkif (c := (s.1 29) = 0) (t := 25) (e := 11) (L' := [some (.ref 28), some (.int u1), none]) (S' := []) (w' := px_w K s t) (q := []) 3 hM rfl trivial (fun hc1 => ?_) (fun hc1 => ?_)
    · rw [if_pos hc1] at h
      cases h
      exact px_E_le (px_leC_L _ _ (by simp [px_leC, px_le1, Value.category])) ha
    · rw [if_neg hc1] at h
      refine px_blk (i' := 16) (L' := [some (.ref 28), some (.int u1), none]) (S' := [.ref 28, .int ((s.1 32) - (1 : Int32))]) (w' := px_w K s t) (q := []) 5 hM rfl trivial ?_
      rcases px_bi_some h with ⟨v5, s2, t3, hk4, h⟩ | ⟨x6, s2, t3, hk4, h⟩
      · refine px_E_call hM rfl rfl rfl rfl (px_E_mono (by decide) (e_M_landed_28 K N s t _ hk4)) ?_
        refine px_blkif (c := (((s.1 32) - (1 : Int32)) - v5) < (s2.1 28)) (t := 25) (e := 21) (L' := [some (.ref 28), some (.int u1), none]) (S' := []) (w' := px_w K s2 t3) (q := []) 4 hM rfl trivial (fun hc7 => ?_) (fun hc7 => ?_)
        · rw [if_pos hc7] at h
          cases h
          exact px_E_le (px_leC_L _ _ (by simp [px_leC, px_le1, Value.category])) ha
        · rw [if_neg hc7] at h
          refine px_blk (i' := 22) (L' := [some (.ref 28), some (.int u1), none]) (S' := [.ref 28]) (w' := px_w K s2 t3) (q := []) 1 hM rfl trivial ?_
          rcases px_bi_some h with ⟨v11, s8, t9, hk10, h⟩ | ⟨x12, s8, t9, hk10, h⟩
          · refine px_E_call hM rfl rfl rfl rfl (px_E_mono (by decide) (e_M_land1_28 K N s2 t3 _ hk10)) ?_
            refine px_blk (i' := 8) (L' := [some (.ref 28), some (.int u1), some (.int v11)]) (S' := []) (w' := px_w K s8 t9) (q := []) 2 hM rfl trivial ?_
            exact px_E_le (px_leC_L _ _ (by simp [px_leC, px_le1, Value.category])) (ih s8 t9 z h o w2 ha)
          · cases h
      · cases h
noncomputable def f_M_close_28 (K : px_K) (N : Nat) (s : px_S) (t : px_W) : Option px_Res :=
  (px_bi (f_M_dirtyOf_28 K N (s.1 32) s t) (fun v4 s1 t2 => (if ¬ v4 = 0 then (px_lp (l_M_close_28_8 K N N v4 s1 t2) (fun i7 vs8 s9 t10 => (if i7 = 25 then (px_v0 vs8 (if ¬ (s9.1 29) = 0 then (if ((v4 + (5 : Int32)) / (6 : Int32)) ≤ ((24 : Int32) - (s9.1 35)) then (px_bv (f_M_records_28 K N (s9.1 32) (1 : Int32) s9 t10) (fun s16 t17 => (px_let (sR s16 32 ((s16.1 32) + (1 : Int32))) (fun s21 => (some (.inl none, s21, t17))))) (fun x20 s16 t17 => none)) else (px_bv (f_M_changeHalves_28 K N s9 t10) (fun s23 t24 => (px_bv (f_M_records_28 K N (s23.1 32) (1 : Int32) s23 t24) (fun s28 t29 => (px_let (sR s28 32 ((s28.1 32) + (1 : Int32))) (fun s33 => (some (.inl none, s33, t29))))) (fun x32 s28 t29 => none))) (fun x27 s23 t24 => none))) else (some (.inl none, s9, t10)))) else none)) (fun z12 => some z12)) else (some (.inl none, s1, t2)))) (fun x5 s1 t2 => none))
set_option maxRecDepth 100000 in
theorem e_M_close_28 (K : px_K) (N : Nat) (s : px_S) (t : px_W) (r : px_Res) (h : f_M_close_28 K N s t = some r) : px_E px_ET px_P 8 45 0 (px_ent 3 [.ref 28]) [] (px_w K s t) r.1 (px_w K r.2.1 r.2.2) := by
  have hM : px_P[45]? = some pm_M_close := rfl
  unfold f_M_close_28 at h
  refine px_blk (i' := 3) (L' := [some (.ref 28), none, none]) (S' := [.int (s.1 32), .ref 28]) (w' := px_w K s t) (q := []) 3 hM rfl trivial ?_
  rcases px_bi_some h with ⟨v4, s1, t2, hk3, h⟩ | ⟨x5, s1, t2, hk3, h⟩
  · refine px_E_call hM rfl rfl rfl rfl (px_E_mono (by decide) (e_M_dirtyOf_28 K N (s.1 32) s t _ hk3)) ?_
    refine px_blkif (c := ¬ v4 = 0) (t := 8) (e := 7) (L' := [some (.ref 28), some (.int v4), none]) (S' := []) (w' := px_w K s1 t2) (q := []) 3 hM rfl trivial (fun hc6 => ?_) (fun hc6 => ?_)
    · rw [if_pos hc6] at h
      rcases px_lp_some h with ⟨i7, vs8, s9, t10, hl11, h⟩ | ⟨z12, hl11, h⟩
      · by_cases hi13 : i7 = 25
        · subst hi13
          rw [if_pos rfl] at h
          have h9 := px_v0_some h
          clear h
          obtain ⟨rfl, h⟩ := h9
          refine e_l_M_close_28_8 K N v4 N s1 t2 _ hl11 _ _ ?_
          show px_E px_ET px_P 8 45 25 [some (.ref 28), some (.int v4), none] [] (px_w K s9 t10) _ _
          refine px_blkif (c := ¬ (s9.1 29) = 0) (t := 29) (e := 28) (L' := [some (.ref 28), some (.int v4), none]) (S' := []) (w' := px_w K s9 t10) (q := []) 3 hM rfl trivial (fun hc14 => ?_) (fun hc14 => ?_)
          · rw [if_pos hc14] at h
            refine px_blkif (c := ((v4 + (5 : Int32)) / (6 : Int32)) ≤ ((24 : Int32) - (s9.1 35))) (t := 41) (e := 39) (L' := [some (.ref 28), some (.int v4), none]) (S' := []) (w' := px_w K s9 t10) (q := [¬ (6 : Int32) = 0]) 10 hM rfl (show ¬ (6 : Int32) = 0 from (by decide)) (fun hc15 => ?_) (fun hc15 => ?_)
            · rw [if_pos hc15] at h
              refine px_blk (i' := 45) (L' := [some (.ref 28), some (.int v4), none]) (S' := [.int (1 : Int32), .int (s9.1 32), .ref 28]) (w' := px_w K s9 t10) (q := []) 4 hM rfl trivial ?_
              rcases px_bv_some h with ⟨s16, t17, hk18, h⟩ | ⟨x20, s16, t17, hk18, h⟩
              · refine px_E_call hM rfl rfl rfl rfl (px_E_mono (by decide) (e_M_records_28 K N (s9.1 32) (1 : Int32) s9 t10 _ hk18)) ?_
                refine px_blk (i' := 52) (L' := [some (.ref 28), some (.int v4), none]) (S' := []) (w' := px_w K (sR s16 32 ((s16.1 32) + (1 : Int32))) t17) (q := []) 6 hM rfl trivial ?_
                obtain ⟨s21, hs22, h⟩ := px_let_some h
                rw [← hs22]
                cases h
                exact px_E_ret hM rfl rfl rfl trivial
              · cases h
            · rw [if_neg hc15] at h
              refine px_blk (i' := 40) (L' := [some (.ref 28), some (.int v4), none]) (S' := [.ref 28]) (w' := px_w K s9 t10) (q := []) 1 hM rfl trivial ?_
              rcases px_bv_some h with ⟨s23, t24, hk25, h⟩ | ⟨x27, s23, t24, hk25, h⟩
              · refine px_E_call hM rfl rfl rfl rfl (px_E_mono (by decide) (e_M_changeHalves_28 K N s9 t10 _ hk25)) ?_
                refine px_blk (i' := 45) (L' := [some (.ref 28), some (.int v4), none]) (S' := [.int (1 : Int32), .int (s23.1 32), .ref 28]) (w' := px_w K s23 t24) (q := []) 4 hM rfl trivial ?_
                rcases px_bv_some h with ⟨s28, t29, hk30, h⟩ | ⟨x32, s28, t29, hk30, h⟩
                · refine px_E_call hM rfl rfl rfl rfl (px_E_mono (by decide) (e_M_records_28 K N (s23.1 32) (1 : Int32) s23 t24 _ hk30)) ?_
                  refine px_blk (i' := 52) (L' := [some (.ref 28), some (.int v4), none]) (S' := []) (w' := px_w K (sR s28 32 ((s28.1 32) + (1 : Int32))) t29) (q := []) 6 hM rfl trivial ?_
                  obtain ⟨s33, hs34, h⟩ := px_let_some h
                  rw [← hs34]
                  cases h
                  exact px_E_ret hM rfl rfl rfl trivial
                · cases h
              · cases h
          · rw [if_neg hc14] at h
            cases h
            exact px_E_ret hM rfl rfl rfl trivial
        · rw [if_neg hi13] at h
          cases h
      · cases h
        exact e_l_M_close_28_8 K N v4 N s1 t2 _ hl11 _ _ ⟨rfl, rfl⟩
    · rw [if_neg hc6] at h
      cases h
      exact px_E_ret hM rfl rfl rfl trivial
  · cases h
noncomputable def f_M_flushVolume_28 (K : px_K) (N : Nat) (s : px_S) (t : px_W) : Option px_Res :=
  (if (s.1 31) = 0 then (px_bv (f_M_flush_28 K N (0 : Int32) s t) (fun s2 t3 => (some (.inl none, s2, t3))) (fun x6 s2 t3 => none)) else (px_bv (f_M_close_28 K N s t) (fun s7 t8 => (some (.inl none, s7, t8))) (fun x11 s7 t8 => none)))
set_option maxRecDepth 100000 in
theorem e_M_flushVolume_28 (K : px_K) (N : Nat) (s : px_S) (t : px_W) (r : px_Res) (h : f_M_flushVolume_28 K N s t = some r) : px_E px_ET px_P 9 43 0 (px_ent 1 [.ref 28]) [] (px_w K s t) r.1 (px_w K r.2.1 r.2.2) := by
  have hM : px_P[43]? = some pm_M_flushVolume := rfl
  unfold f_M_flushVolume_28 at h
  refine px_blkif (c := (s.1 31) = 0) (t := 6) (e := 3) (L' := [some (.ref 28)]) (S' := []) (w' := px_w K s t) (q := []) 3 hM rfl trivial (fun hc1 => ?_) (fun hc1 => ?_)
  · rw [if_pos hc1] at h
    refine px_blk (i' := 8) (L' := [some (.ref 28)]) (S' := [.int (0 : Int32), .ref 28]) (w' := px_w K s t) (q := []) 2 hM rfl trivial ?_
    rcases px_bv_some h with ⟨s2, t3, hk4, h⟩ | ⟨x6, s2, t3, hk4, h⟩
    · refine px_E_call hM rfl rfl rfl rfl (px_E_mono (by decide) (e_M_flush_28 K N (0 : Int32) s t _ hk4)) ?_
      cases h
      exact px_E_ret hM rfl rfl rfl trivial
    · cases h
  · rw [if_neg hc1] at h
    refine px_blk (i' := 4) (L' := [some (.ref 28)]) (S' := [.ref 28]) (w' := px_w K s t) (q := []) 1 hM rfl trivial ?_
    rcases px_bv_some h with ⟨s7, t8, hk9, h⟩ | ⟨x11, s7, t8, hk9, h⟩
    · refine px_E_call hM rfl rfl rfl rfl (px_E_mono (by decide) (e_M_close_28 K N s t _ hk9)) ?_
      refine px_blk (i' := 9) (L' := [some (.ref 28)]) (S' := []) (w' := px_w K s7 t8) (q := []) 1 hM rfl trivial ?_
      cases h
      exact px_E_ret hM rfl rfl rfl trivial
    · cases h
noncomputable def f_M_word_28 (K : px_K) (N : Nat) (a0 : Int32) (a1 : Int32) (s : px_S) (t : px_W) : Option px_Res :=
  (px_gd (vp_in (((16 : Int32) * a0) + a1) (K.2.2 39)) (some (.inl (some (.int ((s.2.2.1 39) (((16 : Int32) * a0) + a1).toNatClampNeg))), s, t)))
set_option maxRecDepth 100000 in
theorem e_M_word_28 (K : px_K) (N : Nat) (a0 : Int32) (a1 : Int32) (s : px_S) (t : px_W) (r : px_Res) (h : f_M_word_28 K N a0 a1 s t = some r) : px_E px_ET px_P 1 49 0 (px_ent 3 [.ref 28, .int a0, .int a1]) [] (px_w K s t) r.1 (px_w K r.2.1 r.2.2) := by
  have hM : px_P[49]? = some pm_M_word := rfl
  unfold f_M_word_28 at h
  obtain ⟨hq1, h⟩ := px_gd_some h
  refine px_blk (i' := 8) (L' := [some (.ref 28), some (.int a0), some (.int a1)]) (S' := [.int ((s.2.2.1 39) (((16 : Int32) * a0) + a1).toNatClampNeg)]) (w' := px_w K s t) (q := [vp_in (((16 : Int32) * a0) + a1) (K.2.2 39)]) 8 hM rfl (show vp_in (((16 : Int32) * a0) + a1) (K.2.2 39) from hq1) ?_
  cases h
  exact px_E_ret hM rfl rfl rfl trivial
noncomputable def f_M_tell_28 (K : px_K) (N : Nat) (a0 : Int32) (a1 : Int32) (a2 : Int32) (s : px_S) (t : px_W) : Option px_Res :=
  (px_gd (vp_in (((16 : Int32) * a0) + a1) (K.2.2 39)) (px_let (sA s 39 (((16 : Int32) * a0) + a1).toNatClampNeg a2) (fun s2 => (px_gd (vp_in a0 (K.2.2 41)) (px_let (sA s2 41 a0.toNatClampNeg (1 : Int32)) (fun s5 => (some (.inl none, s5, t))))))))
set_option maxRecDepth 100000 in
theorem e_M_tell_28 (K : px_K) (N : Nat) (a0 : Int32) (a1 : Int32) (a2 : Int32) (s : px_S) (t : px_W) (r : px_Res) (h : f_M_tell_28 K N a0 a1 a2 s t = some r) : px_E px_ET px_P 1 50 0 (px_ent 4 [.ref 28, .int a0, .int a1, .int a2]) [] (px_w K s t) r.1 (px_w K r.2.1 r.2.2) := by
  have hM : px_P[50]? = some pm_M_tell := rfl
  unfold f_M_tell_28 at h
  obtain ⟨hq1, h⟩ := px_gd_some h
  refine px_blk (i' := 9) (L' := [some (.ref 28), some (.int a0), some (.int a1), some (.int a2)]) (S' := []) (w' := px_w K (sA s 39 (((16 : Int32) * a0) + a1).toNatClampNeg a2) t) (q := [vp_in (((16 : Int32) * a0) + a1) (K.2.2 39)]) 9 hM rfl (show vp_in (((16 : Int32) * a0) + a1) (K.2.2 39) from hq1) ?_
  obtain ⟨s2, hs3, h⟩ := px_let_some h
  rw [← hs3]
  obtain ⟨hq4, h⟩ := px_gd_some h
  refine px_blk (i' := 14) (L' := [some (.ref 28), some (.int a0), some (.int a1), some (.int a2)]) (S' := []) (w' := px_w K (sA s2 41 a0.toNatClampNeg (1 : Int32)) t) (q := [vp_in a0 (K.2.2 41), (1 : Int32) = 0 ∨ (1 : Int32) = 1]) 5 hM rfl (show (vp_in a0 (K.2.2 41)) ∧ ((1 : Int32) = 0 ∨ (1 : Int32) = 1) from ⟨hq4, Or.inr rfl⟩) ?_
  obtain ⟨s5, hs6, h⟩ := px_let_some h
  rw [← hs6]
  cases h
  exact px_E_ret hM rfl rfl rfl trivial
noncomputable def f_M_ofInode_28 (K : px_K) (N : Nat) (a0 : Int32) (a1 : Int32) (s : px_S) (t : px_W) : Option px_Res :=
  (px_bi (f_M_word_28 K N ((30 : Int32) + (a0 / (2 : Int32))) (((8 : Int32) * (a0 - a0 / (2 : Int32) * (2 : Int32))) + a1) s t) (fun v4 s1 t2 => (some (.inl (some (.int v4)), s1, t2))) (fun x5 s1 t2 => none))
set_option maxRecDepth 100000 in
theorem e_M_ofInode_28 (K : px_K) (N : Nat) (a0 : Int32) (a1 : Int32) (s : px_S) (t : px_W) (r : px_Res) (h : f_M_ofInode_28 K N a0 a1 s t = some r) : px_E px_ET px_P 2 51 0 (px_ent 3 [.ref 28, .int a0, .int a1]) [] (px_w K s t) r.1 (px_w K r.2.1 r.2.2) := by
  have hM : px_P[51]? = some pm_M_ofInode := rfl
  unfold f_M_ofInode_28 at h
  refine px_blk (i' := 12) (L' := [some (.ref 28), some (.int a0), some (.int a1)]) (S' := [.int a1, .int ((8 : Int32) * (a0 - a0 / (2 : Int32) * (2 : Int32))), .int ((30 : Int32) + (a0 / (2 : Int32))), .ref 28]) (w' := px_w K s t) (q := [¬ (2 : Int32) = 0, ¬ (2 : Int32) = 0]) 12 hM rfl (show (¬ (2 : Int32) = 0) ∧ (¬ (2 : Int32) = 0) from ⟨(by decide), (by decide)⟩) ?_
  refine px_blk (i' := 13) (L' := [some (.ref 28), some (.int a0), some (.int a1)]) (S' := [.int (((8 : Int32) * (a0 - a0 / (2 : Int32) * (2 : Int32))) + a1), .int ((30 : Int32) + (a0 / (2 : Int32))), .ref 28]) (w' := px_w K s t) (q := []) 1 hM rfl trivial ?_
  rcases px_bi_some h with ⟨v4, s1, t2, hk3, h⟩ | ⟨x5, s1, t2, hk3, h⟩
  · refine px_E_call hM rfl rfl rfl rfl (px_E_mono (by decide) (e_M_word_28 K N ((30 : Int32) + (a0 / (2 : Int32))) (((8 : Int32) * (a0 - a0 / (2 : Int32) * (2 : Int32))) + a1) s t _ hk3)) ?_
    cases h
    exact px_E_ret hM rfl rfl rfl trivial
  · cases h
noncomputable def f_M_tellInode_28 (K : px_K) (N : Nat) (a0 : Int32) (a1 : Int32) (a2 : Int32) (s : px_S) (t : px_W) : Option px_Res :=
  (px_bv (f_M_tell_28 K N ((30 : Int32) + (a0 / (2 : Int32))) (((8 : Int32) * (a0 - a0 / (2 : Int32) * (2 : Int32))) + a1) a2 s t) (fun s1 t2 => (some (.inl none, s1, t2))) (fun x5 s1 t2 => none))
set_option maxRecDepth 100000 in
theorem e_M_tellInode_28 (K : px_K) (N : Nat) (a0 : Int32) (a1 : Int32) (a2 : Int32) (s : px_S) (t : px_W) (r : px_Res) (h : f_M_tellInode_28 K N a0 a1 a2 s t = some r) : px_E px_ET px_P 2 52 0 (px_ent 4 [.ref 28, .int a0, .int a1, .int a2]) [] (px_w K s t) r.1 (px_w K r.2.1 r.2.2) := by
  have hM : px_P[52]? = some pm_M_tellInode := rfl
  unfold f_M_tellInode_28 at h
  refine px_blk (i' := 12) (L' := [some (.ref 28), some (.int a0), some (.int a1), some (.int a2)]) (S' := [.int a1, .int ((8 : Int32) * (a0 - a0 / (2 : Int32) * (2 : Int32))), .int ((30 : Int32) + (a0 / (2 : Int32))), .ref 28]) (w' := px_w K s t) (q := [¬ (2 : Int32) = 0, ¬ (2 : Int32) = 0]) 12 hM rfl (show (¬ (2 : Int32) = 0) ∧ (¬ (2 : Int32) = 0) from ⟨(by decide), (by decide)⟩) ?_
  refine px_blk (i' := 14) (L' := [some (.ref 28), some (.int a0), some (.int a1), some (.int a2)]) (S' := [.int a2, .int (((8 : Int32) * (a0 - a0 / (2 : Int32) * (2 : Int32))) + a1), .int ((30 : Int32) + (a0 / (2 : Int32))), .ref 28]) (w' := px_w K s t) (q := []) 2 hM rfl trivial ?_
  rcases px_bv_some h with ⟨s1, t2, hk3, h⟩ | ⟨x5, s1, t2, hk3, h⟩
  · refine px_E_call hM rfl rfl rfl rfl (px_E_mono (by decide) (e_M_tell_28 K N ((30 : Int32) + (a0 / (2 : Int32))) (((8 : Int32) * (a0 - a0 / (2 : Int32) * (2 : Int32))) + a1) a2 s t _ hk3)) ?_
    cases h
    exact px_E_ret hM rfl rfl rfl trivial
  · cases h
noncomputable def f_M_isKind_28 (K : px_K) (N : Nat) (a0 : Int32) (a1 : Int32) (s : px_S) (t : px_W) : Option px_Res :=
  (if a0 < 0 then (some (.inl (some (.int (0 : Int32))), s, t)) else (if (24 : Int32) ≤ a0 then (some (.inl (some (.int (0 : Int32))), s, t)) else (px_bi (f_M_ofInode_28 K N a0 (0 : Int32) s t) (fun v6 s3 t4 => (if ¬ v6 = a1 then (some (.inl (some (.int (0 : Int32))), s3, t4)) else (some (.inl (some (.int (1 : Int32))), s3, t4)))) (fun x7 s3 t4 => none))))
set_option maxRecDepth 100000 in
theorem e_M_isKind_28 (K : px_K) (N : Nat) (a0 : Int32) (a1 : Int32) (s : px_S) (t : px_W) (r : px_Res) (h : f_M_isKind_28 K N a0 a1 s t = some r) : px_E px_ET px_P 3 53 0 (px_ent 3 [.ref 28, .int a0, .int a1]) [] (px_w K s t) r.1 (px_w K r.2.1 r.2.2) := by
  have hM : px_P[53]? = some pm_M_isKind := rfl
  unfold f_M_isKind_28 at h
  refine px_blkif (c := a0 < 0) (t := 13) (e := 2) (L' := [some (.ref 28), some (.int a0), some (.int a1)]) (S' := []) (w' := px_w K s t) (q := []) 2 hM rfl trivial (fun hc1 => ?_) (fun hc1 => ?_)
  · rw [if_pos hc1] at h
    refine px_blk (i' := 14) (L' := [some (.ref 28), some (.int a0), some (.int a1)]) (S' := [.int (0 : Int32)]) (w' := px_w K s t) (q := []) 1 hM rfl trivial ?_
    cases h
    exact px_E_ret hM rfl rfl rfl (show (0 : Int32) = 0 ∨ (0 : Int32) = 1 from Or.inl rfl)
  · rw [if_neg hc1] at h
    refine px_blkif (c := (24 : Int32) ≤ a0) (t := 13) (e := 5) (L' := [some (.ref 28), some (.int a0), some (.int a1)]) (S' := []) (w' := px_w K s t) (q := []) 3 hM rfl trivial (fun hc2 => ?_) (fun hc2 => ?_)
    · rw [if_pos hc2] at h
      refine px_blk (i' := 14) (L' := [some (.ref 28), some (.int a0), some (.int a1)]) (S' := [.int (0 : Int32)]) (w' := px_w K s t) (q := []) 1 hM rfl trivial ?_
      cases h
      exact px_E_ret hM rfl rfl rfl (show (0 : Int32) = 0 ∨ (0 : Int32) = 1 from Or.inl rfl)
    · rw [if_neg hc2] at h
      refine px_blk (i' := 8) (L' := [some (.ref 28), some (.int a0), some (.int a1)]) (S' := [.int (0 : Int32), .int a0, .ref 28]) (w' := px_w K s t) (q := []) 3 hM rfl trivial ?_
      rcases px_bi_some h with ⟨v6, s3, t4, hk5, h⟩ | ⟨x7, s3, t4, hk5, h⟩
      · refine px_E_call hM rfl rfl rfl rfl (px_E_mono (by decide) (e_M_ofInode_28 K N a0 (0 : Int32) s t _ hk5)) ?_
        refine px_blkif (c := ¬ v6 = a1) (t := 13) (e := 11) (L' := [some (.ref 28), some (.int a0), some (.int a1)]) (S' := []) (w' := px_w K s3 t4) (q := []) 2 hM rfl trivial (fun hc8 => ?_) (fun hc8 => ?_)
        · rw [if_pos hc8] at h
          refine px_blk (i' := 14) (L' := [some (.ref 28), some (.int a0), some (.int a1)]) (S' := [.int (0 : Int32)]) (w' := px_w K s3 t4) (q := []) 1 hM rfl trivial ?_
          cases h
          exact px_E_ret hM rfl rfl rfl (show (0 : Int32) = 0 ∨ (0 : Int32) = 1 from Or.inl rfl)
        · rw [if_neg hc8] at h
          refine px_blk (i' := 14) (L' := [some (.ref 28), some (.int a0), some (.int a1)]) (S' := [.int (1 : Int32)]) (w' := px_w K s3 t4) (q := []) 2 hM rfl trivial ?_
          cases h
          exact px_E_ret hM rfl rfl rfl (show (1 : Int32) = 0 ∨ (1 : Int32) = 1 from Or.inr rfl)
      · cases h
noncomputable def f_M_isUsed_28 (K : px_K) (N : Nat) (a0 : Int32) (s : px_S) (t : px_W) : Option px_Res :=
  (px_bi (f_M_word_28 K N (29 : Int32) ((a0 - (42 : Int32)) / (32 : Int32)) s t) (fun v4 s1 t2 => (if ¬ ((v4 >>> (((a0 - (42 : Int32)) - (a0 - (42 : Int32)) / (32 : Int32) * (32 : Int32)) &&& 31)) &&& (1 : Int32)) = (1 : Int32) then (some (.inl (some (.int (0 : Int32))), s1, t2)) else (some (.inl (some (.int (1 : Int32))), s1, t2)))) (fun x5 s1 t2 => none))
set_option maxRecDepth 100000 in
theorem e_M_isUsed_28 (K : px_K) (N : Nat) (a0 : Int32) (s : px_S) (t : px_W) (r : px_Res) (h : f_M_isUsed_28 K N a0 s t = some r) : px_E px_ET px_P 2 54 0 (px_ent 2 [.ref 28, .int a0]) [] (px_w K s t) r.1 (px_w K r.2.1 r.2.2) := by
  have hM : px_P[54]? = some pm_M_isUsed := rfl
  unfold f_M_isUsed_28 at h
  refine px_blk (i' := 7) (L' := [some (.ref 28), some (.int a0)]) (S' := [.int ((a0 - (42 : Int32)) / (32 : Int32)), .int (29 : Int32), .ref 28]) (w' := px_w K s t) (q := [¬ (32 : Int32) = 0]) 7 hM rfl (show ¬ (32 : Int32) = 0 from (by decide)) ?_
  rcases px_bi_some h with ⟨v4, s1, t2, hk3, h⟩ | ⟨x5, s1, t2, hk3, h⟩
  · refine px_E_call hM rfl rfl rfl rfl (px_E_mono (by decide) (e_M_word_28 K N (29 : Int32) ((a0 - (42 : Int32)) / (32 : Int32)) s t _ hk3)) ?_
    refine px_blkif (c := ¬ ((v4 >>> (((a0 - (42 : Int32)) - (a0 - (42 : Int32)) / (32 : Int32) * (32 : Int32)) &&& 31)) &&& (1 : Int32)) = (1 : Int32)) (t := 20) (e := 18) (L' := [some (.ref 28), some (.int a0)]) (S' := []) (w' := px_w K s1 t2) (q := [¬ (32 : Int32) = 0]) 10 hM rfl (show ¬ (32 : Int32) = 0 from (by decide)) (fun hc6 => ?_) (fun hc6 => ?_)
    · rw [if_pos hc6] at h
      refine px_blk (i' := 21) (L' := [some (.ref 28), some (.int a0)]) (S' := [.int (0 : Int32)]) (w' := px_w K s1 t2) (q := []) 1 hM rfl trivial ?_
      cases h
      exact px_E_ret hM rfl rfl rfl (show (0 : Int32) = 0 ∨ (0 : Int32) = 1 from Or.inl rfl)
    · rw [if_neg hc6] at h
      refine px_blk (i' := 21) (L' := [some (.ref 28), some (.int a0)]) (S' := [.int (1 : Int32)]) (w' := px_w K s1 t2) (q := []) 2 hM rfl trivial ?_
      cases h
      exact px_E_ret hM rfl rfl rfl (show (1 : Int32) = 0 ∨ (1 : Int32) = 1 from Or.inr rfl)
  · cases h
noncomputable def l_M_left_28_4 (K : px_K) (N : Nat) (n : Nat) (m1 : Int32) (m2 : Int32) (s : px_S) (t : px_W) : Option px_LO := match n with
  | 0 => none
  | n + 1 => (if (106 : Int32) ≤ m2 then (some (.inl (19, [m1], s, t))) else (px_bi (f_M_isUsed_28 K N m2 s t) (fun v5 s2 t3 => (if v5 = 0 then (l_M_left_28_4 K N n (m1 + (1 : Int32)) (m2 + (1 : Int32)) s2 t3) else (l_M_left_28_4 K N n (m1 + (0 : Int32)) (m2 + (1 : Int32)) s2 t3))) (fun x6 s2 t3 => none)))
def a_l_M_left_28_4 (K : px_K) (z : px_LO) (o : Option Value ⊕ Nat) (w2 : px_W) : Prop := match z with
  | .inr (o', s', t') => o = o' ∧ w2 = px_w K s' t'
  | .inl (19, [y1], s', t') => px_E px_ET px_P 3 55 19 [none, some (.int y1), none] [] (px_w K s' t') o w2
  | _ => False
set_option maxRecDepth 100000 in
theorem e_l_M_left_28_4 (K : px_K) (N : Nat) : ∀ (n : Nat) (m1 : Int32) (m2 : Int32) (s : px_S) (t : px_W) (z : px_LO), l_M_left_28_4 K N n m1 m2 s t = some z → ∀ (o : Option Value ⊕ Nat) (w2 : px_W), a_l_M_left_28_4 K z o w2 → px_E px_ET px_P 3 55 4 [some (.ref 28), some (.int m1), some (.int m2)] [] (px_w K s t) o w2 := by
  have hM : px_P[55]? = some pm_M_left := rfl
  intro n
  induction n with
  | zero => intro m1 m2 s t z h; cases h
  | succ n ih =>
    intro m1 m2 s t z h o w2 ha
    unfold l_M_left_28_4 at h
    refine px_blkif (c := (106 : Int32) ≤ m2) (t := 19) (e := 7) (L' := [some (.ref 28), some (.int m1), some (.int m2)]) (S' := []) (w' := px_w K s t) (q := []) 3 hM rfl trivial (fun hc1 => ?_) (fun hc1 => ?_)
    · rw [if_pos hc1] at h
      cases h
      exact px_E_le (px_leC_L _ _ (by simp [px_leC, px_le1, Value.category])) ha
    · rw [if_neg hc1] at h
      refine px_blk (i' := 10) (L' := [some (.ref 28), some (.int m1), some (.int m2)]) (S' := [.int m2, .ref 28, .int m1]) (w' := px_w K s t) (q := []) 3 hM rfl trivial ?_
      rcases px_bi_some h with ⟨v5, s2, t3, hk4, h⟩ | ⟨x6, s2, t3, hk4, h⟩
      · refine px_E_call hM rfl rfl rfl rfl (px_E_mono (by decide) (e_M_isUsed_28 K N m2 s t _ hk4)) ?_
        refine px_blkif (c := v5 = 0) (t := 14) (e := 12) (L' := [some (.ref 28), some (.int m1), some (.int m2)]) (S' := [.int m1]) (w' := px_w K s2 t3) (q := []) 1 hM rfl trivial (fun hc7 => ?_) (fun hc7 => ?_)
        · rw [if_pos hc7] at h
          refine px_blk (i' := 4) (L' := [some (.ref 28), some (.int (m1 + (1 : Int32))), some (.int (m2 + (1 : Int32)))]) (S' := []) (w' := px_w K s2 t3) (q := []) 5 hM rfl trivial ?_
          exact ih (m1 + (1 : Int32)) (m2 + (1 : Int32)) s2 t3 z h o w2 ha
        · rw [if_neg hc7] at h
          refine px_blk (i' := 4) (L' := [some (.ref 28), some (.int (m1 + (0 : Int32))), some (.int (m2 + (1 : Int32)))]) (S' := []) (w' := px_w K s2 t3) (q := []) 6 hM rfl trivial ?_
          exact ih (m1 + (0 : Int32)) (m2 + (1 : Int32)) s2 t3 z h o w2 ha
      · cases h
noncomputable def f_M_left_28 (K : px_K) (N : Nat) (s : px_S) (t : px_W) : Option px_Res :=
  (px_lp (l_M_left_28_4 K N N (0 : Int32) (42 : Int32) s t) (fun i1 vs2 s3 t4 => (if i1 = 19 then (px_v1 vs2 (fun y7 => (some (.inl (some (.int y7)), s3, t4)))) else none)) (fun z6 => some z6))
set_option maxRecDepth 100000 in
theorem e_M_left_28 (K : px_K) (N : Nat) (s : px_S) (t : px_W) (r : px_Res) (h : f_M_left_28 K N s t = some r) : px_E px_ET px_P 3 55 0 (px_ent 3 [.ref 28]) [] (px_w K s t) r.1 (px_w K r.2.1 r.2.2) := by
  have hM : px_P[55]? = some pm_M_left := rfl
  unfold f_M_left_28 at h
  refine px_blk (i' := 4) (L' := [some (.ref 28), some (.int (0 : Int32)), some (.int (42 : Int32))]) (S' := []) (w' := px_w K s t) (q := []) 4 hM rfl trivial ?_
  rcases px_lp_some h with ⟨i1, vs2, s3, t4, hl5, h⟩ | ⟨z6, hl5, h⟩
  · by_cases hi8 : i1 = 19
    · subst hi8
      rw [if_pos rfl] at h
      have h9 := px_v1_some h
      clear h
      obtain ⟨y7, rfl, h⟩ := h9
      refine e_l_M_left_28_4 K N N (0 : Int32) (42 : Int32) s t _ hl5 _ _ ?_
      show px_E px_ET px_P 3 55 19 [none, some (.int y7), none] [] (px_w K s3 t4) _ _
      refine px_blk (i' := 20) (L' := [none, some (.int y7), none]) (S' := [.int y7]) (w' := px_w K s3 t4) (q := []) 1 hM rfl trivial ?_
      cases h
      exact px_E_ret hM rfl rfl rfl trivial
    · rw [if_neg hi8] at h
      cases h
  · cases h
    exact e_l_M_left_28_4 K N N (0 : Int32) (42 : Int32) s t _ hl5 _ _ ⟨rfl, rfl⟩
noncomputable def l_M_take_28_2 (K : px_K) (N : Nat) (n : Nat) (m1 : Int32) (s : px_S) (t : px_W) : Option px_LO := match n with
  | 0 => none
  | n + 1 => (px_bi (f_M_isUsed_28 K N m1 s t) (fun v4 s1 t2 => (if v4 = 0 then (some (.inl (8, [m1], s1, t2))) else (l_M_take_28_2 K N n (m1 + (1 : Int32)) s1 t2))) (fun x5 s1 t2 => none))
def a_l_M_take_28_2 (K : px_K) (z : px_LO) (o : Option Value ⊕ Nat) (w2 : px_W) : Prop := match z with
  | .inr (o', s', t') => o = o' ∧ w2 = px_w K s' t'
  | .inl (8, [y1], s', t') => px_E px_ET px_P 3 56 8 [some (.ref 28), some (.int y1), none] [] (px_w K s' t') o w2
  | _ => False
noncomputable def l_M_take_28_34 (K : px_K) (N : Nat) (n : Nat) (u1 : Int32) (m2 : Int32) (s : px_S) (t : px_W) : Option px_LO := match n with
  | 0 => none
  | n + 1 => (if (16 : Int32) ≤ m2 then (some (.inl (44, [], s, t))) else (px_bv (f_M_tell_28 K N u1 m2 (0 : Int32) s t) (fun s2 t3 => (l_M_take_28_34 K N n u1 (m2 + (1 : Int32)) s2 t3)) (fun x6 s2 t3 => none)))
def a_l_M_take_28_34 (K : px_K) (u1 : Int32) (z : px_LO) (o : Option Value ⊕ Nat) (w2 : px_W) : Prop := match z with
  | .inr (o', s', t') => o = o' ∧ w2 = px_w K s' t'
  | .inl (44, [], s', t') => px_E px_ET px_P 3 56 44 [none, some (.int u1), none] [] (px_w K s' t') o w2
  | _ => False
set_option maxRecDepth 100000 in
theorem e_l_M_take_28_2 (K : px_K) (N : Nat) : ∀ (n : Nat) (m1 : Int32) (s : px_S) (t : px_W) (z : px_LO), l_M_take_28_2 K N n m1 s t = some z → ∀ (o : Option Value ⊕ Nat) (w2 : px_W), a_l_M_take_28_2 K z o w2 → px_E px_ET px_P 3 56 2 [some (.ref 28), some (.int m1), none] [] (px_w K s t) o w2 := by
  have hM : px_P[56]? = some pm_M_take := rfl
  intro n
  induction n with
  | zero => intro m1 s t z h; cases h
  | succ n ih =>
    intro m1 s t z h o w2 ha
    unfold l_M_take_28_2 at h
    refine px_blk (i' := 4) (L' := [some (.ref 28), some (.int m1), none]) (S' := [.int m1, .ref 28]) (w' := px_w K s t) (q := []) 2 hM rfl trivial ?_
    rcases px_bi_some h with ⟨v4, s1, t2, hk3, h⟩ | ⟨x5, s1, t2, hk3, h⟩
    · refine px_E_call hM rfl rfl rfl rfl (px_E_mono (by decide) (e_M_isUsed_28 K N m1 s t _ hk3)) ?_
      refine px_blkif (c := v4 = 0) (t := 8) (e := 6) (L' := [some (.ref 28), some (.int m1), none]) (S' := []) (w' := px_w K s1 t2) (q := []) 1 hM rfl trivial (fun hc6 => ?_) (fun hc6 => ?_)
      · rw [if_pos hc6] at h
        cases h
        exact px_E_le (px_leC_L _ _ (by simp [px_leC, px_le1, Value.category])) ha
      · rw [if_neg hc6] at h
        refine px_blk (i' := 2) (L' := [some (.ref 28), some (.int (m1 + (1 : Int32))), none]) (S' := []) (w' := px_w K s1 t2) (q := []) 2 hM rfl trivial ?_
        exact ih (m1 + (1 : Int32)) s1 t2 z h o w2 ha
    · cases h
set_option maxRecDepth 100000 in
theorem e_l_M_take_28_34 (K : px_K) (N : Nat) (u1 : Int32) : ∀ (n : Nat) (m2 : Int32) (s : px_S) (t : px_W) (z : px_LO), l_M_take_28_34 K N n u1 m2 s t = some z → ∀ (o : Option Value ⊕ Nat) (w2 : px_W), a_l_M_take_28_34 K u1 z o w2 → px_E px_ET px_P 3 56 34 [some (.ref 28), some (.int u1), some (.int m2)] [] (px_w K s t) o w2 := by
  have hM : px_P[56]? = some pm_M_take := rfl
  intro n
  induction n with
  | zero => intro m2 s t z h; cases h
  | succ n ih =>
    intro m2 s t z h o w2 ha
    unfold l_M_take_28_34 at h
    refine px_blkif (c := (16 : Int32) ≤ m2) (t := 44) (e := 37) (L' := [some (.ref 28), some (.int u1), some (.int m2)]) (S' := []) (w' := px_w K s t) (q := []) 3 hM rfl trivial (fun hc1 => ?_) (fun hc1 => ?_)
    · rw [if_pos hc1] at h
      cases h
      exact px_E_le (px_leC_L _ _ (by simp [px_leC, px_le1, Value.category])) ha
    · rw [if_neg hc1] at h
      refine px_blk (i' := 41) (L' := [some (.ref 28), some (.int u1), some (.int m2)]) (S' := [.int (0 : Int32), .int m2, .int u1, .ref 28]) (w' := px_w K s t) (q := []) 4 hM rfl trivial ?_
      rcases px_bv_some h with ⟨s2, t3, hk4, h⟩ | ⟨x6, s2, t3, hk4, h⟩
      · refine px_E_call hM rfl rfl rfl rfl (px_E_mono (by decide) (e_M_tell_28 K N u1 m2 (0 : Int32) s t _ hk4)) ?_
        refine px_blk (i' := 34) (L' := [some (.ref 28), some (.int u1), some (.int (m2 + (1 : Int32)))]) (S' := []) (w' := px_w K s2 t3) (q := []) 2 hM rfl trivial ?_
        exact ih (m2 + (1 : Int32)) s2 t3 z h o w2 ha
      · cases h
noncomputable def f_M_take_28 (K : px_K) (N : Nat) (s : px_S) (t : px_W) : Option px_Res :=
  (px_lp (l_M_take_28_2 K N N (42 : Int32) s t) (fun i1 vs2 s3 t4 => (if i1 = 8 then (px_v1 vs2 (fun y7 => (px_bi (f_M_word_28 K N (29 : Int32) ((y7 - (42 : Int32)) / (32 : Int32)) s3 t4) (fun v12 s9 t10 => (px_bv (f_M_tell_28 K N (29 : Int32) ((y7 - (42 : Int32)) / (32 : Int32)) (v12 ||| ((1 : Int32) <<< (((y7 - (42 : Int32)) - (y7 - (42 : Int32)) / (32 : Int32) * (32 : Int32)) &&& 31))) s9 t10) (fun s14 t15 => (px_lp (l_M_take_28_34 K N N y7 (0 : Int32) s14 t15) (fun i19 vs20 s21 t22 => (if i19 = 44 then (px_v0 vs20 (some (.inl (some (.int y7)), s21, t22))) else none)) (fun z24 => some z24))) (fun x18 s14 t15 => none))) (fun x13 s9 t10 => none)))) else none)) (fun z6 => some z6))
set_option maxRecDepth 100000 in
theorem e_M_take_28 (K : px_K) (N : Nat) (s : px_S) (t : px_W) (r : px_Res) (h : f_M_take_28 K N s t = some r) : px_E px_ET px_P 3 56 0 (px_ent 3 [.ref 28]) [] (px_w K s t) r.1 (px_w K r.2.1 r.2.2) := by
  have hM : px_P[56]? = some pm_M_take := rfl
  unfold f_M_take_28 at h
  refine px_blk (i' := 2) (L' := [some (.ref 28), some (.int (42 : Int32)), none]) (S' := []) (w' := px_w K s t) (q := []) 2 hM rfl trivial ?_
  rcases px_lp_some h with ⟨i1, vs2, s3, t4, hl5, h⟩ | ⟨z6, hl5, h⟩
  · by_cases hi8 : i1 = 8
    · subst hi8
      rw [if_pos rfl] at h
      have h9 := px_v1_some h
      clear h
      obtain ⟨y7, rfl, h⟩ := h9
      refine e_l_M_take_28_2 K N N (42 : Int32) s t _ hl5 _ _ ?_
      show px_E px_ET px_P 3 56 8 [some (.ref 28), some (.int y7), none] [] (px_w K s3 t4) _ _
      refine px_blk (i' := 20) (L' := [some (.ref 28), some (.int y7), none]) (S' := [.int (y7 - (42 : Int32)), .int (29 : Int32), .ref 28, .int ((y7 - (42 : Int32)) / (32 : Int32)), .int (29 : Int32), .ref 28]) (w' := px_w K s3 t4) (q := [¬ (32 : Int32) = 0]) 12 hM rfl (show ¬ (32 : Int32) = 0 from (by decide)) ?_
      refine px_blk (i' := 22) (L' := [some (.ref 28), some (.int y7), none]) (S' := [.int ((y7 - (42 : Int32)) / (32 : Int32)), .int (29 : Int32), .ref 28, .int ((y7 - (42 : Int32)) / (32 : Int32)), .int (29 : Int32), .ref 28]) (w' := px_w K s3 t4) (q := [¬ (32 : Int32) = 0]) 2 hM rfl (show ¬ (32 : Int32) = 0 from (by decide)) ?_
      rcases px_bi_some h with ⟨v12, s9, t10, hk11, h⟩ | ⟨x13, s9, t10, hk11, h⟩
      · refine px_E_call hM rfl rfl rfl rfl (px_E_mono (by decide) (e_M_word_28 K N (29 : Int32) ((y7 - (42 : Int32)) / (32 : Int32)) s3 t4 _ hk11)) ?_
        refine px_blk (i' := 31) (L' := [some (.ref 28), some (.int y7), none]) (S' := [.int (v12 ||| ((1 : Int32) <<< (((y7 - (42 : Int32)) - (y7 - (42 : Int32)) / (32 : Int32) * (32 : Int32)) &&& 31))), .int ((y7 - (42 : Int32)) / (32 : Int32)), .int (29 : Int32), .ref 28]) (w' := px_w K s9 t10) (q := [¬ (32 : Int32) = 0]) 8 hM rfl (show ¬ (32 : Int32) = 0 from (by decide)) ?_
        rcases px_bv_some h with ⟨s14, t15, hk16, h⟩ | ⟨x18, s14, t15, hk16, h⟩
        · refine px_E_call hM rfl rfl rfl rfl (px_E_mono (by decide) (e_M_tell_28 K N (29 : Int32) ((y7 - (42 : Int32)) / (32 : Int32)) (v12 ||| ((1 : Int32) <<< (((y7 - (42 : Int32)) - (y7 - (42 : Int32)) / (32 : Int32) * (32 : Int32)) &&& 31))) s9 t10 _ hk16)) ?_
          refine px_blk (i' := 34) (L' := [some (.ref 28), some (.int y7), some (.int (0 : Int32))]) (S' := []) (w' := px_w K s14 t15) (q := []) 2 hM rfl trivial ?_
          rcases px_lp_some h with ⟨i19, vs20, s21, t22, hl23, h⟩ | ⟨z24, hl23, h⟩
          · by_cases hi25 : i19 = 44
            · subst hi25
              rw [if_pos rfl] at h
              have h9 := px_v0_some h
              clear h
              obtain ⟨rfl, h⟩ := h9
              refine e_l_M_take_28_34 K N y7 N (0 : Int32) s14 t15 _ hl23 _ _ ?_
              show px_E px_ET px_P 3 56 44 [none, some (.int y7), none] [] (px_w K s21 t22) _ _
              refine px_blk (i' := 45) (L' := [none, some (.int y7), none]) (S' := [.int y7]) (w' := px_w K s21 t22) (q := []) 1 hM rfl trivial ?_
              cases h
              exact px_E_ret hM rfl rfl rfl trivial
            · rw [if_neg hi25] at h
              cases h
          · cases h
            exact e_l_M_take_28_34 K N y7 N (0 : Int32) s14 t15 _ hl23 _ _ ⟨rfl, rfl⟩
        · cases h
      · cases h
    · rw [if_neg hi8] at h
      cases h
  · cases h
    exact e_l_M_take_28_2 K N N (42 : Int32) s t _ hl5 _ _ ⟨rfl, rfl⟩
noncomputable def f_M_giveBack_28 (K : px_K) (N : Nat) (a0 : Int32) (s : px_S) (t : px_W) : Option px_Res :=
  (px_bi (f_M_word_28 K N (29 : Int32) ((a0 - (42 : Int32)) / (32 : Int32)) s t) (fun v4 s1 t2 => (px_bv (f_M_tell_28 K N (29 : Int32) ((a0 - (42 : Int32)) / (32 : Int32)) (v4 &&& (((1 : Int32) <<< (((a0 - (42 : Int32)) - (a0 - (42 : Int32)) / (32 : Int32) * (32 : Int32)) &&& 31)) ^^^ (-1 : Int32))) s1 t2) (fun s6 t7 => (some (.inl none, s6, t7))) (fun x10 s6 t7 => none))) (fun x5 s1 t2 => none))
set_option maxRecDepth 100000 in
theorem e_M_giveBack_28 (K : px_K) (N : Nat) (a0 : Int32) (s : px_S) (t : px_W) (r : px_Res) (h : f_M_giveBack_28 K N a0 s t = some r) : px_E px_ET px_P 2 57 0 (px_ent 2 [.ref 28, .int a0]) [] (px_w K s t) r.1 (px_w K r.2.1 r.2.2) := by
  have hM : px_P[57]? = some pm_M_giveBack := rfl
  unfold f_M_giveBack_28 at h
  refine px_blk (i' := 12) (L' := [some (.ref 28), some (.int a0)]) (S' := [.int (a0 - (42 : Int32)), .int (29 : Int32), .ref 28, .int ((a0 - (42 : Int32)) / (32 : Int32)), .int (29 : Int32), .ref 28]) (w' := px_w K s t) (q := [¬ (32 : Int32) = 0]) 12 hM rfl (show ¬ (32 : Int32) = 0 from (by decide)) ?_
  refine px_blk (i' := 14) (L' := [some (.ref 28), some (.int a0)]) (S' := [.int ((a0 - (42 : Int32)) / (32 : Int32)), .int (29 : Int32), .ref 28, .int ((a0 - (42 : Int32)) / (32 : Int32)), .int (29 : Int32), .ref 28]) (w' := px_w K s t) (q := [¬ (32 : Int32) = 0]) 2 hM rfl (show ¬ (32 : Int32) = 0 from (by decide)) ?_
  rcases px_bi_some h with ⟨v4, s1, t2, hk3, h⟩ | ⟨x5, s1, t2, hk3, h⟩
  · refine px_E_call hM rfl rfl rfl rfl (px_E_mono (by decide) (e_M_word_28 K N (29 : Int32) ((a0 - (42 : Int32)) / (32 : Int32)) s t _ hk3)) ?_
    refine px_blk (i' := 25) (L' := [some (.ref 28), some (.int a0)]) (S' := [.int (v4 &&& (((1 : Int32) <<< (((a0 - (42 : Int32)) - (a0 - (42 : Int32)) / (32 : Int32) * (32 : Int32)) &&& 31)) ^^^ (-1 : Int32))), .int ((a0 - (42 : Int32)) / (32 : Int32)), .int (29 : Int32), .ref 28]) (w' := px_w K s1 t2) (q := [¬ (32 : Int32) = 0]) 10 hM rfl (show ¬ (32 : Int32) = 0 from (by decide)) ?_
    rcases px_bv_some h with ⟨s6, t7, hk8, h⟩ | ⟨x10, s6, t7, hk8, h⟩
    · refine px_E_call hM rfl rfl rfl rfl (px_E_mono (by decide) (e_M_tell_28 K N (29 : Int32) ((a0 - (42 : Int32)) / (32 : Int32)) (v4 &&& (((1 : Int32) <<< (((a0 - (42 : Int32)) - (a0 - (42 : Int32)) / (32 : Int32) * (32 : Int32)) &&& 31)) ^^^ (-1 : Int32))) s1 t2 _ hk8)) ?_
      cases h
      exact px_E_ret hM rfl rfl rfl trivial
    · cases h
  · cases h
noncomputable def f_M_blockOf_28 (K : px_K) (N : Nat) (a0 : Int32) (a1 : Int32) (s : px_S) (t : px_W) : Option px_Res :=
  (if (4 : Int32) ≤ a1 then (px_bi (f_M_ofInode_28 K N a0 (6 : Int32) s t) (fun v5 s2 t3 => (if ¬ v5 = 0 then (px_bi (f_M_word_28 K N v5 (a1 - (4 : Int32)) s2 t3) (fun v11 s8 t9 => (some (.inl (some (.int v11)), s8, t9))) (fun x12 s8 t9 => none)) else (some (.inl (some (.int (0 : Int32))), s2, t3)))) (fun x6 s2 t3 => none)) else (px_bi (f_M_ofInode_28 K N a0 ((2 : Int32) + a1) s t) (fun v16 s13 t14 => (some (.inl (some (.int v16)), s13, t14))) (fun x17 s13 t14 => none)))
set_option maxRecDepth 100000 in
theorem e_M_blockOf_28 (K : px_K) (N : Nat) (a0 : Int32) (a1 : Int32) (s : px_S) (t : px_W) (r : px_Res) (h : f_M_blockOf_28 K N a0 a1 s t = some r) : px_E px_ET px_P 3 58 0 (px_ent 4 [.ref 28, .int a0, .int a1]) [] (px_w K s t) r.1 (px_w K r.2.1 r.2.2) := by
  have hM : px_P[58]? = some pm_M_blockOf := rfl
  unfold f_M_blockOf_28 at h
  refine px_blkif (c := (4 : Int32) ≤ a1) (t := 10) (e := 3) (L' := [some (.ref 28), some (.int a0), some (.int a1), none]) (S' := []) (w' := px_w K s t) (q := []) 3 hM rfl trivial (fun hc1 => ?_) (fun hc1 => ?_)
  · rw [if_pos hc1] at h
    refine px_blk (i' := 13) (L' := [some (.ref 28), some (.int a0), some (.int a1), none]) (S' := [.int (6 : Int32), .int a0, .ref 28]) (w' := px_w K s t) (q := []) 3 hM rfl trivial ?_
    rcases px_bi_some h with ⟨v5, s2, t3, hk4, h⟩ | ⟨x6, s2, t3, hk4, h⟩
    · refine px_E_call hM rfl rfl rfl rfl (px_E_mono (by decide) (e_M_ofInode_28 K N a0 (6 : Int32) s t _ hk4)) ?_
      refine px_blkif (c := ¬ v5 = 0) (t := 19) (e := 17) (L' := [some (.ref 28), some (.int a0), some (.int a1), some (.int v5)]) (S' := []) (w' := px_w K s2 t3) (q := []) 3 hM rfl trivial (fun hc7 => ?_) (fun hc7 => ?_)
      · rw [if_pos hc7] at h
        refine px_blk (i' := 24) (L' := [some (.ref 28), some (.int a0), some (.int a1), some (.int v5)]) (S' := [.int (a1 - (4 : Int32)), .int v5, .ref 28]) (w' := px_w K s2 t3) (q := []) 5 hM rfl trivial ?_
        rcases px_bi_some h with ⟨v11, s8, t9, hk10, h⟩ | ⟨x12, s8, t9, hk10, h⟩
        · refine px_E_call hM rfl rfl rfl rfl (px_E_mono (by decide) (e_M_word_28 K N v5 (a1 - (4 : Int32)) s2 t3 _ hk10)) ?_
          cases h
          exact px_E_ret hM rfl rfl rfl trivial
        · cases h
      · rw [if_neg hc7] at h
        refine px_blk (i' := 25) (L' := [some (.ref 28), some (.int a0), some (.int a1), some (.int v5)]) (S' := [.int (0 : Int32)]) (w' := px_w K s2 t3) (q := []) 2 hM rfl trivial ?_
        cases h
        exact px_E_ret hM rfl rfl rfl trivial
    · cases h
  · rw [if_neg hc1] at h
    refine px_blk (i' := 8) (L' := [some (.ref 28), some (.int a0), some (.int a1), none]) (S' := [.int ((2 : Int32) + a1), .int a0, .ref 28]) (w' := px_w K s t) (q := []) 5 hM rfl trivial ?_
    rcases px_bi_some h with ⟨v16, s13, t14, hk15, h⟩ | ⟨x17, s13, t14, hk15, h⟩
    · refine px_E_call hM rfl rfl rfl rfl (px_E_mono (by decide) (e_M_ofInode_28 K N a0 ((2 : Int32) + a1) s t _ hk15)) ?_
      cases h
      exact px_E_ret hM rfl rfl rfl trivial
    · cases h
noncomputable def f_M_wants_28 (K : px_K) (N : Nat) (a0 : Int32) (a1 : Int32) (s : px_S) (t : px_W) : Option px_Res :=
  (if a1 < (4 : Int32) then (some (.inl (some (.int (1 : Int32))), s, t)) else (px_bi (f_M_ofInode_28 K N a0 (6 : Int32) s t) (fun v5 s2 t3 => (if ¬ v5 = 0 then (some (.inl (some (.int (1 : Int32))), s2, t3)) else (some (.inl (some (.int (2 : Int32))), s2, t3)))) (fun x6 s2 t3 => none)))
set_option maxRecDepth 100000 in
theorem e_M_wants_28 (K : px_K) (N : Nat) (a0 : Int32) (a1 : Int32) (s : px_S) (t : px_W) (r : px_Res) (h : f_M_wants_28 K N a0 a1 s t = some r) : px_E px_ET px_P 3 59 0 (px_ent 3 [.ref 28, .int a0, .int a1]) [] (px_w K s t) r.1 (px_w K r.2.1 r.2.2) := by
  have hM : px_P[59]? = some pm_M_wants := rfl
  unfold f_M_wants_28 at h
  refine px_blkif (c := a1 < (4 : Int32)) (t := 10) (e := 3) (L' := [some (.ref 28), some (.int a0), some (.int a1)]) (S' := []) (w' := px_w K s t) (q := []) 3 hM rfl trivial (fun hc1 => ?_) (fun hc1 => ?_)
  · rw [if_pos hc1] at h
    refine px_blk (i' := 11) (L' := [some (.ref 28), some (.int a0), some (.int a1)]) (S' := [.int (1 : Int32)]) (w' := px_w K s t) (q := []) 1 hM rfl trivial ?_
    cases h
    exact px_E_ret hM rfl rfl rfl trivial
  · rw [if_neg hc1] at h
    refine px_blk (i' := 6) (L' := [some (.ref 28), some (.int a0), some (.int a1)]) (S' := [.int (6 : Int32), .int a0, .ref 28]) (w' := px_w K s t) (q := []) 3 hM rfl trivial ?_
    rcases px_bi_some h with ⟨v5, s2, t3, hk4, h⟩ | ⟨x6, s2, t3, hk4, h⟩
    · refine px_E_call hM rfl rfl rfl rfl (px_E_mono (by decide) (e_M_ofInode_28 K N a0 (6 : Int32) s t _ hk4)) ?_
      refine px_blkif (c := ¬ v5 = 0) (t := 10) (e := 8) (L' := [some (.ref 28), some (.int a0), some (.int a1)]) (S' := []) (w' := px_w K s2 t3) (q := []) 1 hM rfl trivial (fun hc7 => ?_) (fun hc7 => ?_)
      · rw [if_pos hc7] at h
        refine px_blk (i' := 11) (L' := [some (.ref 28), some (.int a0), some (.int a1)]) (S' := [.int (1 : Int32)]) (w' := px_w K s2 t3) (q := []) 1 hM rfl trivial ?_
        cases h
        exact px_E_ret hM rfl rfl rfl trivial
      · rw [if_neg hc7] at h
        refine px_blk (i' := 11) (L' := [some (.ref 28), some (.int a0), some (.int a1)]) (S' := [.int (2 : Int32)]) (w' := px_w K s2 t3) (q := []) 2 hM rfl trivial ?_
        cases h
        exact px_E_ret hM rfl rfl rfl trivial
    · cases h
noncomputable def f_M_takeFor_28 (K : px_K) (N : Nat) (a0 : Int32) (a1 : Int32) (s : px_S) (t : px_W) : Option px_Res :=
  (px_bi (f_M_wants_28 K N a0 a1 s t) (fun v4 s1 t2 => (if ¬ v4 = (2 : Int32) then (px_bi (f_M_take_28 K N s1 t2) (fun v10 s7 t8 => (if (4 : Int32) ≤ a1 then (px_bi (f_M_ofInode_28 K N a0 (6 : Int32) s7 t8) (fun v16 s13 t14 => (px_bv (f_M_tell_28 K N v16 (a1 - (4 : Int32)) v10 s13 t14) (fun s18 t19 => (some (.inl (some (.int v10)), s18, t19))) (fun x22 s18 t19 => none))) (fun x17 s13 t14 => none)) else (px_bv (f_M_tellInode_28 K N a0 ((2 : Int32) + a1) v10 s7 t8) (fun s23 t24 => (some (.inl (some (.int v10)), s23, t24))) (fun x27 s23 t24 => none)))) (fun x11 s7 t8 => none)) else (px_bi (f_M_take_28 K N s1 t2) (fun v31 s28 t29 => (px_bv (f_M_tellInode_28 K N a0 (6 : Int32) v31 s28 t29) (fun s33 t34 => (px_bi (f_M_take_28 K N s33 t34) (fun v41 s38 t39 => (if (4 : Int32) ≤ a1 then (px_bi (f_M_ofInode_28 K N a0 (6 : Int32) s38 t39) (fun v47 s44 t45 => (px_bv (f_M_tell_28 K N v47 (a1 - (4 : Int32)) v41 s44 t45) (fun s49 t50 => (some (.inl (some (.int v41)), s49, t50))) (fun x53 s49 t50 => none))) (fun x48 s44 t45 => none)) else (px_bv (f_M_tellInode_28 K N a0 ((2 : Int32) + a1) v41 s38 t39) (fun s54 t55 => (some (.inl (some (.int v41)), s54, t55))) (fun x58 s54 t55 => none)))) (fun x42 s38 t39 => none))) (fun x37 s33 t34 => none))) (fun x32 s28 t29 => none)))) (fun x5 s1 t2 => none))
set_option maxRecDepth 100000 in
theorem e_M_takeFor_28 (K : px_K) (N : Nat) (a0 : Int32) (a1 : Int32) (s : px_S) (t : px_W) (r : px_Res) (h : f_M_takeFor_28 K N a0 a1 s t = some r) : px_E px_ET px_P 4 60 0 (px_ent 4 [.ref 28, .int a0, .int a1]) [] (px_w K s t) r.1 (px_w K r.2.1 r.2.2) := by
  have hM : px_P[60]? = some pm_M_takeFor := rfl
  unfold f_M_takeFor_28 at h
  refine px_blk (i' := 3) (L' := [some (.ref 28), some (.int a0), some (.int a1), none]) (S' := [.int a1, .int a0, .ref 28]) (w' := px_w K s t) (q := []) 3 hM rfl trivial ?_
  rcases px_bi_some h with ⟨v4, s1, t2, hk3, h⟩ | ⟨x5, s1, t2, hk3, h⟩
  · refine px_E_call hM rfl rfl rfl rfl (px_E_mono (by decide) (e_M_wants_28 K N a0 a1 s t _ hk3)) ?_
    refine px_blkif (c := ¬ v4 = (2 : Int32)) (t := 12) (e := 6) (L' := [some (.ref 28), some (.int a0), some (.int a1), none]) (S' := []) (w' := px_w K s1 t2) (q := []) 2 hM rfl trivial (fun hc6 => ?_) (fun hc6 => ?_)
    · rw [if_pos hc6] at h
      refine px_blk (i' := 13) (L' := [some (.ref 28), some (.int a0), some (.int a1), none]) (S' := [.ref 28]) (w' := px_w K s1 t2) (q := []) 1 hM rfl trivial ?_
      rcases px_bi_some h with ⟨v10, s7, t8, hk9, h⟩ | ⟨x11, s7, t8, hk9, h⟩
      · refine px_E_call hM rfl rfl rfl rfl (px_E_mono (by decide) (e_M_take_28 K N s1 t2 _ hk9)) ?_
        refine px_blkif (c := (4 : Int32) ≤ a1) (t := 26) (e := 18) (L' := [some (.ref 28), some (.int a0), some (.int a1), some (.int v10)]) (S' := []) (w' := px_w K s7 t8) (q := []) 4 hM rfl trivial (fun hc12 => ?_) (fun hc12 => ?_)
        · rw [if_pos hc12] at h
          refine px_blk (i' := 30) (L' := [some (.ref 28), some (.int a0), some (.int a1), some (.int v10)]) (S' := [.int (6 : Int32), .int a0, .ref 28, .ref 28]) (w' := px_w K s7 t8) (q := []) 4 hM rfl trivial ?_
          rcases px_bi_some h with ⟨v16, s13, t14, hk15, h⟩ | ⟨x17, s13, t14, hk15, h⟩
          · refine px_E_call hM rfl rfl rfl rfl (px_E_mono (by decide) (e_M_ofInode_28 K N a0 (6 : Int32) s7 t8 _ hk15)) ?_
            refine px_blk (i' := 35) (L' := [some (.ref 28), some (.int a0), some (.int a1), some (.int v10)]) (S' := [.int v10, .int (a1 - (4 : Int32)), .int v16, .ref 28]) (w' := px_w K s13 t14) (q := []) 4 hM rfl trivial ?_
            rcases px_bv_some h with ⟨s18, t19, hk20, h⟩ | ⟨x22, s18, t19, hk20, h⟩
            · refine px_E_call hM rfl rfl rfl rfl (px_E_mono (by decide) (e_M_tell_28 K N v16 (a1 - (4 : Int32)) v10 s13 t14 _ hk20)) ?_
              refine px_blk (i' := 37) (L' := [some (.ref 28), some (.int a0), some (.int a1), some (.int v10)]) (S' := [.int v10]) (w' := px_w K s18 t19) (q := []) 1 hM rfl trivial ?_
              cases h
              exact px_E_ret hM rfl rfl rfl trivial
            · cases h
          · cases h
        · rw [if_neg hc12] at h
          refine px_blk (i' := 24) (L' := [some (.ref 28), some (.int a0), some (.int a1), some (.int v10)]) (S' := [.int v10, .int ((2 : Int32) + a1), .int a0, .ref 28]) (w' := px_w K s7 t8) (q := []) 6 hM rfl trivial ?_
          rcases px_bv_some h with ⟨s23, t24, hk25, h⟩ | ⟨x27, s23, t24, hk25, h⟩
          · refine px_E_call hM rfl rfl rfl rfl (px_E_mono (by decide) (e_M_tellInode_28 K N a0 ((2 : Int32) + a1) v10 s7 t8 _ hk25)) ?_
            refine px_blk (i' := 37) (L' := [some (.ref 28), some (.int a0), some (.int a1), some (.int v10)]) (S' := [.int v10]) (w' := px_w K s23 t24) (q := []) 2 hM rfl trivial ?_
            cases h
            exact px_E_ret hM rfl rfl rfl trivial
          · cases h
      · cases h
    · rw [if_neg hc6] at h
      refine px_blk (i' := 10) (L' := [some (.ref 28), some (.int a0), some (.int a1), none]) (S' := [.ref 28, .int (6 : Int32), .int a0, .ref 28]) (w' := px_w K s1 t2) (q := []) 4 hM rfl trivial ?_
      rcases px_bi_some h with ⟨v31, s28, t29, hk30, h⟩ | ⟨x32, s28, t29, hk30, h⟩
      · refine px_E_call hM rfl rfl rfl rfl (px_E_mono (by decide) (e_M_take_28 K N s1 t2 _ hk30)) ?_
        rcases px_bv_some h with ⟨s33, t34, hk35, h⟩ | ⟨x37, s33, t34, hk35, h⟩
        · refine px_E_call hM rfl rfl rfl rfl (px_E_mono (by decide) (e_M_tellInode_28 K N a0 (6 : Int32) v31 s28 t29 _ hk35)) ?_
          refine px_blk (i' := 13) (L' := [some (.ref 28), some (.int a0), some (.int a1), none]) (S' := [.ref 28]) (w' := px_w K s33 t34) (q := []) 1 hM rfl trivial ?_
          rcases px_bi_some h with ⟨v41, s38, t39, hk40, h⟩ | ⟨x42, s38, t39, hk40, h⟩
          · refine px_E_call hM rfl rfl rfl rfl (px_E_mono (by decide) (e_M_take_28 K N s33 t34 _ hk40)) ?_
            refine px_blkif (c := (4 : Int32) ≤ a1) (t := 26) (e := 18) (L' := [some (.ref 28), some (.int a0), some (.int a1), some (.int v41)]) (S' := []) (w' := px_w K s38 t39) (q := []) 4 hM rfl trivial (fun hc43 => ?_) (fun hc43 => ?_)
            · rw [if_pos hc43] at h
              refine px_blk (i' := 30) (L' := [some (.ref 28), some (.int a0), some (.int a1), some (.int v41)]) (S' := [.int (6 : Int32), .int a0, .ref 28, .ref 28]) (w' := px_w K s38 t39) (q := []) 4 hM rfl trivial ?_
              rcases px_bi_some h with ⟨v47, s44, t45, hk46, h⟩ | ⟨x48, s44, t45, hk46, h⟩
              · refine px_E_call hM rfl rfl rfl rfl (px_E_mono (by decide) (e_M_ofInode_28 K N a0 (6 : Int32) s38 t39 _ hk46)) ?_
                refine px_blk (i' := 35) (L' := [some (.ref 28), some (.int a0), some (.int a1), some (.int v41)]) (S' := [.int v41, .int (a1 - (4 : Int32)), .int v47, .ref 28]) (w' := px_w K s44 t45) (q := []) 4 hM rfl trivial ?_
                rcases px_bv_some h with ⟨s49, t50, hk51, h⟩ | ⟨x53, s49, t50, hk51, h⟩
                · refine px_E_call hM rfl rfl rfl rfl (px_E_mono (by decide) (e_M_tell_28 K N v47 (a1 - (4 : Int32)) v41 s44 t45 _ hk51)) ?_
                  refine px_blk (i' := 37) (L' := [some (.ref 28), some (.int a0), some (.int a1), some (.int v41)]) (S' := [.int v41]) (w' := px_w K s49 t50) (q := []) 1 hM rfl trivial ?_
                  cases h
                  exact px_E_ret hM rfl rfl rfl trivial
                · cases h
              · cases h
            · rw [if_neg hc43] at h
              refine px_blk (i' := 24) (L' := [some (.ref 28), some (.int a0), some (.int a1), some (.int v41)]) (S' := [.int v41, .int ((2 : Int32) + a1), .int a0, .ref 28]) (w' := px_w K s38 t39) (q := []) 6 hM rfl trivial ?_
              rcases px_bv_some h with ⟨s54, t55, hk56, h⟩ | ⟨x58, s54, t55, hk56, h⟩
              · refine px_E_call hM rfl rfl rfl rfl (px_E_mono (by decide) (e_M_tellInode_28 K N a0 ((2 : Int32) + a1) v41 s38 t39 _ hk56)) ?_
                refine px_blk (i' := 37) (L' := [some (.ref 28), some (.int a0), some (.int a1), some (.int v41)]) (S' := [.int v41]) (w' := px_w K s54 t55) (q := []) 2 hM rfl trivial ?_
                cases h
                exact px_E_ret hM rfl rfl rfl trivial
              · cases h
          · cases h
        · cases h
      · cases h
  · cases h
noncomputable def f_M_nameAt_28 (K : px_K) (N : Nat) (a0 : Int32) (a1 : Int32) (s : px_S) (t : px_W) : Option px_Res :=
  (px_bi (f_M_blockOf_28 K N a0 (a1 / (8 : Int32)) s t) (fun v4 s1 t2 => (px_bi (f_M_word_28 K N v4 ((2 : Int32) * (a1 - a1 / (8 : Int32) * (8 : Int32))) s1 t2) (fun v9 s6 t7 => (some (.inl (some (.int v9)), s6, t7))) (fun x10 s6 t7 => none))) (fun x5 s1 t2 => none))
set_option maxRecDepth 100000 in
theorem e_M_nameAt_28 (K : px_K) (N : Nat) (a0 : Int32) (a1 : Int32) (s : px_S) (t : px_W) (r : px_Res) (h : f_M_nameAt_28 K N a0 a1 s t = some r) : px_E px_ET px_P 4 61 0 (px_ent 3 [.ref 28, .int a0, .int a1]) [] (px_w K s t) r.1 (px_w K r.2.1 r.2.2) := by
  have hM : px_P[61]? = some pm_M_nameAt := rfl
  unfold f_M_nameAt_28 at h
  refine px_blk (i' := 6) (L' := [some (.ref 28), some (.int a0), some (.int a1)]) (S' := [.int (a1 / (8 : Int32)), .int a0, .ref 28, .ref 28]) (w' := px_w K s t) (q := [¬ (8 : Int32) = 0]) 6 hM rfl (show ¬ (8 : Int32) = 0 from (by decide)) ?_
  rcases px_bi_some h with ⟨v4, s1, t2, hk3, h⟩ | ⟨x5, s1, t2, hk3, h⟩
  · refine px_E_call hM rfl rfl rfl rfl (px_E_mono (by decide) (e_M_blockOf_28 K N a0 (a1 / (8 : Int32)) s t _ hk3)) ?_
    refine px_blk (i' := 12) (L' := [some (.ref 28), some (.int a0), some (.int a1)]) (S' := [.int ((2 : Int32) * (a1 - a1 / (8 : Int32) * (8 : Int32))), .int v4, .ref 28]) (w' := px_w K s1 t2) (q := [¬ (8 : Int32) = 0]) 5 hM rfl (show ¬ (8 : Int32) = 0 from (by decide)) ?_
    rcases px_bi_some h with ⟨v9, s6, t7, hk8, h⟩ | ⟨x10, s6, t7, hk8, h⟩
    · refine px_E_call hM rfl rfl rfl rfl (px_E_mono (by decide) (e_M_word_28 K N v4 ((2 : Int32) * (a1 - a1 / (8 : Int32) * (8 : Int32))) s1 t2 _ hk8)) ?_
      cases h
      exact px_E_ret hM rfl rfl rfl trivial
    · cases h
  · cases h
noncomputable def f_M_inodeAt_28 (K : px_K) (N : Nat) (a0 : Int32) (a1 : Int32) (s : px_S) (t : px_W) : Option px_Res :=
  (px_bi (f_M_blockOf_28 K N a0 (a1 / (8 : Int32)) s t) (fun v4 s1 t2 => (px_bi (f_M_word_28 K N v4 (((2 : Int32) * (a1 - a1 / (8 : Int32) * (8 : Int32))) + (1 : Int32)) s1 t2) (fun v9 s6 t7 => (some (.inl (some (.int v9)), s6, t7))) (fun x10 s6 t7 => none))) (fun x5 s1 t2 => none))
set_option maxRecDepth 100000 in
theorem e_M_inodeAt_28 (K : px_K) (N : Nat) (a0 : Int32) (a1 : Int32) (s : px_S) (t : px_W) (r : px_Res) (h : f_M_inodeAt_28 K N a0 a1 s t = some r) : px_E px_ET px_P 4 62 0 (px_ent 3 [.ref 28, .int a0, .int a1]) [] (px_w K s t) r.1 (px_w K r.2.1 r.2.2) := by
  have hM : px_P[62]? = some pm_M_inodeAt := rfl
  unfold f_M_inodeAt_28 at h
  refine px_blk (i' := 6) (L' := [some (.ref 28), some (.int a0), some (.int a1)]) (S' := [.int (a1 / (8 : Int32)), .int a0, .ref 28, .ref 28]) (w' := px_w K s t) (q := [¬ (8 : Int32) = 0]) 6 hM rfl (show ¬ (8 : Int32) = 0 from (by decide)) ?_
  rcases px_bi_some h with ⟨v4, s1, t2, hk3, h⟩ | ⟨x5, s1, t2, hk3, h⟩
  · refine px_E_call hM rfl rfl rfl rfl (px_E_mono (by decide) (e_M_blockOf_28 K N a0 (a1 / (8 : Int32)) s t _ hk3)) ?_
    refine px_blk (i' := 14) (L' := [some (.ref 28), some (.int a0), some (.int a1)]) (S' := [.int (((2 : Int32) * (a1 - a1 / (8 : Int32) * (8 : Int32))) + (1 : Int32)), .int v4, .ref 28]) (w' := px_w K s1 t2) (q := [¬ (8 : Int32) = 0]) 7 hM rfl (show ¬ (8 : Int32) = 0 from (by decide)) ?_
    rcases px_bi_some h with ⟨v9, s6, t7, hk8, h⟩ | ⟨x10, s6, t7, hk8, h⟩
    · refine px_E_call hM rfl rfl rfl rfl (px_E_mono (by decide) (e_M_word_28 K N v4 (((2 : Int32) * (a1 - a1 / (8 : Int32) * (8 : Int32))) + (1 : Int32)) s1 t2 _ hk8)) ?_
      cases h
      exact px_E_ret hM rfl rfl rfl trivial
    · cases h
  · cases h
noncomputable def l_M_placeOf_28_7 (K : px_K) (N : Nat) (n : Nat) (u1 : Int32) (u2 : Int32) (m3 : Int32) (s : px_S) (t : px_W) : Option px_LO := match n with
  | 0 => none
  | n + 1 => (if m3 < 0 then (some (.inl (17, [m3], s, t))) else (px_bi (f_M_nameAt_28 K N u1 m3 s t) (fun v5 s2 t3 => (if v5 = u2 then (some (.inl (17, [m3], s2, t3))) else (px_let (m3 + (-1 : Int32)) (fun v8 => (l_M_placeOf_28_7 K N n u1 u2 v8 s2 t3))))) (fun x6 s2 t3 => none)))
def a_l_M_placeOf_28_7 (K : px_K) (u1 : Int32) (u2 : Int32) (z : px_LO) (o : Option Value ⊕ Nat) (w2 : px_W) : Prop := match z with
  | .inr (o', s', t') => o = o' ∧ w2 = px_w K s' t'
  | .inl (17, [y3], s', t') => px_E px_ET px_P 5 63 17 [none, none, some (.int u2), some (.int y3)] [] (px_w K s' t') o w2
  | _ => False
set_option maxRecDepth 100000 in
theorem e_l_M_placeOf_28_7 (K : px_K) (N : Nat) (u1 : Int32) (u2 : Int32) : ∀ (n : Nat) (m3 : Int32) (s : px_S) (t : px_W) (z : px_LO), l_M_placeOf_28_7 K N n u1 u2 m3 s t = some z → ∀ (o : Option Value ⊕ Nat) (w2 : px_W), a_l_M_placeOf_28_7 K u1 u2 z o w2 → px_E px_ET px_P 5 63 7 [some (.ref 28), some (.int u1), some (.int u2), some (.int m3)] [] (px_w K s t) o w2 := by
  have hM : px_P[63]? = some pm_M_placeOf := rfl
  intro n
  induction n with
  | zero => intro m3 s t z h; cases h
  | succ n ih =>
    intro m3 s t z h o w2 ha
    unfold l_M_placeOf_28_7 at h
    refine px_blkif (c := m3 < 0) (t := 17) (e := 9) (L' := [some (.ref 28), some (.int u1), some (.int u2), some (.int m3)]) (S' := []) (w' := px_w K s t) (q := []) 2 hM rfl trivial (fun hc1 => ?_) (fun hc1 => ?_)
    · rw [if_pos hc1] at h
      cases h
      exact px_E_le (px_leC_L _ _ (by simp [px_leC, px_le1, Value.category])) ha
    · rw [if_neg hc1] at h
      refine px_blk (i' := 12) (L' := [some (.ref 28), some (.int u1), some (.int u2), some (.int m3)]) (S' := [.int m3, .int u1, .ref 28]) (w' := px_w K s t) (q := []) 3 hM rfl trivial ?_
      rcases px_bi_some h with ⟨v5, s2, t3, hk4, h⟩ | ⟨x6, s2, t3, hk4, h⟩
      · refine px_E_call hM rfl rfl rfl rfl (px_E_mono (by decide) (e_M_nameAt_28 K N u1 m3 s t _ hk4)) ?_
        refine px_blkif (c := v5 = u2) (t := 17) (e := 15) (L' := [some (.ref 28), some (.int u1), some (.int u2), some (.int m3)]) (S' := []) (w' := px_w K s2 t3) (q := []) 2 hM rfl trivial (fun hc7 => ?_) (fun hc7 => ?_)
        · rw [if_pos hc7] at h
          cases h
          exact px_E_le (px_leC_L _ _ (by simp [px_leC, px_le1, Value.category])) ha
        · rw [if_neg hc7] at h
          refine px_blk (i' := 16) (L' := [some (.ref 28), some (.int u1), some (.int u2), some (.int (m3 + (-1 : Int32)))]) (S' := []) (w' := px_w K s2 t3) (q := []) 1 hM rfl trivial ?_
          obtain ⟨v8, hv9, h⟩ := px_let_some h
          rw [← hv9]
          refine px_blk (i' := 7) (L' := [some (.ref 28), some (.int u1), some (.int u2), some (.int v8)]) (S' := []) (w' := px_w K s2 t3) (q := []) 1 hM rfl trivial ?_
          exact ih v8 s2 t3 z h o w2 ha
      · cases h
noncomputable def f_M_placeOf_28 (K : px_K) (N : Nat) (a0 : Int32) (a1 : Int32) (s : px_S) (t : px_W) : Option px_Res :=
  (px_bi (f_M_ofInode_28 K N a0 (1 : Int32) s t) (fun v4 s1 t2 => (px_lp (l_M_placeOf_28_7 K N N a0 a1 (v4 - (1 : Int32)) s1 t2) (fun i6 vs7 s8 t9 => (if i6 = 17 then (px_v1 vs7 (fun y12 => (if (1 : Int32) ≤ a1 then (some (.inl (some (.int y12)), s8, t9)) else (some (.inl (some (.int (-1 : Int32))), s8, t9))))) else none)) (fun z11 => some z11))) (fun x5 s1 t2 => none))
set_option maxRecDepth 100000 in
theorem e_M_placeOf_28 (K : px_K) (N : Nat) (a0 : Int32) (a1 : Int32) (s : px_S) (t : px_W) (r : px_Res) (h : f_M_placeOf_28 K N a0 a1 s t = some r) : px_E px_ET px_P 5 63 0 (px_ent 4 [.ref 28, .int a0, .int a1]) [] (px_w K s t) r.1 (px_w K r.2.1 r.2.2) := by
  have hM : px_P[63]? = some pm_M_placeOf := rfl
  unfold f_M_placeOf_28 at h
  refine px_blk (i' := 3) (L' := [some (.ref 28), some (.int a0), some (.int a1), none]) (S' := [.int (1 : Int32), .int a0, .ref 28]) (w' := px_w K s t) (q := []) 3 hM rfl trivial ?_
  rcases px_bi_some h with ⟨v4, s1, t2, hk3, h⟩ | ⟨x5, s1, t2, hk3, h⟩
  · refine px_E_call hM rfl rfl rfl rfl (px_E_mono (by decide) (e_M_ofInode_28 K N a0 (1 : Int32) s t _ hk3)) ?_
    refine px_blk (i' := 7) (L' := [some (.ref 28), some (.int a0), some (.int a1), some (.int (v4 - (1 : Int32)))]) (S' := []) (w' := px_w K s1 t2) (q := []) 3 hM rfl trivial ?_
    rcases px_lp_some h with ⟨i6, vs7, s8, t9, hl10, h⟩ | ⟨z11, hl10, h⟩
    · by_cases hi13 : i6 = 17
      · subst hi13
        rw [if_pos rfl] at h
        have h9 := px_v1_some h
        clear h
        obtain ⟨y12, rfl, h⟩ := h9
        refine e_l_M_placeOf_28_7 K N a0 a1 N (v4 - (1 : Int32)) s1 t2 _ hl10 _ _ ?_
        show px_E px_ET px_P 5 63 17 [none, none, some (.int a1), some (.int y12)] [] (px_w K s8 t9) _ _
        refine px_blkif (c := (1 : Int32) ≤ a1) (t := 22) (e := 20) (L' := [none, none, some (.int a1), some (.int y12)]) (S' := []) (w' := px_w K s8 t9) (q := []) 3 hM rfl trivial (fun hc14 => ?_) (fun hc14 => ?_)
        · rw [if_pos hc14] at h
          refine px_blk (i' := 23) (L' := [none, none, some (.int a1), some (.int y12)]) (S' := [.int y12]) (w' := px_w K s8 t9) (q := []) 1 hM rfl trivial ?_
          cases h
          exact px_E_ret hM rfl rfl rfl trivial
        · rw [if_neg hc14] at h
          refine px_blk (i' := 23) (L' := [none, none, some (.int a1), some (.int y12)]) (S' := [.int (-1 : Int32)]) (w' := px_w K s8 t9) (q := []) 2 hM rfl trivial ?_
          cases h
          exact px_E_ret hM rfl rfl rfl trivial
      · rw [if_neg hi13] at h
        cases h
    · cases h
      exact e_l_M_placeOf_28_7 K N a0 a1 N (v4 - (1 : Int32)) s1 t2 _ hl10 _ _ ⟨rfl, rfl⟩
  · cases h
noncomputable def l_M_freePlace_28_2 (K : px_K) (N : Nat) (n : Nat) (u1 : Int32) (m2 : Int32) (s : px_S) (t : px_W) : Option px_LO := match n with
  | 0 => none
  | n + 1 => (px_bi (f_M_ofInode_28 K N u1 (1 : Int32) s t) (fun v4 s1 t2 => (if v4 ≤ m2 then (some (.inl (15, [m2], s1, t2))) else (px_bi (f_M_nameAt_28 K N u1 m2 s1 t2) (fun v10 s7 t8 => (if v10 = 0 then (some (.inl (15, [m2], s7, t8))) else (l_M_freePlace_28_2 K N n u1 (m2 + (1 : Int32)) s7 t8))) (fun x11 s7 t8 => none)))) (fun x5 s1 t2 => none))
def a_l_M_freePlace_28_2 (K : px_K) (u1 : Int32) (z : px_LO) (o : Option Value ⊕ Nat) (w2 : px_W) : Prop := match z with
  | .inr (o', s', t') => o = o' ∧ w2 = px_w K s' t'
  | .inl (15, [y2], s', t') => px_E px_ET px_P 5 64 15 [none, none, some (.int y2)] [] (px_w K s' t') o w2
  | _ => False
set_option maxRecDepth 100000 in
theorem e_l_M_freePlace_28_2 (K : px_K) (N : Nat) (u1 : Int32) : ∀ (n : Nat) (m2 : Int32) (s : px_S) (t : px_W) (z : px_LO), l_M_freePlace_28_2 K N n u1 m2 s t = some z → ∀ (o : Option Value ⊕ Nat) (w2 : px_W), a_l_M_freePlace_28_2 K u1 z o w2 → px_E px_ET px_P 5 64 2 [some (.ref 28), some (.int u1), some (.int m2)] [] (px_w K s t) o w2 := by
  have hM : px_P[64]? = some pm_M_freePlace := rfl
  intro n
  induction n with
  | zero => intro m2 s t z h; cases h
  | succ n ih =>
    intro m2 s t z h o w2 ha
    unfold l_M_freePlace_28_2 at h
    refine px_blk (i' := 6) (L' := [some (.ref 28), some (.int u1), some (.int m2)]) (S' := [.int (1 : Int32), .int u1, .ref 28, .int m2]) (w' := px_w K s t) (q := []) 4 hM rfl trivial ?_
    rcases px_bi_some h with ⟨v4, s1, t2, hk3, h⟩ | ⟨x5, s1, t2, hk3, h⟩
    · refine px_E_call hM rfl rfl rfl rfl (px_E_mono (by decide) (e_M_ofInode_28 K N u1 (1 : Int32) s t _ hk3)) ?_
      refine px_blkif (c := v4 ≤ m2) (t := 15) (e := 8) (L' := [some (.ref 28), some (.int u1), some (.int m2)]) (S' := []) (w' := px_w K s1 t2) (q := []) 1 hM rfl trivial (fun hc6 => ?_) (fun hc6 => ?_)
      · rw [if_pos hc6] at h
        cases h
        exact px_E_le (px_leC_L _ _ (by simp [px_leC, px_le1, Value.category])) ha
      · rw [if_neg hc6] at h
        refine px_blk (i' := 11) (L' := [some (.ref 28), some (.int u1), some (.int m2)]) (S' := [.int m2, .int u1, .ref 28]) (w' := px_w K s1 t2) (q := []) 3 hM rfl trivial ?_
        rcases px_bi_some h with ⟨v10, s7, t8, hk9, h⟩ | ⟨x11, s7, t8, hk9, h⟩
        · refine px_E_call hM rfl rfl rfl rfl (px_E_mono (by decide) (e_M_nameAt_28 K N u1 m2 s1 t2 _ hk9)) ?_
          refine px_blkif (c := v10 = 0) (t := 15) (e := 13) (L' := [some (.ref 28), some (.int u1), some (.int m2)]) (S' := []) (w' := px_w K s7 t8) (q := []) 1 hM rfl trivial (fun hc12 => ?_) (fun hc12 => ?_)
          · rw [if_pos hc12] at h
            cases h
            exact px_E_le (px_leC_L _ _ (by simp [px_leC, px_le1, Value.category])) ha
          · rw [if_neg hc12] at h
            refine px_blk (i' := 2) (L' := [some (.ref 28), some (.int u1), some (.int (m2 + (1 : Int32)))]) (S' := []) (w' := px_w K s7 t8) (q := []) 2 hM rfl trivial ?_
            exact ih (m2 + (1 : Int32)) s7 t8 z h o w2 ha
        · cases h
    · cases h
noncomputable def f_M_freePlace_28 (K : px_K) (N : Nat) (a0 : Int32) (s : px_S) (t : px_W) : Option px_Res :=
  (px_lp (l_M_freePlace_28_2 K N N a0 (0 : Int32) s t) (fun i1 vs2 s3 t4 => (if i1 = 15 then (px_v1 vs2 (fun y7 => (some (.inl (some (.int y7)), s3, t4)))) else none)) (fun z6 => some z6))
set_option maxRecDepth 100000 in
theorem e_M_freePlace_28 (K : px_K) (N : Nat) (a0 : Int32) (s : px_S) (t : px_W) (r : px_Res) (h : f_M_freePlace_28 K N a0 s t = some r) : px_E px_ET px_P 5 64 0 (px_ent 3 [.ref 28, .int a0]) [] (px_w K s t) r.1 (px_w K r.2.1 r.2.2) := by
  have hM : px_P[64]? = some pm_M_freePlace := rfl
  unfold f_M_freePlace_28 at h
  refine px_blk (i' := 2) (L' := [some (.ref 28), some (.int a0), some (.int (0 : Int32))]) (S' := []) (w' := px_w K s t) (q := []) 2 hM rfl trivial ?_
  rcases px_lp_some h with ⟨i1, vs2, s3, t4, hl5, h⟩ | ⟨z6, hl5, h⟩
  · by_cases hi8 : i1 = 15
    · subst hi8
      rw [if_pos rfl] at h
      have h9 := px_v1_some h
      clear h
      obtain ⟨y7, rfl, h⟩ := h9
      refine e_l_M_freePlace_28_2 K N a0 N (0 : Int32) s t _ hl5 _ _ ?_
      show px_E px_ET px_P 5 64 15 [none, none, some (.int y7)] [] (px_w K s3 t4) _ _
      refine px_blk (i' := 16) (L' := [none, none, some (.int y7)]) (S' := [.int y7]) (w' := px_w K s3 t4) (q := []) 1 hM rfl trivial ?_
      cases h
      exact px_E_ret hM rfl rfl rfl trivial
    · rw [if_neg hi8] at h
      cases h
  · cases h
    exact e_l_M_freePlace_28_2 K N a0 N (0 : Int32) s t _ hl5 _ _ ⟨rfl, rfl⟩
noncomputable def f_M_hasRoom_28 (K : px_K) (N : Nat) (a0 : Int32) (s : px_S) (t : px_W) : Option px_Res :=
  (px_bi (f_M_freePlace_28 K N a0 s t) (fun v4 s1 t2 => (px_bi (f_M_ofInode_28 K N a0 (1 : Int32) s1 t2) (fun v9 s6 t7 => (if v4 < v9 then (some (.inl (some (.int (1 : Int32))), s6, t7)) else (if (160 : Int32) ≤ v4 then (some (.inl (some (.int (0 : Int32))), s6, t7)) else (px_bi (f_M_wants_28 K N a0 (v4 / (8 : Int32)) s6 t7) (fun v16 s13 t14 => (px_bi (f_M_left_28 K N s13 t14) (fun v21 s18 t19 => (if v21 < v16 then (some (.inl (some (.int (0 : Int32))), s18, t19)) else (some (.inl (some (.int (1 : Int32))), s18, t19)))) (fun x22 s18 t19 => none))) (fun x17 s13 t14 => none))))) (fun x10 s6 t7 => none))) (fun x5 s1 t2 => none))
set_option maxRecDepth 100000 in
theorem e_M_hasRoom_28 (K : px_K) (N : Nat) (a0 : Int32) (s : px_S) (t : px_W) (r : px_Res) (h : f_M_hasRoom_28 K N a0 s t = some r) : px_E px_ET px_P 6 65 0 (px_ent 3 [.ref 28, .int a0]) [] (px_w K s t) r.1 (px_w K r.2.1 r.2.2) := by
  have hM : px_P[65]? = some pm_M_hasRoom := rfl
  unfold f_M_hasRoom_28 at h
  refine px_blk (i' := 2) (L' := [some (.ref 28), some (.int a0), none]) (S' := [.int a0, .ref 28]) (w' := px_w K s t) (q := []) 2 hM rfl trivial ?_
  rcases px_bi_some h with ⟨v4, s1, t2, hk3, h⟩ | ⟨x5, s1, t2, hk3, h⟩
  · refine px_E_call hM rfl rfl rfl rfl (px_E_mono (by decide) (e_M_freePlace_28 K N a0 s t _ hk3)) ?_
    refine px_blk (i' := 8) (L' := [some (.ref 28), some (.int a0), some (.int v4)]) (S' := [.int (1 : Int32), .int a0, .ref 28, .int v4]) (w' := px_w K s1 t2) (q := []) 5 hM rfl trivial ?_
    rcases px_bi_some h with ⟨v9, s6, t7, hk8, h⟩ | ⟨x10, s6, t7, hk8, h⟩
    · refine px_E_call hM rfl rfl rfl rfl (px_E_mono (by decide) (e_M_ofInode_28 K N a0 (1 : Int32) s1 t2 _ hk8)) ?_
      refine px_blkif (c := v4 < v9) (t := 22) (e := 10) (L' := [some (.ref 28), some (.int a0), some (.int v4)]) (S' := []) (w' := px_w K s6 t7) (q := []) 1 hM rfl trivial (fun hc11 => ?_) (fun hc11 => ?_)
      · rw [if_pos hc11] at h
        refine px_blk (i' := 25) (L' := [some (.ref 28), some (.int a0), some (.int v4)]) (S' := [.int (1 : Int32)]) (w' := px_w K s6 t7) (q := []) 2 hM rfl trivial ?_
        cases h
        exact px_E_ret hM rfl rfl rfl (show (1 : Int32) = 0 ∨ (1 : Int32) = 1 from Or.inr rfl)
      · rw [if_neg hc11] at h
        refine px_blkif (c := (160 : Int32) ≤ v4) (t := 24) (e := 13) (L' := [some (.ref 28), some (.int a0), some (.int v4)]) (S' := []) (w' := px_w K s6 t7) (q := []) 3 hM rfl trivial (fun hc12 => ?_) (fun hc12 => ?_)
        · rw [if_pos hc12] at h
          refine px_blk (i' := 25) (L' := [some (.ref 28), some (.int a0), some (.int v4)]) (S' := [.int (0 : Int32)]) (w' := px_w K s6 t7) (q := []) 1 hM rfl trivial ?_
          cases h
          exact px_E_ret hM rfl rfl rfl (show (0 : Int32) = 0 ∨ (0 : Int32) = 1 from Or.inl rfl)
        · rw [if_neg hc12] at h
          refine px_blk (i' := 18) (L' := [some (.ref 28), some (.int a0), some (.int v4)]) (S' := [.int (v4 / (8 : Int32)), .int a0, .ref 28]) (w' := px_w K s6 t7) (q := [¬ (8 : Int32) = 0]) 5 hM rfl (show ¬ (8 : Int32) = 0 from (by decide)) ?_
          rcases px_bi_some h with ⟨v16, s13, t14, hk15, h⟩ | ⟨x17, s13, t14, hk15, h⟩
          · refine px_E_call hM rfl rfl rfl rfl (px_E_mono (by decide) (e_M_wants_28 K N a0 (v4 / (8 : Int32)) s6 t7 _ hk15)) ?_
            refine px_blk (i' := 20) (L' := [some (.ref 28), some (.int a0), some (.int v4)]) (S' := [.ref 28, .int v16]) (w' := px_w K s13 t14) (q := []) 1 hM rfl trivial ?_
            rcases px_bi_some h with ⟨v21, s18, t19, hk20, h⟩ | ⟨x22, s18, t19, hk20, h⟩
            · refine px_E_call hM rfl rfl rfl rfl (px_E_mono (by decide) (e_M_left_28 K N s13 t14 _ hk20)) ?_
              refine px_blkif (c := v21 < v16) (t := 24) (e := 22) (L' := [some (.ref 28), some (.int a0), some (.int v4)]) (S' := []) (w' := px_w K s18 t19) (q := []) 1 hM rfl trivial (fun hc23 => ?_) (fun hc23 => ?_)
              · rw [if_pos hc23] at h
                refine px_blk (i' := 25) (L' := [some (.ref 28), some (.int a0), some (.int v4)]) (S' := [.int (0 : Int32)]) (w' := px_w K s18 t19) (q := []) 1 hM rfl trivial ?_
                cases h
                exact px_E_ret hM rfl rfl rfl (show (0 : Int32) = 0 ∨ (0 : Int32) = 1 from Or.inl rfl)
              · rw [if_neg hc23] at h
                refine px_blk (i' := 25) (L' := [some (.ref 28), some (.int a0), some (.int v4)]) (S' := [.int (1 : Int32)]) (w' := px_w K s18 t19) (q := []) 2 hM rfl trivial ?_
                cases h
                exact px_E_ret hM rfl rfl rfl (show (1 : Int32) = 0 ∨ (1 : Int32) = 1 from Or.inr rfl)
            · cases h
          · cases h
    · cases h
  · cases h
noncomputable def f_M_enter_28 (K : px_K) (N : Nat) (a0 : Int32) (a1 : Int32) (a2 : Int32) (s : px_S) (t : px_W) : Option px_Res :=
  (px_bi (f_M_freePlace_28 K N a0 s t) (fun v4 s1 t2 => (px_bi (f_M_ofInode_28 K N a0 (1 : Int32) s1 t2) (fun v9 s6 t7 => (if ¬ v4 = v9 then (px_bi (f_M_blockOf_28 K N a0 (v4 / (8 : Int32)) s6 t7) (fun v15 s12 t13 => (px_bv (f_M_tell_28 K N v15 ((2 : Int32) * (v4 - v4 / (8 : Int32) * (8 : Int32))) a1 s12 t13) (fun s17 t18 => (px_bi (f_M_blockOf_28 K N a0 (v4 / (8 : Int32)) s17 t18) (fun v25 s22 t23 => (px_bv (f_M_tell_28 K N v25 (((2 : Int32) * (v4 - v4 / (8 : Int32) * (8 : Int32))) + (1 : Int32)) a2 s22 t23) (fun s27 t28 => (some (.inl none, s27, t28))) (fun x31 s27 t28 => none))) (fun x26 s22 t23 => none))) (fun x21 s17 t18 => none))) (fun x16 s12 t13 => none)) else (px_bi (f_M_takeFor_28 K N a0 (v4 / (8 : Int32)) s6 t7) (fun v35 s32 t33 => (px_bv (f_M_tellInode_28 K N a0 (1 : Int32) (v4 + (8 : Int32)) s32 t33) (fun s37 t38 => (px_bi (f_M_blockOf_28 K N a0 (v4 / (8 : Int32)) s37 t38) (fun v45 s42 t43 => (px_bv (f_M_tell_28 K N v45 ((2 : Int32) * (v4 - v4 / (8 : Int32) * (8 : Int32))) a1 s42 t43) (fun s47 t48 => (px_bi (f_M_blockOf_28 K N a0 (v4 / (8 : Int32)) s47 t48) (fun v55 s52 t53 => (px_bv (f_M_tell_28 K N v55 (((2 : Int32) * (v4 - v4 / (8 : Int32) * (8 : Int32))) + (1 : Int32)) a2 s52 t53) (fun s57 t58 => (some (.inl none, s57, t58))) (fun x61 s57 t58 => none))) (fun x56 s52 t53 => none))) (fun x51 s47 t48 => none))) (fun x46 s42 t43 => none))) (fun x41 s37 t38 => none))) (fun x36 s32 t33 => none)))) (fun x10 s6 t7 => none))) (fun x5 s1 t2 => none))
set_option maxRecDepth 100000 in
theorem e_M_enter_28 (K : px_K) (N : Nat) (a0 : Int32) (a1 : Int32) (a2 : Int32) (s : px_S) (t : px_W) (r : px_Res) (h : f_M_enter_28 K N a0 a1 a2 s t = some r) : px_E px_ET px_P 6 66 0 (px_ent 6 [.ref 28, .int a0, .int a1, .int a2]) [] (px_w K s t) r.1 (px_w K r.2.1 r.2.2) := by
  have hM : px_P[66]? = some pm_M_enter := rfl
  unfold f_M_enter_28 at h
  refine px_blk (i' := 2) (L' := [some (.ref 28), some (.int a0), some (.int a1), some (.int a2), none, none]) (S' := [.int a0, .ref 28]) (w' := px_w K s t) (q := []) 2 hM rfl trivial ?_
  rcases px_bi_some h with ⟨v4, s1, t2, hk3, h⟩ | ⟨x5, s1, t2, hk3, h⟩
  · refine px_E_call hM rfl rfl rfl rfl (px_E_mono (by decide) (e_M_freePlace_28 K N a0 s t _ hk3)) ?_
    refine px_blk (i' := 8) (L' := [some (.ref 28), some (.int a0), some (.int a1), some (.int a2), some (.int v4), none]) (S' := [.int (1 : Int32), .int a0, .ref 28, .int v4]) (w' := px_w K s1 t2) (q := []) 5 hM rfl trivial ?_
    rcases px_bi_some h with ⟨v9, s6, t7, hk8, h⟩ | ⟨x10, s6, t7, hk8, h⟩
    · refine px_E_call hM rfl rfl rfl rfl (px_E_mono (by decide) (e_M_ofInode_28 K N a0 (1 : Int32) s1 t2 _ hk8)) ?_
      refine px_blkif (c := ¬ v4 = v9) (t := 24) (e := 10) (L' := [some (.ref 28), some (.int a0), some (.int a1), some (.int a2), some (.int v4), none]) (S' := []) (w' := px_w K s6 t7) (q := []) 1 hM rfl trivial (fun hc11 => ?_) (fun hc11 => ?_)
      · rw [if_pos hc11] at h
        refine px_blk (i' := 30) (L' := [some (.ref 28), some (.int a0), some (.int a1), some (.int a2), some (.int v4), none]) (S' := [.int (v4 / (8 : Int32)), .int a0, .ref 28, .ref 28]) (w' := px_w K s6 t7) (q := [¬ (8 : Int32) = 0]) 6 hM rfl (show ¬ (8 : Int32) = 0 from (by decide)) ?_
        rcases px_bi_some h with ⟨v15, s12, t13, hk14, h⟩ | ⟨x16, s12, t13, hk14, h⟩
        · refine px_E_call hM rfl rfl rfl rfl (px_E_mono (by decide) (e_M_blockOf_28 K N a0 (v4 / (8 : Int32)) s6 t7 _ hk14)) ?_
          refine px_blk (i' := 37) (L' := [some (.ref 28), some (.int a0), some (.int a1), some (.int a2), some (.int v4), none]) (S' := [.int a1, .int ((2 : Int32) * (v4 - v4 / (8 : Int32) * (8 : Int32))), .int v15, .ref 28]) (w' := px_w K s12 t13) (q := [¬ (8 : Int32) = 0]) 6 hM rfl (show ¬ (8 : Int32) = 0 from (by decide)) ?_
          rcases px_bv_some h with ⟨s17, t18, hk19, h⟩ | ⟨x21, s17, t18, hk19, h⟩
          · refine px_E_call hM rfl rfl rfl rfl (px_E_mono (by decide) (e_M_tell_28 K N v15 ((2 : Int32) * (v4 - v4 / (8 : Int32) * (8 : Int32))) a1 s12 t13 _ hk19)) ?_
            refine px_blk (i' := 44) (L' := [some (.ref 28), some (.int a0), some (.int a1), some (.int a2), some (.int v4), none]) (S' := [.int (v4 / (8 : Int32)), .int a0, .ref 28, .ref 28]) (w' := px_w K s17 t18) (q := [¬ (8 : Int32) = 0]) 6 hM rfl (show ¬ (8 : Int32) = 0 from (by decide)) ?_
            rcases px_bi_some h with ⟨v25, s22, t23, hk24, h⟩ | ⟨x26, s22, t23, hk24, h⟩
            · refine px_E_call hM rfl rfl rfl rfl (px_E_mono (by decide) (e_M_blockOf_28 K N a0 (v4 / (8 : Int32)) s17 t18 _ hk24)) ?_
              refine px_blk (i' := 53) (L' := [some (.ref 28), some (.int a0), some (.int a1), some (.int a2), some (.int v4), none]) (S' := [.int a2, .int (((2 : Int32) * (v4 - v4 / (8 : Int32) * (8 : Int32))) + (1 : Int32)), .int v25, .ref 28]) (w' := px_w K s22 t23) (q := [¬ (8 : Int32) = 0]) 8 hM rfl (show ¬ (8 : Int32) = 0 from (by decide)) ?_
              rcases px_bv_some h with ⟨s27, t28, hk29, h⟩ | ⟨x31, s27, t28, hk29, h⟩
              · refine px_E_call hM rfl rfl rfl rfl (px_E_mono (by decide) (e_M_tell_28 K N v25 (((2 : Int32) * (v4 - v4 / (8 : Int32) * (8 : Int32))) + (1 : Int32)) a2 s22 t23 _ hk29)) ?_
                cases h
                exact px_E_ret hM rfl rfl rfl trivial
              · cases h
            · cases h
          · cases h
        · cases h
      · rw [if_neg hc11] at h
        refine px_blk (i' := 15) (L' := [some (.ref 28), some (.int a0), some (.int a1), some (.int a2), some (.int v4), none]) (S' := [.int (v4 / (8 : Int32)), .int a0, .ref 28]) (w' := px_w K s6 t7) (q := [¬ (8 : Int32) = 0]) 5 hM rfl (show ¬ (8 : Int32) = 0 from (by decide)) ?_
        rcases px_bi_some h with ⟨v35, s32, t33, hk34, h⟩ | ⟨x36, s32, t33, hk34, h⟩
        · refine px_E_call hM rfl rfl rfl rfl (px_E_mono (by decide) (e_M_takeFor_28 K N a0 (v4 / (8 : Int32)) s6 t7 _ hk34)) ?_
          refine px_blk (i' := 23) (L' := [some (.ref 28), some (.int a0), some (.int a1), some (.int a2), some (.int v4), some (.int v35)]) (S' := [.int (v4 + (8 : Int32)), .int (1 : Int32), .int a0, .ref 28]) (w' := px_w K s32 t33) (q := []) 7 hM rfl trivial ?_
          rcases px_bv_some h with ⟨s37, t38, hk39, h⟩ | ⟨x41, s37, t38, hk39, h⟩
          · refine px_E_call hM rfl rfl rfl rfl (px_E_mono (by decide) (e_M_tellInode_28 K N a0 (1 : Int32) (v4 + (8 : Int32)) s32 t33 _ hk39)) ?_
            refine px_blk (i' := 30) (L' := [some (.ref 28), some (.int a0), some (.int a1), some (.int a2), some (.int v4), some (.int v35)]) (S' := [.int (v4 / (8 : Int32)), .int a0, .ref 28, .ref 28]) (w' := px_w K s37 t38) (q := [¬ (8 : Int32) = 0]) 6 hM rfl (show ¬ (8 : Int32) = 0 from (by decide)) ?_
            rcases px_bi_some h with ⟨v45, s42, t43, hk44, h⟩ | ⟨x46, s42, t43, hk44, h⟩
            · refine px_E_call hM rfl rfl rfl rfl (px_E_mono (by decide) (e_M_blockOf_28 K N a0 (v4 / (8 : Int32)) s37 t38 _ hk44)) ?_
              refine px_blk (i' := 37) (L' := [some (.ref 28), some (.int a0), some (.int a1), some (.int a2), some (.int v4), some (.int v35)]) (S' := [.int a1, .int ((2 : Int32) * (v4 - v4 / (8 : Int32) * (8 : Int32))), .int v45, .ref 28]) (w' := px_w K s42 t43) (q := [¬ (8 : Int32) = 0]) 6 hM rfl (show ¬ (8 : Int32) = 0 from (by decide)) ?_
              rcases px_bv_some h with ⟨s47, t48, hk49, h⟩ | ⟨x51, s47, t48, hk49, h⟩
              · refine px_E_call hM rfl rfl rfl rfl (px_E_mono (by decide) (e_M_tell_28 K N v45 ((2 : Int32) * (v4 - v4 / (8 : Int32) * (8 : Int32))) a1 s42 t43 _ hk49)) ?_
                refine px_blk (i' := 44) (L' := [some (.ref 28), some (.int a0), some (.int a1), some (.int a2), some (.int v4), some (.int v35)]) (S' := [.int (v4 / (8 : Int32)), .int a0, .ref 28, .ref 28]) (w' := px_w K s47 t48) (q := [¬ (8 : Int32) = 0]) 6 hM rfl (show ¬ (8 : Int32) = 0 from (by decide)) ?_
                rcases px_bi_some h with ⟨v55, s52, t53, hk54, h⟩ | ⟨x56, s52, t53, hk54, h⟩
                · refine px_E_call hM rfl rfl rfl rfl (px_E_mono (by decide) (e_M_blockOf_28 K N a0 (v4 / (8 : Int32)) s47 t48 _ hk54)) ?_
                  refine px_blk (i' := 53) (L' := [some (.ref 28), some (.int a0), some (.int a1), some (.int a2), some (.int v4), some (.int v35)]) (S' := [.int a2, .int (((2 : Int32) * (v4 - v4 / (8 : Int32) * (8 : Int32))) + (1 : Int32)), .int v55, .ref 28]) (w' := px_w K s52 t53) (q := [¬ (8 : Int32) = 0]) 8 hM rfl (show ¬ (8 : Int32) = 0 from (by decide)) ?_
                  rcases px_bv_some h with ⟨s57, t58, hk59, h⟩ | ⟨x61, s57, t58, hk59, h⟩
                  · refine px_E_call hM rfl rfl rfl rfl (px_E_mono (by decide) (e_M_tell_28 K N v55 (((2 : Int32) * (v4 - v4 / (8 : Int32) * (8 : Int32))) + (1 : Int32)) a2 s52 t53 _ hk59)) ?_
                    cases h
                    exact px_E_ret hM rfl rfl rfl trivial
                  · cases h
                · cases h
              · cases h
            · cases h
          · cases h
        · cases h
    · cases h
  · cases h
noncomputable def f_M_leave_28 (K : px_K) (N : Nat) (a0 : Int32) (a1 : Int32) (s : px_S) (t : px_W) : Option px_Res :=
  (px_bi (f_M_blockOf_28 K N a0 (a1 / (8 : Int32)) s t) (fun v4 s1 t2 => (px_bv (f_M_tell_28 K N v4 ((2 : Int32) * (a1 - a1 / (8 : Int32) * (8 : Int32))) (0 : Int32) s1 t2) (fun s6 t7 => (px_bi (f_M_blockOf_28 K N a0 (a1 / (8 : Int32)) s6 t7) (fun v14 s11 t12 => (px_bv (f_M_tell_28 K N v14 (((2 : Int32) * (a1 - a1 / (8 : Int32) * (8 : Int32))) + (1 : Int32)) (0 : Int32) s11 t12) (fun s16 t17 => (some (.inl none, s16, t17))) (fun x20 s16 t17 => none))) (fun x15 s11 t12 => none))) (fun x10 s6 t7 => none))) (fun x5 s1 t2 => none))
set_option maxRecDepth 100000 in
theorem e_M_leave_28 (K : px_K) (N : Nat) (a0 : Int32) (a1 : Int32) (s : px_S) (t : px_W) (r : px_Res) (h : f_M_leave_28 K N a0 a1 s t = some r) : px_E px_ET px_P 4 67 0 (px_ent 3 [.ref 28, .int a0, .int a1]) [] (px_w K s t) r.1 (px_w K r.2.1 r.2.2) := by
  have hM : px_P[67]? = some pm_M_leave := rfl
  unfold f_M_leave_28 at h
  refine px_blk (i' := 6) (L' := [some (.ref 28), some (.int a0), some (.int a1)]) (S' := [.int (a1 / (8 : Int32)), .int a0, .ref 28, .ref 28]) (w' := px_w K s t) (q := [¬ (8 : Int32) = 0]) 6 hM rfl (show ¬ (8 : Int32) = 0 from (by decide)) ?_
  rcases px_bi_some h with ⟨v4, s1, t2, hk3, h⟩ | ⟨x5, s1, t2, hk3, h⟩
  · refine px_E_call hM rfl rfl rfl rfl (px_E_mono (by decide) (e_M_blockOf_28 K N a0 (a1 / (8 : Int32)) s t _ hk3)) ?_
    refine px_blk (i' := 13) (L' := [some (.ref 28), some (.int a0), some (.int a1)]) (S' := [.int (0 : Int32), .int ((2 : Int32) * (a1 - a1 / (8 : Int32) * (8 : Int32))), .int v4, .ref 28]) (w' := px_w K s1 t2) (q := [¬ (8 : Int32) = 0]) 6 hM rfl (show ¬ (8 : Int32) = 0 from (by decide)) ?_
    rcases px_bv_some h with ⟨s6, t7, hk8, h⟩ | ⟨x10, s6, t7, hk8, h⟩
    · refine px_E_call hM rfl rfl rfl rfl (px_E_mono (by decide) (e_M_tell_28 K N v4 ((2 : Int32) * (a1 - a1 / (8 : Int32) * (8 : Int32))) (0 : Int32) s1 t2 _ hk8)) ?_
      refine px_blk (i' := 20) (L' := [some (.ref 28), some (.int a0), some (.int a1)]) (S' := [.int (a1 / (8 : Int32)), .int a0, .ref 28, .ref 28]) (w' := px_w K s6 t7) (q := [¬ (8 : Int32) = 0]) 6 hM rfl (show ¬ (8 : Int32) = 0 from (by decide)) ?_
      rcases px_bi_some h with ⟨v14, s11, t12, hk13, h⟩ | ⟨x15, s11, t12, hk13, h⟩
      · refine px_E_call hM rfl rfl rfl rfl (px_E_mono (by decide) (e_M_blockOf_28 K N a0 (a1 / (8 : Int32)) s6 t7 _ hk13)) ?_
        refine px_blk (i' := 29) (L' := [some (.ref 28), some (.int a0), some (.int a1)]) (S' := [.int (0 : Int32), .int (((2 : Int32) * (a1 - a1 / (8 : Int32) * (8 : Int32))) + (1 : Int32)), .int v14, .ref 28]) (w' := px_w K s11 t12) (q := [¬ (8 : Int32) = 0]) 8 hM rfl (show ¬ (8 : Int32) = 0 from (by decide)) ?_
        rcases px_bv_some h with ⟨s16, t17, hk18, h⟩ | ⟨x20, s16, t17, hk18, h⟩
        · refine px_E_call hM rfl rfl rfl rfl (px_E_mono (by decide) (e_M_tell_28 K N v14 (((2 : Int32) * (a1 - a1 / (8 : Int32) * (8 : Int32))) + (1 : Int32)) (0 : Int32) s11 t12 _ hk18)) ?_
          cases h
          exact px_E_ret hM rfl rfl rfl trivial
        · cases h
      · cases h
    · cases h
  · cases h
noncomputable def l_M_names_28_4 (K : px_K) (N : Nat) (n : Nat) (u1 : Int32) (m2 : Int32) (m3 : Int32) (s : px_S) (t : px_W) : Option px_LO := match n with
  | 0 => none
  | n + 1 => (px_bi (f_M_ofInode_28 K N u1 (1 : Int32) s t) (fun v4 s1 t2 => (if v4 ≤ m3 then (some (.inl (23, [m2], s1, t2))) else (px_bi (f_M_nameAt_28 K N u1 m3 s1 t2) (fun v10 s7 t8 => (if v10 = 0 then (l_M_names_28_4 K N n u1 (m2 + (0 : Int32)) (m3 + (1 : Int32)) s7 t8) else (l_M_names_28_4 K N n u1 (m2 + (1 : Int32)) (m3 + (1 : Int32)) s7 t8))) (fun x11 s7 t8 => none)))) (fun x5 s1 t2 => none))
def a_l_M_names_28_4 (K : px_K) (u1 : Int32) (z : px_LO) (o : Option Value ⊕ Nat) (w2 : px_W) : Prop := match z with
  | .inr (o', s', t') => o = o' ∧ w2 = px_w K s' t'
  | .inl (23, [y2], s', t') => px_E px_ET px_P 5 68 23 [none, none, some (.int y2), none] [] (px_w K s' t') o w2
  | _ => False
set_option maxRecDepth 100000 in
theorem e_l_M_names_28_4 (K : px_K) (N : Nat) (u1 : Int32) : ∀ (n : Nat) (m2 : Int32) (m3 : Int32) (s : px_S) (t : px_W) (z : px_LO), l_M_names_28_4 K N n u1 m2 m3 s t = some z → ∀ (o : Option Value ⊕ Nat) (w2 : px_W), a_l_M_names_28_4 K u1 z o w2 → px_E px_ET px_P 5 68 4 [some (.ref 28), some (.int u1), some (.int m2), some (.int m3)] [] (px_w K s t) o w2 := by
  have hM : px_P[68]? = some pm_M_names := rfl
  intro n
  induction n with
  | zero => intro m2 m3 s t z h; cases h
  | succ n ih =>
    intro m2 m3 s t z h o w2 ha
    unfold l_M_names_28_4 at h
    refine px_blk (i' := 8) (L' := [some (.ref 28), some (.int u1), some (.int m2), some (.int m3)]) (S' := [.int (1 : Int32), .int u1, .ref 28, .int m3]) (w' := px_w K s t) (q := []) 4 hM rfl trivial ?_
    rcases px_bi_some h with ⟨v4, s1, t2, hk3, h⟩ | ⟨x5, s1, t2, hk3, h⟩
    · refine px_E_call hM rfl rfl rfl rfl (px_E_mono (by decide) (e_M_ofInode_28 K N u1 (1 : Int32) s t _ hk3)) ?_
      refine px_blkif (c := v4 ≤ m3) (t := 23) (e := 10) (L' := [some (.ref 28), some (.int u1), some (.int m2), some (.int m3)]) (S' := []) (w' := px_w K s1 t2) (q := []) 1 hM rfl trivial (fun hc6 => ?_) (fun hc6 => ?_)
      · rw [if_pos hc6] at h
        cases h
        exact px_E_le (px_leC_L _ _ (by simp [px_leC, px_le1, Value.category])) ha
      · rw [if_neg hc6] at h
        refine px_blk (i' := 14) (L' := [some (.ref 28), some (.int u1), some (.int m2), some (.int m3)]) (S' := [.int m3, .int u1, .ref 28, .int m2]) (w' := px_w K s1 t2) (q := []) 4 hM rfl trivial ?_
        rcases px_bi_some h with ⟨v10, s7, t8, hk9, h⟩ | ⟨x11, s7, t8, hk9, h⟩
        · refine px_E_call hM rfl rfl rfl rfl (px_E_mono (by decide) (e_M_nameAt_28 K N u1 m3 s1 t2 _ hk9)) ?_
          refine px_blkif (c := v10 = 0) (t := 18) (e := 16) (L' := [some (.ref 28), some (.int u1), some (.int m2), some (.int m3)]) (S' := [.int m2]) (w' := px_w K s7 t8) (q := []) 1 hM rfl trivial (fun hc12 => ?_) (fun hc12 => ?_)
          · rw [if_pos hc12] at h
            refine px_blk (i' := 4) (L' := [some (.ref 28), some (.int u1), some (.int (m2 + (0 : Int32))), some (.int (m3 + (1 : Int32)))]) (S' := []) (w' := px_w K s7 t8) (q := []) 5 hM rfl trivial ?_
            exact ih (m2 + (0 : Int32)) (m3 + (1 : Int32)) s7 t8 z h o w2 ha
          · rw [if_neg hc12] at h
            refine px_blk (i' := 4) (L' := [some (.ref 28), some (.int u1), some (.int (m2 + (1 : Int32))), some (.int (m3 + (1 : Int32)))]) (S' := []) (w' := px_w K s7 t8) (q := []) 6 hM rfl trivial ?_
            exact ih (m2 + (1 : Int32)) (m3 + (1 : Int32)) s7 t8 z h o w2 ha
        · cases h
    · cases h
noncomputable def f_M_names_28 (K : px_K) (N : Nat) (a0 : Int32) (s : px_S) (t : px_W) : Option px_Res :=
  (px_lp (l_M_names_28_4 K N N a0 (0 : Int32) (0 : Int32) s t) (fun i1 vs2 s3 t4 => (if i1 = 23 then (px_v1 vs2 (fun y7 => (some (.inl (some (.int y7)), s3, t4)))) else none)) (fun z6 => some z6))
set_option maxRecDepth 100000 in
theorem e_M_names_28 (K : px_K) (N : Nat) (a0 : Int32) (s : px_S) (t : px_W) (r : px_Res) (h : f_M_names_28 K N a0 s t = some r) : px_E px_ET px_P 5 68 0 (px_ent 4 [.ref 28, .int a0]) [] (px_w K s t) r.1 (px_w K r.2.1 r.2.2) := by
  have hM : px_P[68]? = some pm_M_names := rfl
  unfold f_M_names_28 at h
  refine px_blk (i' := 4) (L' := [some (.ref 28), some (.int a0), some (.int (0 : Int32)), some (.int (0 : Int32))]) (S' := []) (w' := px_w K s t) (q := []) 4 hM rfl trivial ?_
  rcases px_lp_some h with ⟨i1, vs2, s3, t4, hl5, h⟩ | ⟨z6, hl5, h⟩
  · by_cases hi8 : i1 = 23
    · subst hi8
      rw [if_pos rfl] at h
      have h9 := px_v1_some h
      clear h
      obtain ⟨y7, rfl, h⟩ := h9
      refine e_l_M_names_28_4 K N a0 N (0 : Int32) (0 : Int32) s t _ hl5 _ _ ?_
      show px_E px_ET px_P 5 68 23 [none, none, some (.int y7), none] [] (px_w K s3 t4) _ _
      refine px_blk (i' := 24) (L' := [none, none, some (.int y7), none]) (S' := [.int y7]) (w' := px_w K s3 t4) (q := []) 1 hM rfl trivial ?_
      cases h
      exact px_E_ret hM rfl rfl rfl trivial
    · rw [if_neg hi8] at h
      cases h
  · cases h
    exact e_l_M_names_28_4 K N a0 N (0 : Int32) (0 : Int32) s t _ hl5 _ _ ⟨rfl, rfl⟩
noncomputable def l_M_changes_28_4 (K : px_K) (N : Nat) (n : Nat) (m1 : Int32) (m2 : Int32) (s : px_S) (t : px_W) : Option px_LO := match n with
  | 0 => none
  | n + 1 => (if (106 : Int32) ≤ m2 then (some (.inl (20, [m1], s, t))) else (px_gd (vp_in m2 (K.2.2 41)) (if ((s.2.2.1 41) m2.toNatClampNeg) = 0 then (l_M_changes_28_4 K N n (m1 + (0 : Int32)) (m2 + (1 : Int32)) s t) else (l_M_changes_28_4 K N n (m1 + (1 : Int32)) (m2 + (1 : Int32)) s t))))
def a_l_M_changes_28_4 (K : px_K) (z : px_LO) (o : Option Value ⊕ Nat) (w2 : px_W) : Prop := match z with
  | .inr (o', s', t') => o = o' ∧ w2 = px_w K s' t'
  | .inl (20, [y1], s', t') => px_E px_ET px_P 1 69 20 [none, some (.int y1), none] [] (px_w K s' t') o w2
  | _ => False
set_option maxRecDepth 100000 in
theorem e_l_M_changes_28_4 (K : px_K) (N : Nat) : ∀ (n : Nat) (m1 : Int32) (m2 : Int32) (s : px_S) (t : px_W) (z : px_LO), l_M_changes_28_4 K N n m1 m2 s t = some z → ∀ (o : Option Value ⊕ Nat) (w2 : px_W), a_l_M_changes_28_4 K z o w2 → px_E px_ET px_P 1 69 4 [some (.ref 28), some (.int m1), some (.int m2)] [] (px_w K s t) o w2 := by
  have hM : px_P[69]? = some pm_M_changes := rfl
  intro n
  induction n with
  | zero => intro m1 m2 s t z h; cases h
  | succ n ih =>
    intro m1 m2 s t z h o w2 ha
    unfold l_M_changes_28_4 at h
    refine px_blkif (c := (106 : Int32) ≤ m2) (t := 20) (e := 7) (L' := [some (.ref 28), some (.int m1), some (.int m2)]) (S' := []) (w' := px_w K s t) (q := []) 3 hM rfl trivial (fun hc1 => ?_) (fun hc1 => ?_)
    · rw [if_pos hc1] at h
      cases h
      exact px_E_le (px_leC_L _ _ (by simp [px_leC, px_le1, Value.category])) ha
    · rw [if_neg hc1] at h
      obtain ⟨hq2, h⟩ := px_gd_some h
      refine px_blkif (c := ((s.2.2.1 41) m2.toNatClampNeg) = 0) (t := 15) (e := 13) (L' := [some (.ref 28), some (.int m1), some (.int m2)]) (S' := [.int m1]) (w' := px_w K s t) (q := [vp_in m2 (K.2.2 41)]) 6 hM rfl (show vp_in m2 (K.2.2 41) from hq2) (fun hc3 => ?_) (fun hc3 => ?_)
      · rw [if_pos hc3] at h
        refine px_blk (i' := 4) (L' := [some (.ref 28), some (.int (m1 + (0 : Int32))), some (.int (m2 + (1 : Int32)))]) (S' := []) (w' := px_w K s t) (q := []) 5 hM rfl trivial ?_
        exact ih (m1 + (0 : Int32)) (m2 + (1 : Int32)) s t z h o w2 ha
      · rw [if_neg hc3] at h
        refine px_blk (i' := 4) (L' := [some (.ref 28), some (.int (m1 + (1 : Int32))), some (.int (m2 + (1 : Int32)))]) (S' := []) (w' := px_w K s t) (q := []) 6 hM rfl trivial ?_
        exact ih (m1 + (1 : Int32)) (m2 + (1 : Int32)) s t z h o w2 ha
noncomputable def f_M_changes_28 (K : px_K) (N : Nat) (s : px_S) (t : px_W) : Option px_Res :=
  (px_lp (l_M_changes_28_4 K N N (0 : Int32) (0 : Int32) s t) (fun i1 vs2 s3 t4 => (if i1 = 20 then (px_v1 vs2 (fun y7 => (some (.inl (some (.int y7)), s3, t4)))) else none)) (fun z6 => some z6))
set_option maxRecDepth 100000 in
theorem e_M_changes_28 (K : px_K) (N : Nat) (s : px_S) (t : px_W) (r : px_Res) (h : f_M_changes_28 K N s t = some r) : px_E px_ET px_P 1 69 0 (px_ent 3 [.ref 28]) [] (px_w K s t) r.1 (px_w K r.2.1 r.2.2) := by
  have hM : px_P[69]? = some pm_M_changes := rfl
  unfold f_M_changes_28 at h
  refine px_blk (i' := 4) (L' := [some (.ref 28), some (.int (0 : Int32)), some (.int (0 : Int32))]) (S' := []) (w' := px_w K s t) (q := []) 4 hM rfl trivial ?_
  rcases px_lp_some h with ⟨i1, vs2, s3, t4, hl5, h⟩ | ⟨z6, hl5, h⟩
  · by_cases hi8 : i1 = 20
    · subst hi8
      rw [if_pos rfl] at h
      have h9 := px_v1_some h
      clear h
      obtain ⟨y7, rfl, h⟩ := h9
      refine e_l_M_changes_28_4 K N N (0 : Int32) (0 : Int32) s t _ hl5 _ _ ?_
      show px_E px_ET px_P 1 69 20 [none, some (.int y7), none] [] (px_w K s3 t4) _ _
      refine px_blk (i' := 21) (L' := [none, some (.int y7), none]) (S' := [.int y7]) (w' := px_w K s3 t4) (q := []) 1 hM rfl trivial ?_
      cases h
      exact px_E_ret hM rfl rfl rfl trivial
    · rw [if_neg hi8] at h
      cases h
  · cases h
    exact e_l_M_changes_28_4 K N N (0 : Int32) (0 : Int32) s t _ hl5 _ _ ⟨rfl, rfl⟩
noncomputable def l_M_keeps_28_4 (K : px_K) (N : Nat) (n : Nat) (m1 : Int32) (m2 : Int32) (s : px_S) (t : px_W) : Option px_LO := match n with
  | 0 => none
  | n + 1 => (if (106 : Int32) ≤ m2 then (some (.inl (20, [m1], s, t))) else (px_gd (vp_in m2 (K.2.2 42)) (if ((s.2.2.1 42) m2.toNatClampNeg) = 0 then (l_M_keeps_28_4 K N n (m1 + (0 : Int32)) (m2 + (1 : Int32)) s t) else (l_M_keeps_28_4 K N n (m1 + (1 : Int32)) (m2 + (1 : Int32)) s t))))
def a_l_M_keeps_28_4 (K : px_K) (z : px_LO) (o : Option Value ⊕ Nat) (w2 : px_W) : Prop := match z with
  | .inr (o', s', t') => o = o' ∧ w2 = px_w K s' t'
  | .inl (20, [y1], s', t') => px_E px_ET px_P 1 70 20 [none, some (.int y1), none] [] (px_w K s' t') o w2
  | _ => False
set_option maxRecDepth 100000 in
theorem e_l_M_keeps_28_4 (K : px_K) (N : Nat) : ∀ (n : Nat) (m1 : Int32) (m2 : Int32) (s : px_S) (t : px_W) (z : px_LO), l_M_keeps_28_4 K N n m1 m2 s t = some z → ∀ (o : Option Value ⊕ Nat) (w2 : px_W), a_l_M_keeps_28_4 K z o w2 → px_E px_ET px_P 1 70 4 [some (.ref 28), some (.int m1), some (.int m2)] [] (px_w K s t) o w2 := by
  have hM : px_P[70]? = some pm_M_keeps := rfl
  intro n
  induction n with
  | zero => intro m1 m2 s t z h; cases h
  | succ n ih =>
    intro m1 m2 s t z h o w2 ha
    unfold l_M_keeps_28_4 at h
    refine px_blkif (c := (106 : Int32) ≤ m2) (t := 20) (e := 7) (L' := [some (.ref 28), some (.int m1), some (.int m2)]) (S' := []) (w' := px_w K s t) (q := []) 3 hM rfl trivial (fun hc1 => ?_) (fun hc1 => ?_)
    · rw [if_pos hc1] at h
      cases h
      exact px_E_le (px_leC_L _ _ (by simp [px_leC, px_le1, Value.category])) ha
    · rw [if_neg hc1] at h
      obtain ⟨hq2, h⟩ := px_gd_some h
      refine px_blkif (c := ((s.2.2.1 42) m2.toNatClampNeg) = 0) (t := 15) (e := 13) (L' := [some (.ref 28), some (.int m1), some (.int m2)]) (S' := [.int m1]) (w' := px_w K s t) (q := [vp_in m2 (K.2.2 42)]) 6 hM rfl (show vp_in m2 (K.2.2 42) from hq2) (fun hc3 => ?_) (fun hc3 => ?_)
      · rw [if_pos hc3] at h
        refine px_blk (i' := 4) (L' := [some (.ref 28), some (.int (m1 + (0 : Int32))), some (.int (m2 + (1 : Int32)))]) (S' := []) (w' := px_w K s t) (q := []) 5 hM rfl trivial ?_
        exact ih (m1 + (0 : Int32)) (m2 + (1 : Int32)) s t z h o w2 ha
      · rw [if_neg hc3] at h
        refine px_blk (i' := 4) (L' := [some (.ref 28), some (.int (m1 + (1 : Int32))), some (.int (m2 + (1 : Int32)))]) (S' := []) (w' := px_w K s t) (q := []) 6 hM rfl trivial ?_
        exact ih (m1 + (1 : Int32)) (m2 + (1 : Int32)) s t z h o w2 ha
noncomputable def f_M_keeps_28 (K : px_K) (N : Nat) (s : px_S) (t : px_W) : Option px_Res :=
  (px_lp (l_M_keeps_28_4 K N N (0 : Int32) (0 : Int32) s t) (fun i1 vs2 s3 t4 => (if i1 = 20 then (px_v1 vs2 (fun y7 => (some (.inl (some (.int y7)), s3, t4)))) else none)) (fun z6 => some z6))
set_option maxRecDepth 100000 in
theorem e_M_keeps_28 (K : px_K) (N : Nat) (s : px_S) (t : px_W) (r : px_Res) (h : f_M_keeps_28 K N s t = some r) : px_E px_ET px_P 1 70 0 (px_ent 3 [.ref 28]) [] (px_w K s t) r.1 (px_w K r.2.1 r.2.2) := by
  have hM : px_P[70]? = some pm_M_keeps := rfl
  unfold f_M_keeps_28 at h
  refine px_blk (i' := 4) (L' := [some (.ref 28), some (.int (0 : Int32)), some (.int (0 : Int32))]) (S' := []) (w' := px_w K s t) (q := []) 4 hM rfl trivial ?_
  rcases px_lp_some h with ⟨i1, vs2, s3, t4, hl5, h⟩ | ⟨z6, hl5, h⟩
  · by_cases hi8 : i1 = 20
    · subst hi8
      rw [if_pos rfl] at h
      have h9 := px_v1_some h
      clear h
      obtain ⟨y7, rfl, h⟩ := h9
      refine e_l_M_keeps_28_4 K N N (0 : Int32) (0 : Int32) s t _ hl5 _ _ ?_
      show px_E px_ET px_P 1 70 20 [none, some (.int y7), none] [] (px_w K s3 t4) _ _
      refine px_blk (i' := 21) (L' := [none, some (.int y7), none]) (S' := [.int y7]) (w' := px_w K s3 t4) (q := []) 1 hM rfl trivial ?_
      cases h
      exact px_E_ret hM rfl rfl rfl trivial
    · rw [if_neg hi8] at h
      cases h
  · cases h
    exact e_l_M_keeps_28_4 K N N (0 : Int32) (0 : Int32) s t _ hl5 _ _ ⟨rfl, rfl⟩
noncomputable def l_M_three_28_44_2 (K : px_K) (N : Nat) (n : Nat) (u2 : Int32) (u3 : Int32) (u4 : Int32) (m5 : Int32) (s : px_S) (t : px_W) : Option px_LO := match n with
  | 0 => none
  | n + 1 => (if (16 : Int32) ≤ m5 then (some (.inl (11, [], s, t))) else (px_gd (vp_in m5 (K.2.2 44)) (px_let (sA s 44 m5.toNatClampNeg (0 : Int32)) (fun s3 => (l_M_three_28_44_2 K N n u2 u3 u4 (m5 + (1 : Int32)) s3 t)))))
def a_l_M_three_28_44_2 (K : px_K) (u2 : Int32) (u3 : Int32) (u4 : Int32) (z : px_LO) (o : Option Value ⊕ Nat) (w2 : px_W) : Prop := match z with
  | .inr (o', s', t') => o = o' ∧ w2 = px_w K s' t'
  | .inl (11, [], s', t') => px_E px_ET px_P 1 33 11 [none, some (.ref 44), some (.int u2), some (.int u3), some (.int u4), none] [] (px_w K s' t') o w2
  | _ => False
set_option maxRecDepth 100000 in
theorem e_l_M_three_28_44_2 (K : px_K) (N : Nat) (u2 : Int32) (u3 : Int32) (u4 : Int32) : ∀ (n : Nat) (m5 : Int32) (s : px_S) (t : px_W) (z : px_LO), l_M_three_28_44_2 K N n u2 u3 u4 m5 s t = some z → ∀ (o : Option Value ⊕ Nat) (w2 : px_W), a_l_M_three_28_44_2 K u2 u3 u4 z o w2 → px_E px_ET px_P 1 33 2 [none, some (.ref 44), some (.int u2), some (.int u3), some (.int u4), some (.int m5)] [] (px_w K s t) o w2 := by
  have hM : px_P[33]? = some pm_M_three := rfl
  intro n
  induction n with
  | zero => intro m5 s t z h; cases h
  | succ n ih =>
    intro m5 s t z h o w2 ha
    unfold l_M_three_28_44_2 at h
    refine px_blkif (c := (16 : Int32) ≤ m5) (t := 11) (e := 5) (L' := [none, some (.ref 44), some (.int u2), some (.int u3), some (.int u4), some (.int m5)]) (S' := []) (w' := px_w K s t) (q := []) 3 hM rfl trivial (fun hc1 => ?_) (fun hc1 => ?_)
    · rw [if_pos hc1] at h
      cases h
      exact px_E_le (px_leC_L _ _ (by simp [px_leC, px_le1, Value.category])) ha
    · rw [if_neg hc1] at h
      obtain ⟨hq2, h⟩ := px_gd_some h
      refine px_blk (i' := 9) (L' := [none, some (.ref 44), some (.int u2), some (.int u3), some (.int u4), some (.int m5)]) (S' := []) (w' := px_w K (sA s 44 m5.toNatClampNeg (0 : Int32)) t) (q := [vp_in m5 (K.2.2 44)]) 4 hM rfl (show vp_in m5 (K.2.2 44) from hq2) ?_
      obtain ⟨s3, hs4, h⟩ := px_let_some h
      rw [← hs4]
      refine px_blk (i' := 2) (L' := [none, some (.ref 44), some (.int u2), some (.int u3), some (.int u4), some (.int (m5 + (1 : Int32)))]) (S' := []) (w' := px_w K s3 t) (q := []) 2 hM rfl trivial ?_
      exact ih (m5 + (1 : Int32)) s3 t z h o w2 ha
noncomputable def f_M_three_28_44 (K : px_K) (N : Nat) (a0 : Int32) (a1 : Int32) (a2 : Int32) (s : px_S) (t : px_W) : Option px_Res :=
  (px_lp (l_M_three_28_44_2 K N N a0 a1 a2 (3 : Int32) s t) (fun i1 vs2 s3 t4 => (if i1 = 11 then (px_v0 vs2 (px_gd (vp_in (0 : Int32) (K.2.2 44)) (px_let (sA s3 44 (0 : Int32).toNatClampNeg a0) (fun s9 => (px_gd (vp_in (1 : Int32) (K.2.2 44)) (px_let (sA s9 44 (1 : Int32).toNatClampNeg a1) (fun s12 => (px_gd (vp_in (2 : Int32) (K.2.2 44)) (px_let (sA s12 44 (2 : Int32).toNatClampNeg a2) (fun s15 => (some (.inl none, s15, t4)))))))))))) else none)) (fun z6 => some z6))
set_option maxRecDepth 100000 in
theorem e_M_three_28_44 (K : px_K) (N : Nat) (a0 : Int32) (a1 : Int32) (a2 : Int32) (s : px_S) (t : px_W) (r : px_Res) (h : f_M_three_28_44 K N a0 a1 a2 s t = some r) : px_E px_ET px_P 1 33 0 (px_ent 6 [.ref 28, .ref 44, .int a0, .int a1, .int a2]) [] (px_w K s t) r.1 (px_w K r.2.1 r.2.2) := by
  have hM : px_P[33]? = some pm_M_three := rfl
  unfold f_M_three_28_44 at h
  refine px_blk (i' := 2) (L' := [some (.ref 28), some (.ref 44), some (.int a0), some (.int a1), some (.int a2), some (.int (3 : Int32))]) (S' := []) (w' := px_w K s t) (q := []) 2 hM rfl trivial ?_
  rcases px_lp_some h with ⟨i1, vs2, s3, t4, hl5, h⟩ | ⟨z6, hl5, h⟩
  · by_cases hi7 : i1 = 11
    · subst hi7
      rw [if_pos rfl] at h
      have h9 := px_v0_some h
      clear h
      obtain ⟨rfl, h⟩ := h9
      refine px_E_le (px_leC_L _ _ (by simp [px_leC, px_le1, Value.category])) (e_l_M_three_28_44_2 K N a0 a1 a2 N (3 : Int32) s t _ hl5 _ _ ?_)
      show px_E px_ET px_P 1 33 11 [none, some (.ref 44), some (.int a0), some (.int a1), some (.int a2), none] [] (px_w K s3 t4) _ _
      obtain ⟨hq8, h⟩ := px_gd_some h
      refine px_blk (i' := 15) (L' := [none, some (.ref 44), some (.int a0), some (.int a1), some (.int a2), none]) (S' := []) (w' := px_w K (sA s3 44 (0 : Int32).toNatClampNeg a0) t4) (q := [vp_in (0 : Int32) (K.2.2 44)]) 4 hM rfl (show vp_in (0 : Int32) (K.2.2 44) from hq8) ?_
      obtain ⟨s9, hs10, h⟩ := px_let_some h
      rw [← hs10]
      obtain ⟨hq11, h⟩ := px_gd_some h
      refine px_blk (i' := 19) (L' := [none, some (.ref 44), some (.int a0), some (.int a1), some (.int a2), none]) (S' := []) (w' := px_w K (sA s9 44 (1 : Int32).toNatClampNeg a1) t4) (q := [vp_in (1 : Int32) (K.2.2 44)]) 4 hM rfl (show vp_in (1 : Int32) (K.2.2 44) from hq11) ?_
      obtain ⟨s12, hs13, h⟩ := px_let_some h
      rw [← hs13]
      obtain ⟨hq14, h⟩ := px_gd_some h
      refine px_blk (i' := 23) (L' := [none, some (.ref 44), some (.int a0), some (.int a1), some (.int a2), none]) (S' := []) (w' := px_w K (sA s12 44 (2 : Int32).toNatClampNeg a2) t4) (q := [vp_in (2 : Int32) (K.2.2 44)]) 4 hM rfl (show vp_in (2 : Int32) (K.2.2 44) from hq14) ?_
      obtain ⟨s15, hs16, h⟩ := px_let_some h
      rw [← hs16]
      cases h
      exact px_E_ret hM rfl rfl rfl trivial
    · rw [if_neg hi7] at h
      cases h
  · cases h
    exact px_E_le (px_leC_L _ _ (by simp [px_leC, px_le1, Value.category])) (e_l_M_three_28_44_2 K N a0 a1 a2 N (3 : Int32) s t _ hl5 _ _ ⟨rfl, rfl⟩)
noncomputable def f_M_isEscaped (K : px_K) (N : Nat) (a0 : Int32) (s : px_S) (t : px_W) : Option px_Res :=
  (if a0 = (1 : Int32) then (some (.inl (some (.int (1 : Int32))), s, t)) else (if ¬ a0 = (2 : Int32) then (some (.inl (some (.int (0 : Int32))), s, t)) else (some (.inl (some (.int (1 : Int32))), s, t))))
set_option maxRecDepth 100000 in
theorem e_M_isEscaped (K : px_K) (N : Nat) (a0 : Int32) (s : px_S) (t : px_W) (r : px_Res) (h : f_M_isEscaped K N a0 s t = some r) : px_E px_ET px_P 1 71 0 (px_ent 1 [.int a0]) [] (px_w K s t) r.1 (px_w K r.2.1 r.2.2) := by
  have hM : px_P[71]? = some pm_M_isEscaped := rfl
  unfold f_M_isEscaped at h
  refine px_blkif (c := a0 = (1 : Int32)) (t := 6) (e := 3) (L' := [some (.int a0)]) (S' := []) (w' := px_w K s t) (q := []) 3 hM rfl trivial (fun hc1 => ?_) (fun hc1 => ?_)
  · rw [if_pos hc1] at h
    refine px_blk (i' := 9) (L' := [some (.int a0)]) (S' := [.int (1 : Int32)]) (w' := px_w K s t) (q := []) 2 hM rfl trivial ?_
    cases h
    exact px_E_ret hM rfl rfl rfl (show (1 : Int32) = 0 ∨ (1 : Int32) = 1 from Or.inr rfl)
  · rw [if_neg hc1] at h
    refine px_blkif (c := ¬ a0 = (2 : Int32)) (t := 8) (e := 6) (L' := [some (.int a0)]) (S' := []) (w' := px_w K s t) (q := []) 3 hM rfl trivial (fun hc2 => ?_) (fun hc2 => ?_)
    · rw [if_pos hc2] at h
      refine px_blk (i' := 9) (L' := [some (.int a0)]) (S' := [.int (0 : Int32)]) (w' := px_w K s t) (q := []) 1 hM rfl trivial ?_
      cases h
      exact px_E_ret hM rfl rfl rfl (show (0 : Int32) = 0 ∨ (0 : Int32) = 1 from Or.inl rfl)
    · rw [if_neg hc2] at h
      refine px_blk (i' := 9) (L' := [some (.int a0)]) (S' := [.int (1 : Int32)]) (w' := px_w K s t) (q := []) 2 hM rfl trivial ?_
      cases h
      exact px_E_ret hM rfl rfl rfl (show (1 : Int32) = 0 ∨ (1 : Int32) = 1 from Or.inr rfl)
noncomputable def l_M_write_28_44_94 (K : px_K) (N : Nat) (n : Nat) (u1 : Int32) (u4 : Int32) (u5 : Int32) (m6 : Int32) (s : px_S) (t : px_W) : Option px_LO := match n with
  | 0 => none
  | n + 1 => (if (16 : Int32) ≤ m6 then (some (.inl (112, [], s, t))) else (px_gd (vp_in (u4 + m6) (K.2.2 44)) (px_gd (vp_in (((16 : Int32) * u5) + m6) (K.2.2 32)) (px_let (sA s 32 (((16 : Int32) * u5) + m6).toNatClampNeg ((s.2.2.1 44) (u4 + m6).toNatClampNeg)) (fun s4 => (l_M_write_28_44_94 K N n u1 u4 u5 (m6 + (1 : Int32)) s4 t))))))
def a_l_M_write_28_44_94 (K : px_K) (u1 : Int32) (u4 : Int32) (u5 : Int32) (z : px_LO) (o : Option Value ⊕ Nat) (w2 : px_W) : Prop := match z with
  | .inr (o', s', t') => o = o' ∧ w2 = px_w K s' t'
  | .inl (112, [], s', t') => px_E px_ET px_P 5 29 112 [some (.ref 28), some (.int u1), none, none, none, none, none] [] (px_w K s' t') o w2
  | _ => False
noncomputable def l_M_write_28_44_28 (K : px_K) (N : Nat) (n : Nat) (u1 : Int32) (u2 : Int32) (u4 : Int32) (u5 : Int32) (m6 : Int32) (s : px_S) (t : px_W) : Option px_LO := match n with
  | 0 => none
  | n + 1 => (if ((u5 + (64 : Int32)) - (1 : Int32)) ≤ m6 then (some (.inl (47, [], s, t))) else (px_gd ((vp_in (m6 + (1 : Int32)) (K.2.2 31)) ∧ (vp_in m6 (K.2.2 31))) (px_let (sA s 31 m6.toNatClampNeg ((s.2.2.1 31) (m6 + (1 : Int32)).toNatClampNeg)) (fun s4 => (l_M_write_28_44_28 K N n u1 u2 u4 u5 (m6 + (1 : Int32)) s4 t)))))
def a_l_M_write_28_44_28 (K : px_K) (u1 : Int32) (u2 : Int32) (u4 : Int32) (u5 : Int32) (z : px_LO) (o : Option Value ⊕ Nat) (w2 : px_W) : Prop := match z with
  | .inr (o', s', t') => o = o' ∧ w2 = px_w K s' t'
  | .inl (47, [], s', t') => px_E px_ET px_P 5 29 47 [some (.ref 28), some (.int u1), some (.int u2), some (.ref 44), some (.int u4), some (.int u5), none] [] (px_w K s' t') o w2
  | _ => False
noncomputable def l_M_write_28_44_51 (K : px_K) (N : Nat) (n : Nat) (u1 : Int32) (u2 : Int32) (u4 : Int32) (u5 : Int32) (m6 : Int32) (s : px_S) (t : px_W) : Option px_LO := match n with
  | 0 => none
  | n + 1 => (if ((16 : Int32) * ((u5 + (64 : Int32)) - (1 : Int32))) ≤ m6 then (some (.inl (72, [], s, t))) else (px_gd ((vp_in (m6 + (16 : Int32)) (K.2.2 32)) ∧ (vp_in m6 (K.2.2 32))) (px_let (sA s 32 m6.toNatClampNeg ((s.2.2.1 32) (m6 + (16 : Int32)).toNatClampNeg)) (fun s4 => (l_M_write_28_44_51 K N n u1 u2 u4 u5 (m6 + (1 : Int32)) s4 t)))))
def a_l_M_write_28_44_51 (K : px_K) (u1 : Int32) (u2 : Int32) (u4 : Int32) (u5 : Int32) (z : px_LO) (o : Option Value ⊕ Nat) (w2 : px_W) : Prop := match z with
  | .inr (o', s', t') => o = o' ∧ w2 = px_w K s' t'
  | .inl (72, [], s', t') => px_E px_ET px_P 5 29 72 [some (.ref 28), some (.int u1), some (.int u2), some (.ref 44), some (.int u4), some (.int u5), none] [] (px_w K s' t') o w2
  | _ => False
set_option maxRecDepth 100000 in
theorem e_l_M_write_28_44_94 (K : px_K) (N : Nat) (u1 : Int32) (u4 : Int32) (u5 : Int32) : ∀ (n : Nat) (m6 : Int32) (s : px_S) (t : px_W) (z : px_LO), l_M_write_28_44_94 K N n u1 u4 u5 m6 s t = some z → ∀ (o : Option Value ⊕ Nat) (w2 : px_W), a_l_M_write_28_44_94 K u1 u4 u5 z o w2 → px_E px_ET px_P 5 29 94 [some (.ref 28), some (.int u1), none, some (.ref 44), some (.int u4), some (.int u5), some (.int m6)] [] (px_w K s t) o w2 := by
  have hM : px_P[29]? = some pm_M_write := rfl
  intro n
  induction n with
  | zero => intro m6 s t z h; cases h
  | succ n ih =>
    intro m6 s t z h o w2 ha
    unfold l_M_write_28_44_94 at h
    refine px_blkif (c := (16 : Int32) ≤ m6) (t := 112) (e := 97) (L' := [some (.ref 28), some (.int u1), none, some (.ref 44), some (.int u4), some (.int u5), some (.int m6)]) (S' := []) (w' := px_w K s t) (q := []) 3 hM rfl trivial (fun hc1 => ?_) (fun hc1 => ?_)
    · rw [if_pos hc1] at h
      cases h
      exact px_E_le (px_leC_L _ _ (by simp [px_leC, px_le1, Value.category])) ha
    · rw [if_neg hc1] at h
      obtain ⟨hq2, h⟩ := px_gd_some h
      refine px_blk (i' := 109) (L' := [some (.ref 28), some (.int u1), none, some (.ref 44), some (.int u4), some (.int u5), some (.int m6)]) (S' := [.int ((s.2.2.1 44) (u4 + m6).toNatClampNeg), .int (((16 : Int32) * u5) + m6), .ref 32]) (w' := px_w K s t) (q := [vp_in (u4 + m6) (K.2.2 44)]) 12 hM rfl (show vp_in (u4 + m6) (K.2.2 44) from hq2) ?_
      obtain ⟨hq3, h⟩ := px_gd_some h
      refine px_blk (i' := 110) (L' := [some (.ref 28), some (.int u1), none, some (.ref 44), some (.int u4), some (.int u5), some (.int m6)]) (S' := []) (w' := px_w K (sA s 32 (((16 : Int32) * u5) + m6).toNatClampNeg ((s.2.2.1 44) (u4 + m6).toNatClampNeg)) t) (q := [vp_in (((16 : Int32) * u5) + m6) (K.2.2 32)]) 1 hM rfl (show vp_in (((16 : Int32) * u5) + m6) (K.2.2 32) from hq3) ?_
      obtain ⟨s4, hs5, h⟩ := px_let_some h
      rw [← hs5]
      refine px_blk (i' := 94) (L' := [some (.ref 28), some (.int u1), none, some (.ref 44), some (.int u4), some (.int u5), some (.int (m6 + (1 : Int32)))]) (S' := []) (w' := px_w K s4 t) (q := []) 2 hM rfl trivial ?_
      exact ih (m6 + (1 : Int32)) s4 t z h o w2 ha
set_option maxRecDepth 100000 in
theorem e_l_M_write_28_44_28 (K : px_K) (N : Nat) (u1 : Int32) (u2 : Int32) (u4 : Int32) (u5 : Int32) : ∀ (n : Nat) (m6 : Int32) (s : px_S) (t : px_W) (z : px_LO), l_M_write_28_44_28 K N n u1 u2 u4 u5 m6 s t = some z → ∀ (o : Option Value ⊕ Nat) (w2 : px_W), a_l_M_write_28_44_28 K u1 u2 u4 u5 z o w2 → px_E px_ET px_P 5 29 28 [some (.ref 28), some (.int u1), some (.int u2), some (.ref 44), some (.int u4), some (.int u5), some (.int m6)] [] (px_w K s t) o w2 := by
  have hM : px_P[29]? = some pm_M_write := rfl
  intro n
  induction n with
  | zero => intro m6 s t z h; cases h
  | succ n ih =>
    intro m6 s t z h o w2 ha
    unfold l_M_write_28_44_28 at h
    refine px_blkif (c := ((u5 + (64 : Int32)) - (1 : Int32)) ≤ m6) (t := 47) (e := 35) (L' := [some (.ref 28), some (.int u1), some (.int u2), some (.ref 44), some (.int u4), some (.int u5), some (.int m6)]) (S' := []) (w' := px_w K s t) (q := []) 7 hM rfl trivial (fun hc1 => ?_) (fun hc1 => ?_)
    · rw [if_pos hc1] at h
      cases h
      exact px_E_le (px_leC_L _ _ (by simp [px_leC, px_le1, Value.category])) ha
    · rw [if_neg hc1] at h
      obtain ⟨⟨hq2, hq3⟩, h⟩ := px_gd_some h
      refine px_blk (i' := 45) (L' := [some (.ref 28), some (.int u1), some (.int u2), some (.ref 44), some (.int u4), some (.int u5), some (.int m6)]) (S' := []) (w' := px_w K (sA s 31 m6.toNatClampNeg ((s.2.2.1 31) (m6 + (1 : Int32)).toNatClampNeg)) t) (q := [vp_in (m6 + (1 : Int32)) (K.2.2 31), vp_in m6 (K.2.2 31)]) 10 hM rfl (show (vp_in (m6 + (1 : Int32)) (K.2.2 31)) ∧ (vp_in m6 (K.2.2 31)) from ⟨hq2, hq3⟩) ?_
      obtain ⟨s4, hs5, h⟩ := px_let_some h
      rw [← hs5]
      refine px_blk (i' := 28) (L' := [some (.ref 28), some (.int u1), some (.int u2), some (.ref 44), some (.int u4), some (.int u5), some (.int (m6 + (1 : Int32)))]) (S' := []) (w' := px_w K s4 t) (q := []) 2 hM rfl trivial ?_
      exact ih (m6 + (1 : Int32)) s4 t z h o w2 ha
set_option maxRecDepth 100000 in
theorem e_l_M_write_28_44_51 (K : px_K) (N : Nat) (u1 : Int32) (u2 : Int32) (u4 : Int32) (u5 : Int32) : ∀ (n : Nat) (m6 : Int32) (s : px_S) (t : px_W) (z : px_LO), l_M_write_28_44_51 K N n u1 u2 u4 u5 m6 s t = some z → ∀ (o : Option Value ⊕ Nat) (w2 : px_W), a_l_M_write_28_44_51 K u1 u2 u4 u5 z o w2 → px_E px_ET px_P 5 29 51 [some (.ref 28), some (.int u1), some (.int u2), some (.ref 44), some (.int u4), some (.int u5), some (.int m6)] [] (px_w K s t) o w2 := by
  have hM : px_P[29]? = some pm_M_write := rfl
  intro n
  induction n with
  | zero => intro m6 s t z h; cases h
  | succ n ih =>
    intro m6 s t z h o w2 ha
    unfold l_M_write_28_44_51 at h
    refine px_blkif (c := ((16 : Int32) * ((u5 + (64 : Int32)) - (1 : Int32))) ≤ m6) (t := 72) (e := 60) (L' := [some (.ref 28), some (.int u1), some (.int u2), some (.ref 44), some (.int u4), some (.int u5), some (.int m6)]) (S' := []) (w' := px_w K s t) (q := []) 9 hM rfl trivial (fun hc1 => ?_) (fun hc1 => ?_)
    · rw [if_pos hc1] at h
      cases h
      exact px_E_le (px_leC_L _ _ (by simp [px_leC, px_le1, Value.category])) ha
    · rw [if_neg hc1] at h
      obtain ⟨⟨hq2, hq3⟩, h⟩ := px_gd_some h
      refine px_blk (i' := 70) (L' := [some (.ref 28), some (.int u1), some (.int u2), some (.ref 44), some (.int u4), some (.int u5), some (.int m6)]) (S' := []) (w' := px_w K (sA s 32 m6.toNatClampNeg ((s.2.2.1 32) (m6 + (16 : Int32)).toNatClampNeg)) t) (q := [vp_in (m6 + (16 : Int32)) (K.2.2 32), vp_in m6 (K.2.2 32)]) 10 hM rfl (show (vp_in (m6 + (16 : Int32)) (K.2.2 32)) ∧ (vp_in m6 (K.2.2 32)) from ⟨hq2, hq3⟩) ?_
      obtain ⟨s4, hs5, h⟩ := px_let_some h
      rw [← hs5]
      refine px_blk (i' := 51) (L' := [some (.ref 28), some (.int u1), some (.int u2), some (.ref 44), some (.int u4), some (.int u5), some (.int (m6 + (1 : Int32)))]) (S' := []) (w' := px_w K s4 t) (q := []) 2 hM rfl trivial ?_
      exact ih (m6 + (1 : Int32)) s4 t z h o w2 ha
noncomputable def f_M_write_28_44 (K : px_K) (N : Nat) (a0 : Int32) (a1 : Int32) (a2 : Int32) (s : px_S) (t : px_W) : Option px_Res :=
  (px_bi (f_M_acts_28 K N s t) (fun v4 s1 t2 => (if ¬ v4 = 0 then (px_gd ((vp_in a0 (K.2.2 33)) ∧ (vp_in a0 (K.2.2 33))) (px_let (sA s1 33 a0.toNatClampNeg (((s1.2.2.1 33) a0.toNatClampNeg) + (1 : Int32))) (fun s9 => (px_let ((64 : Int32) * a0) (fun v11 => (px_gd (vp_in a0 (K.2.2 30)) (if ¬ ((s9.2.2.1 30) a0.toNatClampNeg) = (64 : Int32) then (px_gd (vp_in a0 (K.2.2 30)) (px_let (v11 + ((s9.2.2.1 30) a0.toNatClampNeg)) (fun v16 => (px_gd (vp_in v16 (K.2.2 31)) (px_let (sA s9 31 v16.toNatClampNeg a1) (fun s19 => (px_lp (l_M_write_28_44_94 K N N a0 a2 v16 (0 : Int32) s19 t2) (fun i21 vs22 s23 t24 => (if i21 = 112 then (px_v0 vs22 (px_gd ((vp_in a0 (K.2.2 30)) ∧ (vp_in a0 (K.2.2 30))) (px_let (sA s23 30 a0.toNatClampNeg (((s23.2.2.1 30) a0.toNatClampNeg) + (1 : Int32))) (fun s30 => (some (.inl none, s30, t24)))))) else none)) (fun z26 => some z26)))))))) else (px_bv (f_M_becomesStable_28 K N a0 (0 : Int32) s9 t2) (fun s32 t33 => (px_lp (l_M_write_28_44_28 K N N a0 a1 a2 v11 v11 s32 t33) (fun i37 vs38 s39 t40 => (if i37 = 47 then (px_v0 vs38 (px_let ((16 : Int32) * v11) (fun v44 => (px_lp (l_M_write_28_44_51 K N N a0 a1 a2 v11 v44 s39 t40) (fun i46 vs47 s48 t49 => (if i46 = 72 then (px_v0 vs47 (px_gd ((vp_in a0 (K.2.2 30)) ∧ (vp_in a0 (K.2.2 30))) (px_let (sA s48 30 a0.toNatClampNeg (((s48.2.2.1 30) a0.toNatClampNeg) - (1 : Int32))) (fun s55 => (px_gd (vp_in a0 (K.2.2 30)) (px_let (v11 + ((s55.2.2.1 30) a0.toNatClampNeg)) (fun v58 => (px_gd (vp_in v58 (K.2.2 31)) (px_let (sA s55 31 v58.toNatClampNeg a1) (fun s61 => (px_lp (l_M_write_28_44_94 K N N a0 a2 v58 (0 : Int32) s61 t49) (fun i63 vs64 s65 t66 => (if i63 = 112 then (px_v0 vs64 (px_gd ((vp_in a0 (K.2.2 30)) ∧ (vp_in a0 (K.2.2 30))) (px_let (sA s65 30 a0.toNatClampNeg (((s65.2.2.1 30) a0.toNatClampNeg) + (1 : Int32))) (fun s72 => (some (.inl none, s72, t66)))))) else none)) (fun z68 => some z68)))))))))))) else none)) (fun z51 => some z51))))) else none)) (fun z42 => some z42))) (fun x36 s32 t33 => none))))))))) else (some (.inl none, s1, t2)))) (fun x5 s1 t2 => none))
set_option maxRecDepth 100000 in
theorem e_M_write_28_44 (K : px_K) (N : Nat) (a0 : Int32) (a1 : Int32) (a2 : Int32) (s : px_S) (t : px_W) (r : px_Res) (h : f_M_write_28_44 K N a0 a1 a2 s t = some r) : px_E px_ET px_P 5 29 0 (px_ent 7 [.ref 28, .int a0, .int a1, .ref 44, .int a2]) [] (px_w K s t) r.1 (px_w K r.2.1 r.2.2) := by
  have hM : px_P[29]? = some pm_M_write := rfl
  unfold f_M_write_28_44 at h
  refine px_blk (i' := 1) (L' := [some (.ref 28), some (.int a0), some (.int a1), some (.ref 44), some (.int a2), none, none]) (S' := [.ref 28]) (w' := px_w K s t) (q := []) 1 hM rfl trivial ?_
  rcases px_bi_some h with ⟨v4, s1, t2, hk3, h⟩ | ⟨x5, s1, t2, hk3, h⟩
  · refine px_E_call hM rfl rfl rfl rfl (px_E_mono (by decide) (e_M_acts_28 K N s t _ hk3)) ?_
    refine px_blkif (c := ¬ v4 = 0) (t := 4) (e := 3) (L' := [some (.ref 28), some (.int a0), some (.int a1), some (.ref 44), some (.int a2), none, none]) (S' := []) (w' := px_w K s1 t2) (q := []) 1 hM rfl trivial (fun hc6 => ?_) (fun hc6 => ?_)
    · rw [if_pos hc6] at h
      obtain ⟨⟨hq7, hq8⟩, h⟩ := px_gd_some h
      refine px_blk (i' := 12) (L' := [some (.ref 28), some (.int a0), some (.int a1), some (.ref 44), some (.int a2), none, none]) (S' := []) (w' := px_w K (sA s1 33 a0.toNatClampNeg (((s1.2.2.1 33) a0.toNatClampNeg) + (1 : Int32))) t2) (q := [vp_in a0 (K.2.2 33), vp_in a0 (K.2.2 33)]) 8 hM rfl (show (vp_in a0 (K.2.2 33)) ∧ (vp_in a0 (K.2.2 33)) from ⟨hq7, hq8⟩) ?_
      obtain ⟨s9, hs10, h⟩ := px_let_some h
      rw [← hs10]
      refine px_blk (i' := 16) (L' := [some (.ref 28), some (.int a0), some (.int a1), some (.ref 44), some (.int a2), some (.int ((64 : Int32) * a0)), none]) (S' := []) (w' := px_w K s9 t2) (q := []) 4 hM rfl trivial ?_
      obtain ⟨v11, hv12, h⟩ := px_let_some h
      rw [← hv12]
      obtain ⟨hq13, h⟩ := px_gd_some h
      refine px_blkif (c := ¬ ((s9.2.2.1 30) a0.toNatClampNeg) = (64 : Int32)) (t := 80) (e := 22) (L' := [some (.ref 28), some (.int a0), some (.int a1), some (.ref 44), some (.int a2), some (.int v11), none]) (S' := []) (w' := px_w K s9 t2) (q := [vp_in a0 (K.2.2 30)]) 6 hM rfl (show vp_in a0 (K.2.2 30) from hq13) (fun hc14 => ?_) (fun hc14 => ?_)
      · rw [if_pos hc14] at h
        obtain ⟨hq15, h⟩ := px_gd_some h
        refine px_blk (i' := 87) (L' := [some (.ref 28), some (.int a0), some (.int a1), some (.ref 44), some (.int a2), some (.int (v11 + ((s9.2.2.1 30) a0.toNatClampNeg))), none]) (S' := []) (w' := px_w K s9 t2) (q := [vp_in a0 (K.2.2 30)]) 7 hM rfl (show vp_in a0 (K.2.2 30) from hq15) ?_
        obtain ⟨v16, hv17, h⟩ := px_let_some h
        rw [← hv17]
        obtain ⟨hq18, h⟩ := px_gd_some h
        refine px_blk (i' := 92) (L' := [some (.ref 28), some (.int a0), some (.int a1), some (.ref 44), some (.int a2), some (.int v16), none]) (S' := []) (w' := px_w K (sA s9 31 v16.toNatClampNeg a1) t2) (q := [vp_in v16 (K.2.2 31)]) 5 hM rfl (show vp_in v16 (K.2.2 31) from hq18) ?_
        obtain ⟨s19, hs20, h⟩ := px_let_some h
        rw [← hs20]
        refine px_blk (i' := 94) (L' := [some (.ref 28), some (.int a0), some (.int a1), some (.ref 44), some (.int a2), some (.int v16), some (.int (0 : Int32))]) (S' := []) (w' := px_w K s19 t2) (q := []) 2 hM rfl trivial ?_
        rcases px_lp_some h with ⟨i21, vs22, s23, t24, hl25, h⟩ | ⟨z26, hl25, h⟩
        · by_cases hi27 : i21 = 112
          · subst hi27
            rw [if_pos rfl] at h
            have h9 := px_v0_some h
            clear h
            obtain ⟨rfl, h⟩ := h9
            refine px_E_le (px_leC_L _ _ (by simp [px_leC, px_le1, Value.category])) (e_l_M_write_28_44_94 K N a0 a2 v16 N (0 : Int32) s19 t2 _ hl25 _ _ ?_)
            show px_E px_ET px_P 5 29 112 [some (.ref 28), some (.int a0), none, none, none, none, none] [] (px_w K s23 t24) _ _
            obtain ⟨⟨hq28, hq29⟩, h⟩ := px_gd_some h
            refine px_blk (i' := 120) (L' := [some (.ref 28), some (.int a0), none, none, none, none, none]) (S' := []) (w' := px_w K (sA s23 30 a0.toNatClampNeg (((s23.2.2.1 30) a0.toNatClampNeg) + (1 : Int32))) t24) (q := [vp_in a0 (K.2.2 30), vp_in a0 (K.2.2 30)]) 8 hM rfl (show (vp_in a0 (K.2.2 30)) ∧ (vp_in a0 (K.2.2 30)) from ⟨hq28, hq29⟩) ?_
            obtain ⟨s30, hs31, h⟩ := px_let_some h
            rw [← hs31]
            cases h
            exact px_E_ret hM rfl rfl rfl trivial
          · rw [if_neg hi27] at h
            cases h
        · cases h
          exact px_E_le (px_leC_L _ _ (by simp [px_leC, px_le1, Value.category])) (e_l_M_write_28_44_94 K N a0 a2 v16 N (0 : Int32) s19 t2 _ hl25 _ _ ⟨rfl, rfl⟩)
      · rw [if_neg hc14] at h
        refine px_blk (i' := 25) (L' := [some (.ref 28), some (.int a0), some (.int a1), some (.ref 44), some (.int a2), some (.int v11), none]) (S' := [.int (0 : Int32), .int a0, .ref 28]) (w' := px_w K s9 t2) (q := []) 3 hM rfl trivial ?_
        rcases px_bv_some h with ⟨s32, t33, hk34, h⟩ | ⟨x36, s32, t33, hk34, h⟩
        · refine px_E_call hM rfl rfl rfl rfl (px_E_mono (by decide) (e_M_becomesStable_28 K N a0 (0 : Int32) s9 t2 _ hk34)) ?_
          refine px_blk (i' := 28) (L' := [some (.ref 28), some (.int a0), some (.int a1), some (.ref 44), some (.int a2), some (.int v11), some (.int v11)]) (S' := []) (w' := px_w K s32 t33) (q := []) 2 hM rfl trivial ?_
          rcases px_lp_some h with ⟨i37, vs38, s39, t40, hl41, h⟩ | ⟨z42, hl41, h⟩
          · by_cases hi43 : i37 = 47
            · subst hi43
              rw [if_pos rfl] at h
              have h9 := px_v0_some h
              clear h
              obtain ⟨rfl, h⟩ := h9
              refine e_l_M_write_28_44_28 K N a0 a1 a2 v11 N v11 s32 t33 _ hl41 _ _ ?_
              show px_E px_ET px_P 5 29 47 [some (.ref 28), some (.int a0), some (.int a1), some (.ref 44), some (.int a2), some (.int v11), none] [] (px_w K s39 t40) _ _
              refine px_blk (i' := 51) (L' := [some (.ref 28), some (.int a0), some (.int a1), some (.ref 44), some (.int a2), some (.int v11), some (.int ((16 : Int32) * v11))]) (S' := []) (w' := px_w K s39 t40) (q := []) 4 hM rfl trivial ?_
              obtain ⟨v44, hv45, h⟩ := px_let_some h
              rw [← hv45]
              rcases px_lp_some h with ⟨i46, vs47, s48, t49, hl50, h⟩ | ⟨z51, hl50, h⟩
              · by_cases hi52 : i46 = 72
                · subst hi52
                  rw [if_pos rfl] at h
                  have h9 := px_v0_some h
                  clear h
                  obtain ⟨rfl, h⟩ := h9
                  refine e_l_M_write_28_44_51 K N a0 a1 a2 v11 N v44 s39 t40 _ hl50 _ _ ?_
                  show px_E px_ET px_P 5 29 72 [some (.ref 28), some (.int a0), some (.int a1), some (.ref 44), some (.int a2), some (.int v11), none] [] (px_w K s48 t49) _ _
                  obtain ⟨⟨hq53, hq54⟩, h⟩ := px_gd_some h
                  refine px_blk (i' := 80) (L' := [some (.ref 28), some (.int a0), some (.int a1), some (.ref 44), some (.int a2), some (.int v11), none]) (S' := []) (w' := px_w K (sA s48 30 a0.toNatClampNeg (((s48.2.2.1 30) a0.toNatClampNeg) - (1 : Int32))) t49) (q := [vp_in a0 (K.2.2 30), vp_in a0 (K.2.2 30)]) 8 hM rfl (show (vp_in a0 (K.2.2 30)) ∧ (vp_in a0 (K.2.2 30)) from ⟨hq53, hq54⟩) ?_
                  obtain ⟨s55, hs56, h⟩ := px_let_some h
                  rw [← hs56]
                  obtain ⟨hq57, h⟩ := px_gd_some h
                  refine px_blk (i' := 87) (L' := [some (.ref 28), some (.int a0), some (.int a1), some (.ref 44), some (.int a2), some (.int (v11 + ((s55.2.2.1 30) a0.toNatClampNeg))), none]) (S' := []) (w' := px_w K s55 t49) (q := [vp_in a0 (K.2.2 30)]) 7 hM rfl (show vp_in a0 (K.2.2 30) from hq57) ?_
                  obtain ⟨v58, hv59, h⟩ := px_let_some h
                  rw [← hv59]
                  obtain ⟨hq60, h⟩ := px_gd_some h
                  refine px_blk (i' := 92) (L' := [some (.ref 28), some (.int a0), some (.int a1), some (.ref 44), some (.int a2), some (.int v58), none]) (S' := []) (w' := px_w K (sA s55 31 v58.toNatClampNeg a1) t49) (q := [vp_in v58 (K.2.2 31)]) 5 hM rfl (show vp_in v58 (K.2.2 31) from hq60) ?_
                  obtain ⟨s61, hs62, h⟩ := px_let_some h
                  rw [← hs62]
                  refine px_blk (i' := 94) (L' := [some (.ref 28), some (.int a0), some (.int a1), some (.ref 44), some (.int a2), some (.int v58), some (.int (0 : Int32))]) (S' := []) (w' := px_w K s61 t49) (q := []) 2 hM rfl trivial ?_
                  rcases px_lp_some h with ⟨i63, vs64, s65, t66, hl67, h⟩ | ⟨z68, hl67, h⟩
                  · by_cases hi69 : i63 = 112
                    · subst hi69
                      rw [if_pos rfl] at h
                      have h9 := px_v0_some h
                      clear h
                      obtain ⟨rfl, h⟩ := h9
                      refine px_E_le (px_leC_L _ _ (by simp [px_leC, px_le1, Value.category])) (e_l_M_write_28_44_94 K N a0 a2 v58 N (0 : Int32) s61 t49 _ hl67 _ _ ?_)
                      show px_E px_ET px_P 5 29 112 [some (.ref 28), some (.int a0), none, none, none, none, none] [] (px_w K s65 t66) _ _
                      obtain ⟨⟨hq70, hq71⟩, h⟩ := px_gd_some h
                      refine px_blk (i' := 120) (L' := [some (.ref 28), some (.int a0), none, none, none, none, none]) (S' := []) (w' := px_w K (sA s65 30 a0.toNatClampNeg (((s65.2.2.1 30) a0.toNatClampNeg) + (1 : Int32))) t66) (q := [vp_in a0 (K.2.2 30), vp_in a0 (K.2.2 30)]) 8 hM rfl (show (vp_in a0 (K.2.2 30)) ∧ (vp_in a0 (K.2.2 30)) from ⟨hq70, hq71⟩) ?_
                      obtain ⟨s72, hs73, h⟩ := px_let_some h
                      rw [← hs73]
                      cases h
                      exact px_E_ret hM rfl rfl rfl trivial
                    · rw [if_neg hi69] at h
                      cases h
                  · cases h
                    exact px_E_le (px_leC_L _ _ (by simp [px_leC, px_le1, Value.category])) (e_l_M_write_28_44_94 K N a0 a2 v58 N (0 : Int32) s61 t49 _ hl67 _ _ ⟨rfl, rfl⟩)
                · rw [if_neg hi52] at h
                  cases h
              · cases h
                exact e_l_M_write_28_44_51 K N a0 a1 a2 v11 N v44 s39 t40 _ hl50 _ _ ⟨rfl, rfl⟩
            · rw [if_neg hi43] at h
              cases h
          · cases h
            exact e_l_M_write_28_44_28 K N a0 a1 a2 v11 N v11 s32 t33 _ hl41 _ _ ⟨rfl, rfl⟩
        · cases h
    · rw [if_neg hc6] at h
      cases h
      exact px_E_ret hM rfl rfl rfl trivial
  · cases h
