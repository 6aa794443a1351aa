/-! THE METHODS AS FUNCTIONS (by program). -/
noncomputable def l_M_hasClosed_28_7 (K : px_K) (N : Nat) (n : Nat) (u1 : Int32) (m2 : Int32) (m3 : Int32) (s : px_S) (t : px_W) : Option px_LO := match n with
  | 0 => none
  | n + 1 => (if ((u1 * (s.1 27)) + (s.1 27)) ≤ m3 then (some (.inl (36, [m2], s, t))) else (if ¬ m2 = 0 then (l_M_hasClosed_28_7 K N n u1 (1 : Int32) (m3 + (1 : Int32)) s t) else (px_gd (vp_in m3 (K.2.2 36)) (if ((s.2.2.1 36) m3.toNatClampNeg) ≤ 0 then (l_M_hasClosed_28_7 K N n u1 (0 : Int32) (m3 + (1 : Int32)) s t) else (px_gd (vp_in m3 (K.2.2 36)) (if (s.1 32) ≤ ((s.2.2.1 36) m3.toNatClampNeg) then (l_M_hasClosed_28_7 K N n u1 (0 : Int32) (m3 + (1 : Int32)) s t) else (l_M_hasClosed_28_7 K N n u1 (1 : Int32) (m3 + (1 : Int32)) s t)))))))
def a_l_M_hasClosed_28_7 (K : px_K) (u1 : Int32) (z : px_LO) (o : Option Value ⊕ Nat) (w2 : px_W) : Prop := match z with
  | .inr (o', s', t') => o = o' ∧ w2 = px_w K s' t'
  | .inl (36, [y2], s', t') => px_E px_ET px_P 1 42 36 [none, none, some (.int y2), none] [] (px_w K s' t') o w2
  | _ => False
set_option maxRecDepth 100000 in
theorem e_l_M_hasClosed_28_7 (K : px_K) (N : Nat) (u1 : Int32) : ∀ (n : Nat) (m2 : Int32) (m3 : Int32) (s : px_S) (t : px_W) (z : px_LO), l_M_hasClosed_28_7 K N n u1 m2 m3 s t = some z → ∀ (o : Option Value ⊕ Nat) (w2 : px_W), a_l_M_hasClosed_28_7 K u1 z o w2 → px_E px_ET px_P 1 42 7 [some (.ref 28), some (.int u1), some (.int m2), some (.int m3)] [] (px_w K s t) o w2 := by
  have hM : px_P[42]? = some pm_M_hasClosed := rfl
  intro n
  induction n with
  | zero => intro m2 m3 s t z h; cases h
  | succ n ih =>
    intro m2 m3 s t z h o w2 ha
    unfold l_M_hasClosed_28_7 at h
    refine px_blkif (c := ((u1 * (s.1 27)) + (s.1 27)) ≤ m3) (t := 36) (e := 16) (L' := [some (.ref 28), some (.int u1), some (.int m2), some (.int m3)]) (S' := []) (w' := px_w K s t) (q := []) 9 hM rfl trivial (fun hc1 => ?_) (fun hc1 => ?_)
    · rw [if_pos hc1] at h
      cases h
      exact px_E_le (px_leC_L _ _ (by simp [px_leC, px_le1, Value.category])) ha
    · rw [if_neg hc1] at h
      refine px_blkif (c := ¬ m2 = 0) (t := 30) (e := 18) (L' := [some (.ref 28), some (.int u1), some (.int m2), some (.int m3)]) (S' := []) (w' := px_w K s t) (q := []) 2 hM rfl trivial (fun hc2 => ?_) (fun hc2 => ?_)
      · rw [if_pos hc2] at h
        refine px_blk (i' := 7) (L' := [some (.ref 28), some (.int u1), some (.int (1 : Int32)), some (.int (m3 + (1 : Int32)))]) (S' := []) (w' := px_w K s t) (q := []) 5 hM rfl trivial ?_
        exact ih (1 : Int32) (m3 + (1 : Int32)) s t z h o w2 ha
      · rw [if_neg hc2] at h
        obtain ⟨hq3, h⟩ := px_gd_some h
        refine px_blkif (c := ((s.2.2.1 36) m3.toNatClampNeg) ≤ 0) (t := 32) (e := 23) (L' := [some (.ref 28), some (.int u1), some (.int m2), some (.int m3)]) (S' := []) (w' := px_w K s t) (q := [vp_in m3 (K.2.2 36)]) 5 hM rfl (show vp_in m3 (K.2.2 36) from hq3) (fun hc4 => ?_) (fun hc4 => ?_)
        · rw [if_pos hc4] at h
          refine px_blk (i' := 7) (L' := [some (.ref 28), some (.int u1), some (.int (0 : Int32)), some (.int (m3 + (1 : Int32)))]) (S' := []) (w' := px_w K s t) (q := []) 4 hM rfl trivial ?_
          exact ih (0 : Int32) (m3 + (1 : Int32)) s t z h o w2 ha
        · rw [if_neg hc4] at h
          obtain ⟨hq5, h⟩ := px_gd_some h
          refine px_blkif (c := (s.1 32) ≤ ((s.2.2.1 36) m3.toNatClampNeg)) (t := 32) (e := 30) (L' := [some (.ref 28), some (.int u1), some (.int m2), some (.int m3)]) (S' := []) (w' := px_w K s t) (q := [vp_in m3 (K.2.2 36)]) 7 hM rfl (show vp_in m3 (K.2.2 36) from hq5) (fun hc6 => ?_) (fun hc6 => ?_)
          · rw [if_pos hc6] at h
            refine px_blk (i' := 7) (L' := [some (.ref 28), some (.int u1), some (.int (0 : Int32)), some (.int (m3 + (1 : Int32)))]) (S' := []) (w' := px_w K s t) (q := []) 4 hM rfl trivial ?_
            exact ih (0 : Int32) (m3 + (1 : Int32)) s t z h o w2 ha
          · rw [if_neg hc6] at h
            refine px_blk (i' := 7) (L' := [some (.ref 28), some (.int u1), some (.int (1 : Int32)), some (.int (m3 + (1 : Int32)))]) (S' := []) (w' := px_w K s t) (q := []) 5 hM rfl trivial ?_
            exact ih (1 : Int32) (m3 + (1 : Int32)) s t z h o w2 ha
noncomputable def f_M_hasClosed_28 (K : px_K) (N : Nat) (a0 : Int32) (s : px_S) (t : px_W) : Option px_Res :=
  (px_lp (l_M_hasClosed_28_7 K N N a0 (0 : Int32) (a0 * (s.1 27)) s t) (fun i1 vs2 s3 t4 => (if i1 = 36 then (px_v1 vs2 (fun y7 => (px_gd (y7 = 0 ∨ y7 = 1) (some (.inl (some (.int y7)), s3, t4))))) else none)) (fun z6 => some z6))
set_option maxRecDepth 100000 in
theorem e_M_hasClosed_28 (K : px_K) (N : Nat) (a0 : Int32) (s : px_S) (t : px_W) (r : px_Res) (h : f_M_hasClosed_28 K N a0 s t = some r) : px_E px_ET px_P 1 42 0 (px_ent 4 [.ref 28, .int a0]) [] (px_w K s t) r.1 (px_w K r.2.1 r.2.2) := by
  have hM : px_P[42]? = some pm_M_hasClosed := rfl
  unfold f_M_hasClosed_28 at h
  refine px_blk (i' := 7) (L' := [some (.ref 28), some (.int a0), some (.int (0 : Int32)), some (.int (a0 * (s.1 27)))]) (S' := []) (w' := px_w K s t) (q := []) 7 hM rfl trivial ?_
  rcases px_lp_some h with ⟨i1, vs2, s3, t4, hl5, h⟩ | ⟨z6, hl5, h⟩
  · by_cases hi8 : i1 = 36
    · subst hi8
      rw [if_pos rfl] at h
      have h9 := px_v1_some h
      clear h
      obtain ⟨y7, rfl, h⟩ := h9
      refine e_l_M_hasClosed_28_7 K N a0 N (0 : Int32) (a0 * (s.1 27)) s t _ hl5 _ _ ?_
      show px_E px_ET px_P 1 42 36 [none, none, some (.int y7), none] [] (px_w K s3 t4) _ _
      refine px_blk (i' := 37) (L' := [none, none, some (.int y7), none]) (S' := [.int y7]) (w' := px_w K s3 t4) (q := []) 1 hM rfl trivial ?_
      obtain ⟨hq9, h⟩ := px_gd_some h
      cases h
      exact px_E_ret hM rfl rfl rfl (show y7 = 0 ∨ y7 = 1 from hq9)
    · rw [if_neg hi8] at h
      cases h
  · cases h
    exact e_l_M_hasClosed_28_7 K N a0 N (0 : Int32) (a0 * (s.1 27)) s t _ hl5 _ _ ⟨rfl, rfl⟩
noncomputable def l_M_nextOf_28_4 (K : px_K) (N : Nat) (n : Nat) (u1 : Int32) (u2 : Int32) (m3 : Int32) (m4 : Int32) (s : px_S) (t : px_W) : Option px_LO := match n with
  | 0 => none
  | n + 1 => (if ((s.1 26) * (s.1 27)) ≤ m4 then (some (.inl (38, [m3], s, t))) else (px_gd (vp_in m4 (K.2.2 36)) (if ¬ ((s.2.2.1 36) m4.toNatClampNeg) = u1 then (l_M_nextOf_28_4 K N n u1 u2 m3 (m4 + (1 : Int32)) s t) else (px_gd (vp_in m4 (K.2.2 35)) (if ((s.2.2.1 35) m4.toNatClampNeg) ≤ u2 then (l_M_nextOf_28_4 K N n u1 u2 m3 (m4 + (1 : Int32)) s t) else (if m3 < 0 then (l_M_nextOf_28_4 K N n u1 u2 m4 (m4 + (1 : Int32)) s t) else (px_gd ((vp_in m4 (K.2.2 35)) ∧ (vp_in m3 (K.2.2 35))) (if ((s.2.2.1 35) m3.toNatClampNeg) ≤ ((s.2.2.1 35) m4.toNatClampNeg) then (l_M_nextOf_28_4 K N n u1 u2 m3 (m4 + (1 : Int32)) s t) else (l_M_nextOf_28_4 K N n u1 u2 m4 (m4 + (1 : Int32)) s t)))))))))
def a_l_M_nextOf_28_4 (K : px_K) (u1 : Int32) (u2 : Int32) (z : px_LO) (o : Option Value ⊕ Nat) (w2 : px_W) : Prop := match z with
  | .inr (o', s', t') => o = o' ∧ w2 = px_w K s' t'
  | .inl (38, [y3], s', t') => px_E px_ET px_P 1 47 38 [none, none, none, some (.int y3), none] [] (px_w K s' t') o w2
  | _ => False
set_option maxRecDepth 100000 in
theorem e_l_M_nextOf_28_4 (K : px_K) (N : Nat) (u1 : Int32) (u2 : Int32) : ∀ (n : Nat) (m3 : Int32) (m4 : Int32) (s : px_S) (t : px_W) (z : px_LO), l_M_nextOf_28_4 K N n u1 u2 m3 m4 s t = some z → ∀ (o : Option Value ⊕ Nat) (w2 : px_W), a_l_M_nextOf_28_4 K u1 u2 z o w2 → px_E px_ET px_P 1 47 4 [some (.ref 28), some (.int u1), some (.int u2), some (.int m3), some (.int m4)] [] (px_w K s t) o w2 := by
  have hM : px_P[47]? = some pm_M_nextOf := rfl
  intro n
  induction n with
  | zero => intro m3 m4 s t z h; cases h
  | succ n ih =>
    intro m3 m4 s t z h o w2 ha
    unfold l_M_nextOf_28_4 at h
    refine px_blkif (c := ((s.1 26) * (s.1 27)) ≤ m4) (t := 38) (e := 11) (L' := [some (.ref 28), some (.int u1), some (.int u2), some (.int m3), some (.int m4)]) (S' := []) (w' := px_w K s t) (q := []) 7 hM rfl trivial (fun hc1 => ?_) (fun hc1 => ?_)
    · rw [if_pos hc1] at h
      cases h
      exact px_E_le (px_leC_L _ _ (by simp [px_leC, px_le1, Value.category])) ha
    · rw [if_neg hc1] at h
      obtain ⟨hq2, h⟩ := px_gd_some h
      refine px_blkif (c := ¬ ((s.2.2.1 36) m4.toNatClampNeg) = u1) (t := 36) (e := 17) (L' := [some (.ref 28), some (.int u1), some (.int u2), some (.int m3), some (.int m4)]) (S' := []) (w' := px_w K s t) (q := [vp_in m4 (K.2.2 36)]) 6 hM rfl (show vp_in m4 (K.2.2 36) from hq2) (fun hc3 => ?_) (fun hc3 => ?_)
      · rw [if_pos hc3] at h
        refine px_blk (i' := 4) (L' := [some (.ref 28), some (.int u1), some (.int u2), some (.int m3), some (.int (m4 + (1 : Int32)))]) (S' := []) (w' := px_w K s t) (q := []) 2 hM rfl trivial ?_
        exact ih m3 (m4 + (1 : Int32)) s t z h o w2 ha
      · rw [if_neg hc3] at h
        obtain ⟨hq4, h⟩ := px_gd_some h
        refine px_blkif (c := ((s.2.2.1 35) m4.toNatClampNeg) ≤ u2) (t := 36) (e := 23) (L' := [some (.ref 28), some (.int u1), some (.int u2), some (.int m3), some (.int m4)]) (S' := []) (w' := px_w K s t) (q := [vp_in m4 (K.2.2 35)]) 6 hM rfl (show vp_in m4 (K.2.2 35) from hq4) (fun hc5 => ?_) (fun hc5 => ?_)
        · rw [if_pos hc5] at h
          refine px_blk (i' := 4) (L' := [some (.ref 28), some (.int u1), some (.int u2), some (.int m3), some (.int (m4 + (1 : Int32)))]) (S' := []) (w' := px_w K s t) (q := []) 2 hM rfl trivial ?_
          exact ih m3 (m4 + (1 : Int32)) s t z h o w2 ha
        · rw [if_neg hc5] at h
          refine px_blkif (c := m3 < 0) (t := 34) (e := 25) (L' := [some (.ref 28), some (.int u1), some (.int u2), some (.int m3), some (.int m4)]) (S' := []) (w' := px_w K s t) (q := []) 2 hM rfl trivial (fun hc6 => ?_) (fun hc6 => ?_)
          · rw [if_pos hc6] at h
            refine px_blk (i' := 4) (L' := [some (.ref 28), some (.int u1), some (.int u2), some (.int m4), some (.int (m4 + (1 : Int32)))]) (S' := []) (w' := px_w K s t) (q := []) 4 hM rfl trivial ?_
            exact ih m4 (m4 + (1 : Int32)) s t z h o w2 ha
          · rw [if_neg hc6] at h
            obtain ⟨⟨hq7, hq8⟩, h⟩ := px_gd_some h
            refine px_blkif (c := ((s.2.2.1 35) m3.toNatClampNeg) ≤ ((s.2.2.1 35) m4.toNatClampNeg)) (t := 36) (e := 34) (L' := [some (.ref 28), some (.int u1), some (.int u2), some (.int m3), some (.int m4)]) (S' := []) (w' := px_w K s t) (q := [vp_in m4 (K.2.2 35), vp_in m3 (K.2.2 35)]) 9 hM rfl (show (vp_in m4 (K.2.2 35)) ∧ (vp_in m3 (K.2.2 35)) from ⟨hq7, hq8⟩) (fun hc9 => ?_) (fun hc9 => ?_)
            · rw [if_pos hc9] at h
              refine px_blk (i' := 4) (L' := [some (.ref 28), some (.int u1), some (.int u2), some (.int m3), some (.int (m4 + (1 : Int32)))]) (S' := []) (w' := px_w K s t) (q := []) 2 hM rfl trivial ?_
              exact ih m3 (m4 + (1 : Int32)) s t z h o w2 ha
            · rw [if_neg hc9] at h
              refine px_blk (i' := 4) (L' := [some (.ref 28), some (.int u1), some (.int u2), some (.int m4), some (.int (m4 + (1 : Int32)))]) (S' := []) (w' := px_w K s t) (q := []) 4 hM rfl trivial ?_
              exact ih m4 (m4 + (1 : Int32)) s t z h o w2 ha
noncomputable def f_M_nextOf_28 (K : px_K) (N : Nat) (a0 : Int32) (a1 : Int32) (s : px_S) (t : px_W) : Option px_Res :=
  (px_lp (l_M_nextOf_28_4 K N N a0 a1 (-1 : Int32) (0 : Int32) s t) (fun i1 vs2 s3 t4 => (if i1 = 38 then (px_v1 vs2 (fun y7 => (some (.inl (some (.int y7)), s3, t4)))) else none)) (fun z6 => some z6))
set_option maxRecDepth 100000 in
theorem e_M_nextOf_28 (K : px_K) (N : Nat) (a0 : Int32) (a1 : Int32) (s : px_S) (t : px_W) (r : px_Res) (h : f_M_nextOf_28 K N a0 a1 s t = some r) : px_E px_ET px_P 1 47 0 (px_ent 5 [.ref 28, .int a0, .int a1]) [] (px_w K s t) r.1 (px_w K r.2.1 r.2.2) := by
  have hM : px_P[47]? = some pm_M_nextOf := rfl
  unfold f_M_nextOf_28 at h
  refine px_blk (i' := 4) (L' := [some (.ref 28), some (.int a0), some (.int a1), some (.int (-1 : Int32)), some (.int (0 : Int32))]) (S' := []) (w' := px_w K s t) (q := []) 4 hM rfl trivial ?_
  rcases px_lp_some h with ⟨i1, vs2, s3, t4, hl5, h⟩ | ⟨z6, hl5, h⟩
  · by_cases hi8 : i1 = 38
    · subst hi8
      rw [if_pos rfl] at h
      have h9 := px_v1_some h
      clear h
      obtain ⟨y7, rfl, h⟩ := h9
      refine e_l_M_nextOf_28_4 K N a0 a1 N (-1 : Int32) (0 : Int32) s t _ hl5 _ _ ?_
      show px_E px_ET px_P 1 47 38 [none, none, none, some (.int y7), none] [] (px_w K s3 t4) _ _
      refine px_blk (i' := 39) (L' := [none, none, none, some (.int y7), none]) (S' := [.int y7]) (w' := px_w K s3 t4) (q := []) 1 hM rfl trivial ?_
      cases h
      exact px_E_ret hM rfl rfl rfl trivial
    · rw [if_neg hi8] at h
      cases h
  · cases h
    exact e_l_M_nextOf_28_4 K N a0 a1 N (-1 : Int32) (0 : Int32) s t _ hl5 _ _ ⟨rfl, rfl⟩
noncomputable def l_M_copy_28_43_2 (K : px_K) (N : Nat) (n : Nat) (u1 : Int32) (u2 : Int32) (u4 : Int32) (m5 : Int32) (s : px_S) (t : px_W) : Option px_LO := match n with
  | 0 => none
  | n + 1 => (if (16 : Int32) ≤ m5 then (some (.inl (17, [], s, t))) else (px_bi (f_M_read_28 K N u1 u2 m5 s t) (fun v5 s2 t3 => (px_gd (vp_in (u4 + m5) (K.2.2 43)) (px_let (sA s2 43 (u4 + m5).toNatClampNeg v5) (fun s8 => (l_M_copy_28_43_2 K N n u1 u2 u4 (m5 + (1 : Int32)) s8 t3))))) (fun x6 s2 t3 => none)))
def a_l_M_copy_28_43_2 (K : px_K) (u1 : Int32) (u2 : Int32) (u4 : Int32) (z : px_LO) (o : Option Value ⊕ Nat) (w2 : px_W) : Prop := match z with
  | .inr (o', s', t') => o = o' ∧ w2 = px_w K s' t'
  | .inl (17, [], s', t') => px_E px_ET px_P 3 32 17 [none, none, none, none, none, none] [] (px_w K s' t') o w2
  | _ => False
set_option maxRecDepth 100000 in
theorem e_l_M_copy_28_43_2 (K : px_K) (N : Nat) (u1 : Int32) (u2 : Int32) (u4 : Int32) : ∀ (n : Nat) (m5 : Int32) (s : px_S) (t : px_W) (z : px_LO), l_M_copy_28_43_2 K N n u1 u2 u4 m5 s t = some z → ∀ (o : Option Value ⊕ Nat) (w2 : px_W), a_l_M_copy_28_43_2 K u1 u2 u4 z o w2 → px_E px_ET px_P 3 32 2 [some (.ref 28), some (.int u1), some (.int u2), some (.ref 43), some (.int u4), some (.int m5)] [] (px_w K s t) o w2 := by
  have hM : px_P[32]? = some pm_M_copy := rfl
  intro n
  induction n with
  | zero => intro m5 s t z h; cases h
  | succ n ih =>
    intro m5 s t z h o w2 ha
    unfold l_M_copy_28_43_2 at h
    refine px_blkif (c := (16 : Int32) ≤ m5) (t := 17) (e := 5) (L' := [some (.ref 28), some (.int u1), some (.int u2), some (.ref 43), some (.int u4), some (.int m5)]) (S' := []) (w' := px_w K s t) (q := []) 3 hM rfl trivial (fun hc1 => ?_) (fun hc1 => ?_)
    · rw [if_pos hc1] at h
      cases h
      exact px_E_le (px_leC_L _ _ (by simp [px_leC, px_le1, Value.category])) ha
    · rw [if_neg hc1] at h
      refine px_blk (i' := 13) (L' := [some (.ref 28), some (.int u1), some (.int u2), some (.ref 43), some (.int u4), some (.int m5)]) (S' := [.int m5, .int u2, .int u1, .ref 28, .int (u4 + m5), .ref 43]) (w' := px_w K s t) (q := []) 8 hM rfl trivial ?_
      rcases px_bi_some h with ⟨v5, s2, t3, hk4, h⟩ | ⟨x6, s2, t3, hk4, h⟩
      · refine px_E_call hM rfl rfl rfl rfl (px_E_mono (by decide) (e_M_read_28 K N u1 u2 m5 s t _ hk4)) ?_
        obtain ⟨hq7, h⟩ := px_gd_some h
        refine px_blk (i' := 15) (L' := [some (.ref 28), some (.int u1), some (.int u2), some (.ref 43), some (.int u4), some (.int m5)]) (S' := []) (w' := px_w K (sA s2 43 (u4 + m5).toNatClampNeg v5) t3) (q := [vp_in (u4 + m5) (K.2.2 43)]) 1 hM rfl (show vp_in (u4 + m5) (K.2.2 43) from hq7) ?_
        obtain ⟨s8, hs9, h⟩ := px_let_some h
        rw [← hs9]
        refine px_blk (i' := 2) (L' := [some (.ref 28), some (.int u1), some (.int u2), some (.ref 43), some (.int u4), some (.int (m5 + (1 : Int32)))]) (S' := []) (w' := px_w K s8 t3) (q := []) 2 hM rfl trivial ?_
        exact ih (m5 + (1 : Int32)) s8 t3 z h o w2 ha
      · cases h
noncomputable def f_M_copy_28_43 (K : px_K) (N : Nat) (a0 : Int32) (a1 : Int32) (a2 : Int32) (s : px_S) (t : px_W) : Option px_Res :=
  (px_lp (l_M_copy_28_43_2 K N N a0 a1 a2 (0 : Int32) s t) (fun i1 vs2 s3 t4 => (if i1 = 17 then (px_v0 vs2 (some (.inl none, s3, t4))) else none)) (fun z6 => some z6))
set_option maxRecDepth 100000 in
theorem e_M_copy_28_43 (K : px_K) (N : Nat) (a0 : Int32) (a1 : Int32) (a2 : Int32) (s : px_S) (t : px_W) (r : px_Res) (h : f_M_copy_28_43 K N a0 a1 a2 s t = some r) : px_E px_ET px_P 3 32 0 (px_ent 6 [.ref 28, .int a0, .int a1, .ref 43, .int a2]) [] (px_w K s t) r.1 (px_w K r.2.1 r.2.2) := by
  have hM : px_P[32]? = some pm_M_copy := rfl
  unfold f_M_copy_28_43 at h
  refine px_blk (i' := 2) (L' := [some (.ref 28), some (.int a0), some (.int a1), some (.ref 43), some (.int a2), some (.int (0 : Int32))]) (S' := []) (w' := px_w K s t) (q := []) 2 hM rfl trivial ?_
  rcases px_lp_some h with ⟨i1, vs2, s3, t4, hl5, h⟩ | ⟨z6, hl5, h⟩
  · by_cases hi7 : i1 = 17
    · subst hi7
      rw [if_pos rfl] at h
      have h9 := px_v0_some h
      clear h
      obtain ⟨rfl, h⟩ := h9
      refine e_l_M_copy_28_43_2 K N a0 a1 a2 N (0 : Int32) s t _ hl5 _ _ ?_
      show px_E px_ET px_P 3 32 17 [none, none, none, none, none, none] [] (px_w K s3 t4) _ _
      cases h
      exact px_E_ret hM rfl rfl rfl trivial
    · rw [if_neg hi7] at h
      cases h
  · cases h
    exact e_l_M_copy_28_43_2 K N a0 a1 a2 N (0 : Int32) s t _ hl5 _ _ ⟨rfl, rfl⟩
noncomputable def l_M_write_28_43_94 (K : px_K) (N : Nat) (n : Nat) (u1 : Int32) (u4 : Int32) (u5 : Int32) (m6 : Int32) (s : px_S) (t : px_W) : Option px_LO := match n with
  | 0 => none
  | n + 1 => (if (16 : Int32) ≤ m6 then (some (.inl (112, [], s, t))) else (px_gd (vp_in (u4 + m6) (K.2.2 43)) (px_gd (vp_in (((16 : Int32) * u5) + m6) (K.2.2 32)) (px_let (sA s 32 (((16 : Int32) * u5) + m6).toNatClampNeg ((s.2.2.1 43) (u4 + m6).toNatClampNeg)) (fun s4 => (l_M_write_28_43_94 K N n u1 u4 u5 (m6 + (1 : Int32)) s4 t))))))
def a_l_M_write_28_43_94 (K : px_K) (u1 : Int32) (u4 : Int32) (u5 : Int32) (z : px_LO) (o : Option Value ⊕ Nat) (w2 : px_W) : Prop := match z with
  | .inr (o', s', t') => o = o' ∧ w2 = px_w K s' t'
  | .inl (112, [], s', t') => px_E px_ET px_P 5 29 112 [some (.ref 28), some (.int u1), none, none, none, none, none] [] (px_w K s' t') o w2
  | _ => False
noncomputable def l_M_write_28_43_28 (K : px_K) (N : Nat) (n : Nat) (u1 : Int32) (u2 : Int32) (u4 : Int32) (u5 : Int32) (m6 : Int32) (s : px_S) (t : px_W) : Option px_LO := match n with
  | 0 => none
  | n + 1 => (if ((u5 + (64 : Int32)) - (1 : Int32)) ≤ m6 then (some (.inl (47, [], s, t))) else (px_gd ((vp_in (m6 + (1 : Int32)) (K.2.2 31)) ∧ (vp_in m6 (K.2.2 31))) (px_let (sA s 31 m6.toNatClampNeg ((s.2.2.1 31) (m6 + (1 : Int32)).toNatClampNeg)) (fun s4 => (l_M_write_28_43_28 K N n u1 u2 u4 u5 (m6 + (1 : Int32)) s4 t)))))
def a_l_M_write_28_43_28 (K : px_K) (u1 : Int32) (u2 : Int32) (u4 : Int32) (u5 : Int32) (z : px_LO) (o : Option Value ⊕ Nat) (w2 : px_W) : Prop := match z with
  | .inr (o', s', t') => o = o' ∧ w2 = px_w K s' t'
  | .inl (47, [], s', t') => px_E px_ET px_P 5 29 47 [some (.ref 28), some (.int u1), some (.int u2), some (.ref 43), some (.int u4), some (.int u5), none] [] (px_w K s' t') o w2
  | _ => False
noncomputable def l_M_write_28_43_51 (K : px_K) (N : Nat) (n : Nat) (u1 : Int32) (u2 : Int32) (u4 : Int32) (u5 : Int32) (m6 : Int32) (s : px_S) (t : px_W) : Option px_LO := match n with
  | 0 => none
  | n + 1 => (if ((16 : Int32) * ((u5 + (64 : Int32)) - (1 : Int32))) ≤ m6 then (some (.inl (72, [], s, t))) else (px_gd ((vp_in (m6 + (16 : Int32)) (K.2.2 32)) ∧ (vp_in m6 (K.2.2 32))) (px_let (sA s 32 m6.toNatClampNeg ((s.2.2.1 32) (m6 + (16 : Int32)).toNatClampNeg)) (fun s4 => (l_M_write_28_43_51 K N n u1 u2 u4 u5 (m6 + (1 : Int32)) s4 t)))))
def a_l_M_write_28_43_51 (K : px_K) (u1 : Int32) (u2 : Int32) (u4 : Int32) (u5 : Int32) (z : px_LO) (o : Option Value ⊕ Nat) (w2 : px_W) : Prop := match z with
  | .inr (o', s', t') => o = o' ∧ w2 = px_w K s' t'
  | .inl (72, [], s', t') => px_E px_ET px_P 5 29 72 [some (.ref 28), some (.int u1), some (.int u2), some (.ref 43), some (.int u4), some (.int u5), none] [] (px_w K s' t') o w2
  | _ => False
set_option maxRecDepth 100000 in
theorem e_l_M_write_28_43_94 (K : px_K) (N : Nat) (u1 : Int32) (u4 : Int32) (u5 : Int32) : ∀ (n : Nat) (m6 : Int32) (s : px_S) (t : px_W) (z : px_LO), l_M_write_28_43_94 K N n u1 u4 u5 m6 s t = some z → ∀ (o : Option Value ⊕ Nat) (w2 : px_W), a_l_M_write_28_43_94 K u1 u4 u5 z o w2 → px_E px_ET px_P 5 29 94 [some (.ref 28), some (.int u1), none, some (.ref 43), some (.int u4), some (.int u5), some (.int m6)] [] (px_w K s t) o w2 := by
  have hM : px_P[29]? = some pm_M_write := rfl
  intro n
  induction n with
  | zero => intro m6 s t z h; cases h
  | succ n ih =>
    intro m6 s t z h o w2 ha
    unfold l_M_write_28_43_94 at h
    refine px_blkif (c := (16 : Int32) ≤ m6) (t := 112) (e := 97) (L' := [some (.ref 28), some (.int u1), none, some (.ref 43), some (.int u4), some (.int u5), some (.int m6)]) (S' := []) (w' := px_w K s t) (q := []) 3 hM rfl trivial (fun hc1 => ?_) (fun hc1 => ?_)
    · rw [if_pos hc1] at h
      cases h
      exact px_E_le (px_leC_L _ _ (by simp [px_leC, px_le1, Value.category])) ha
    · rw [if_neg hc1] at h
      obtain ⟨hq2, h⟩ := px_gd_some h
      refine px_blk (i' := 109) (L' := [some (.ref 28), some (.int u1), none, some (.ref 43), some (.int u4), some (.int u5), some (.int m6)]) (S' := [.int ((s.2.2.1 43) (u4 + m6).toNatClampNeg), .int (((16 : Int32) * u5) + m6), .ref 32]) (w' := px_w K s t) (q := [vp_in (u4 + m6) (K.2.2 43)]) 12 hM rfl (show vp_in (u4 + m6) (K.2.2 43) from hq2) ?_
      obtain ⟨hq3, h⟩ := px_gd_some h
      refine px_blk (i' := 110) (L' := [some (.ref 28), some (.int u1), none, some (.ref 43), some (.int u4), some (.int u5), some (.int m6)]) (S' := []) (w' := px_w K (sA s 32 (((16 : Int32) * u5) + m6).toNatClampNeg ((s.2.2.1 43) (u4 + m6).toNatClampNeg)) t) (q := [vp_in (((16 : Int32) * u5) + m6) (K.2.2 32)]) 1 hM rfl (show vp_in (((16 : Int32) * u5) + m6) (K.2.2 32) from hq3) ?_
      obtain ⟨s4, hs5, h⟩ := px_let_some h
      rw [← hs5]
      refine px_blk (i' := 94) (L' := [some (.ref 28), some (.int u1), none, some (.ref 43), some (.int u4), some (.int u5), some (.int (m6 + (1 : Int32)))]) (S' := []) (w' := px_w K s4 t) (q := []) 2 hM rfl trivial ?_
      exact ih (m6 + (1 : Int32)) s4 t z h o w2 ha
set_option maxRecDepth 100000 in
theorem e_l_M_write_28_43_28 (K : px_K) (N : Nat) (u1 : Int32) (u2 : Int32) (u4 : Int32) (u5 : Int32) : ∀ (n : Nat) (m6 : Int32) (s : px_S) (t : px_W) (z : px_LO), l_M_write_28_43_28 K N n u1 u2 u4 u5 m6 s t = some z → ∀ (o : Option Value ⊕ Nat) (w2 : px_W), a_l_M_write_28_43_28 K u1 u2 u4 u5 z o w2 → px_E px_ET px_P 5 29 28 [some (.ref 28), some (.int u1), some (.int u2), some (.ref 43), some (.int u4), some (.int u5), some (.int m6)] [] (px_w K s t) o w2 := by
  have hM : px_P[29]? = some pm_M_write := rfl
  intro n
  induction n with
  | zero => intro m6 s t z h; cases h
  | succ n ih =>
    intro m6 s t z h o w2 ha
    unfold l_M_write_28_43_28 at h
    refine px_blkif (c := ((u5 + (64 : Int32)) - (1 : Int32)) ≤ m6) (t := 47) (e := 35) (L' := [some (.ref 28), some (.int u1), some (.int u2), some (.ref 43), some (.int u4), some (.int u5), some (.int m6)]) (S' := []) (w' := px_w K s t) (q := []) 7 hM rfl trivial (fun hc1 => ?_) (fun hc1 => ?_)
    · rw [if_pos hc1] at h
      cases h
      exact px_E_le (px_leC_L _ _ (by simp [px_leC, px_le1, Value.category])) ha
    · rw [if_neg hc1] at h
      obtain ⟨⟨hq2, hq3⟩, h⟩ := px_gd_some h
      refine px_blk (i' := 45) (L' := [some (.ref 28), some (.int u1), some (.int u2), some (.ref 43), some (.int u4), some (.int u5), some (.int m6)]) (S' := []) (w' := px_w K (sA s 31 m6.toNatClampNeg ((s.2.2.1 31) (m6 + (1 : Int32)).toNatClampNeg)) t) (q := [vp_in (m6 + (1 : Int32)) (K.2.2 31), vp_in m6 (K.2.2 31)]) 10 hM rfl (show (vp_in (m6 + (1 : Int32)) (K.2.2 31)) ∧ (vp_in m6 (K.2.2 31)) from ⟨hq2, hq3⟩) ?_
      obtain ⟨s4, hs5, h⟩ := px_let_some h
      rw [← hs5]
      refine px_blk (i' := 28) (L' := [some (.ref 28), some (.int u1), some (.int u2), some (.ref 43), some (.int u4), some (.int u5), some (.int (m6 + (1 : Int32)))]) (S' := []) (w' := px_w K s4 t) (q := []) 2 hM rfl trivial ?_
      exact ih (m6 + (1 : Int32)) s4 t z h o w2 ha
set_option maxRecDepth 100000 in
theorem e_l_M_write_28_43_51 (K : px_K) (N : Nat) (u1 : Int32) (u2 : Int32) (u4 : Int32) (u5 : Int32) : ∀ (n : Nat) (m6 : Int32) (s : px_S) (t : px_W) (z : px_LO), l_M_write_28_43_51 K N n u1 u2 u4 u5 m6 s t = some z → ∀ (o : Option Value ⊕ Nat) (w2 : px_W), a_l_M_write_28_43_51 K u1 u2 u4 u5 z o w2 → px_E px_ET px_P 5 29 51 [some (.ref 28), some (.int u1), some (.int u2), some (.ref 43), some (.int u4), some (.int u5), some (.int m6)] [] (px_w K s t) o w2 := by
  have hM : px_P[29]? = some pm_M_write := rfl
  intro n
  induction n with
  | zero => intro m6 s t z h; cases h
  | succ n ih =>
    intro m6 s t z h o w2 ha
    unfold l_M_write_28_43_51 at h
    refine px_blkif (c := ((16 : Int32) * ((u5 + (64 : Int32)) - (1 : Int32))) ≤ m6) (t := 72) (e := 60) (L' := [some (.ref 28), some (.int u1), some (.int u2), some (.ref 43), some (.int u4), some (.int u5), some (.int m6)]) (S' := []) (w' := px_w K s t) (q := []) 9 hM rfl trivial (fun hc1 => ?_) (fun hc1 => ?_)
    · rw [if_pos hc1] at h
      cases h
      exact px_E_le (px_leC_L _ _ (by simp [px_leC, px_le1, Value.category])) ha
    · rw [if_neg hc1] at h
      obtain ⟨⟨hq2, hq3⟩, h⟩ := px_gd_some h
      refine px_blk (i' := 70) (L' := [some (.ref 28), some (.int u1), some (.int u2), some (.ref 43), some (.int u4), some (.int u5), some (.int m6)]) (S' := []) (w' := px_w K (sA s 32 m6.toNatClampNeg ((s.2.2.1 32) (m6 + (16 : Int32)).toNatClampNeg)) t) (q := [vp_in (m6 + (16 : Int32)) (K.2.2 32), vp_in m6 (K.2.2 32)]) 10 hM rfl (show (vp_in (m6 + (16 : Int32)) (K.2.2 32)) ∧ (vp_in m6 (K.2.2 32)) from ⟨hq2, hq3⟩) ?_
      obtain ⟨s4, hs5, h⟩ := px_let_some h
      rw [← hs5]
      refine px_blk (i' := 51) (L' := [some (.ref 28), some (.int u1), some (.int u2), some (.ref 43), some (.int u4), some (.int u5), some (.int (m6 + (1 : Int32)))]) (S' := []) (w' := px_w K s4 t) (q := []) 2 hM rfl trivial ?_
      exact ih (m6 + (1 : Int32)) s4 t z h o w2 ha
noncomputable def f_M_write_28_43 (K : px_K) (N : Nat) (a0 : Int32) (a1 : Int32) (a2 : Int32) (s : px_S) (t : px_W) : Option px_Res :=
  (px_bi (f_M_acts_28 K N s t) (fun v4 s1 t2 => (if ¬ v4 = 0 then (px_gd ((vp_in a0 (K.2.2 33)) ∧ (vp_in a0 (K.2.2 33))) (px_let (sA s1 33 a0.toNatClampNeg (((s1.2.2.1 33) a0.toNatClampNeg) + (1 : Int32))) (fun s9 => (px_let ((64 : Int32) * a0) (fun v11 => (px_gd (vp_in a0 (K.2.2 30)) (if ¬ ((s9.2.2.1 30) a0.toNatClampNeg) = (64 : Int32) then (px_gd (vp_in a0 (K.2.2 30)) (px_let (v11 + ((s9.2.2.1 30) a0.toNatClampNeg)) (fun v16 => (px_gd (vp_in v16 (K.2.2 31)) (px_let (sA s9 31 v16.toNatClampNeg a1) (fun s19 => (px_lp (l_M_write_28_43_94 K N N a0 a2 v16 (0 : Int32) s19 t2) (fun i21 vs22 s23 t24 => (if i21 = 112 then (px_v0 vs22 (px_gd ((vp_in a0 (K.2.2 30)) ∧ (vp_in a0 (K.2.2 30))) (px_let (sA s23 30 a0.toNatClampNeg (((s23.2.2.1 30) a0.toNatClampNeg) + (1 : Int32))) (fun s30 => (some (.inl none, s30, t24)))))) else none)) (fun z26 => some z26)))))))) else (px_bv (f_M_becomesStable_28 K N a0 (0 : Int32) s9 t2) (fun s32 t33 => (px_lp (l_M_write_28_43_28 K N N a0 a1 a2 v11 v11 s32 t33) (fun i37 vs38 s39 t40 => (if i37 = 47 then (px_v0 vs38 (px_let ((16 : Int32) * v11) (fun v44 => (px_lp (l_M_write_28_43_51 K N N a0 a1 a2 v11 v44 s39 t40) (fun i46 vs47 s48 t49 => (if i46 = 72 then (px_v0 vs47 (px_gd ((vp_in a0 (K.2.2 30)) ∧ (vp_in a0 (K.2.2 30))) (px_let (sA s48 30 a0.toNatClampNeg (((s48.2.2.1 30) a0.toNatClampNeg) - (1 : Int32))) (fun s55 => (px_gd (vp_in a0 (K.2.2 30)) (px_let (v11 + ((s55.2.2.1 30) a0.toNatClampNeg)) (fun v58 => (px_gd (vp_in v58 (K.2.2 31)) (px_let (sA s55 31 v58.toNatClampNeg a1) (fun s61 => (px_lp (l_M_write_28_43_94 K N N a0 a2 v58 (0 : Int32) s61 t49) (fun i63 vs64 s65 t66 => (if i63 = 112 then (px_v0 vs64 (px_gd ((vp_in a0 (K.2.2 30)) ∧ (vp_in a0 (K.2.2 30))) (px_let (sA s65 30 a0.toNatClampNeg (((s65.2.2.1 30) a0.toNatClampNeg) + (1 : Int32))) (fun s72 => (some (.inl none, s72, t66)))))) else none)) (fun z68 => some z68)))))))))))) else none)) (fun z51 => some z51))))) else none)) (fun z42 => some z42))) (fun x36 s32 t33 => none))))))))) else (some (.inl none, s1, t2)))) (fun x5 s1 t2 => none))
set_option maxRecDepth 100000 in
theorem e_M_write_28_43 (K : px_K) (N : Nat) (a0 : Int32) (a1 : Int32) (a2 : Int32) (s : px_S) (t : px_W) (r : px_Res) (h : f_M_write_28_43 K N a0 a1 a2 s t = some r) : px_E px_ET px_P 5 29 0 (px_ent 7 [.ref 28, .int a0, .int a1, .ref 43, .int a2]) [] (px_w K s t) r.1 (px_w K r.2.1 r.2.2) := by
  have hM : px_P[29]? = some pm_M_write := rfl
  unfold f_M_write_28_43 at h
  refine px_blk (i' := 1) (L' := [some (.ref 28), some (.int a0), some (.int a1), some (.ref 43), some (.int a2), none, none]) (S' := [.ref 28]) (w' := px_w K s t) (q := []) 1 hM rfl trivial ?_
  rcases px_bi_some h with ⟨v4, s1, t2, hk3, h⟩ | ⟨x5, s1, t2, hk3, h⟩
  · refine px_E_call hM rfl rfl rfl rfl (px_E_mono (by decide) (e_M_acts_28 K N s t _ hk3)) ?_
    refine px_blkif (c := ¬ v4 = 0) (t := 4) (e := 3) (L' := [some (.ref 28), some (.int a0), some (.int a1), some (.ref 43), some (.int a2), none, none]) (S' := []) (w' := px_w K s1 t2) (q := []) 1 hM rfl trivial (fun hc6 => ?_) (fun hc6 => ?_)
    · rw [if_pos hc6] at h
      obtain ⟨⟨hq7, hq8⟩, h⟩ := px_gd_some h
      refine px_blk (i' := 12) (L' := [some (.ref 28), some (.int a0), some (.int a1), some (.ref 43), some (.int a2), none, none]) (S' := []) (w' := px_w K (sA s1 33 a0.toNatClampNeg (((s1.2.2.1 33) a0.toNatClampNeg) + (1 : Int32))) t2) (q := [vp_in a0 (K.2.2 33), vp_in a0 (K.2.2 33)]) 8 hM rfl (show (vp_in a0 (K.2.2 33)) ∧ (vp_in a0 (K.2.2 33)) from ⟨hq7, hq8⟩) ?_
      obtain ⟨s9, hs10, h⟩ := px_let_some h
      rw [← hs10]
      refine px_blk (i' := 16) (L' := [some (.ref 28), some (.int a0), some (.int a1), some (.ref 43), some (.int a2), some (.int ((64 : Int32) * a0)), none]) (S' := []) (w' := px_w K s9 t2) (q := []) 4 hM rfl trivial ?_
      obtain ⟨v11, hv12, h⟩ := px_let_some h
      rw [← hv12]
      obtain ⟨hq13, h⟩ := px_gd_some h
      refine px_blkif (c := ¬ ((s9.2.2.1 30) a0.toNatClampNeg) = (64 : Int32)) (t := 80) (e := 22) (L' := [some (.ref 28), some (.int a0), some (.int a1), some (.ref 43), some (.int a2), some (.int v11), none]) (S' := []) (w' := px_w K s9 t2) (q := [vp_in a0 (K.2.2 30)]) 6 hM rfl (show vp_in a0 (K.2.2 30) from hq13) (fun hc14 => ?_) (fun hc14 => ?_)
      · rw [if_pos hc14] at h
        obtain ⟨hq15, h⟩ := px_gd_some h
        refine px_blk (i' := 87) (L' := [some (.ref 28), some (.int a0), some (.int a1), some (.ref 43), some (.int a2), some (.int (v11 + ((s9.2.2.1 30) a0.toNatClampNeg))), none]) (S' := []) (w' := px_w K s9 t2) (q := [vp_in a0 (K.2.2 30)]) 7 hM rfl (show vp_in a0 (K.2.2 30) from hq15) ?_
        obtain ⟨v16, hv17, h⟩ := px_let_some h
        rw [← hv17]
        obtain ⟨hq18, h⟩ := px_gd_some h
        refine px_blk (i' := 92) (L' := [some (.ref 28), some (.int a0), some (.int a1), some (.ref 43), some (.int a2), some (.int v16), none]) (S' := []) (w' := px_w K (sA s9 31 v16.toNatClampNeg a1) t2) (q := [vp_in v16 (K.2.2 31)]) 5 hM rfl (show vp_in v16 (K.2.2 31) from hq18) ?_
        obtain ⟨s19, hs20, h⟩ := px_let_some h
        rw [← hs20]
        refine px_blk (i' := 94) (L' := [some (.ref 28), some (.int a0), some (.int a1), some (.ref 43), some (.int a2), some (.int v16), some (.int (0 : Int32))]) (S' := []) (w' := px_w K s19 t2) (q := []) 2 hM rfl trivial ?_
        rcases px_lp_some h with ⟨i21, vs22, s23, t24, hl25, h⟩ | ⟨z26, hl25, h⟩
        · by_cases hi27 : i21 = 112
          · subst hi27
            rw [if_pos rfl] at h
            have h9 := px_v0_some h
            clear h
            obtain ⟨rfl, h⟩ := h9
            refine px_E_le (px_leC_L _ _ (by simp [px_leC, px_le1, Value.category])) (e_l_M_write_28_43_94 K N a0 a2 v16 N (0 : Int32) s19 t2 _ hl25 _ _ ?_)
            show px_E px_ET px_P 5 29 112 [some (.ref 28), some (.int a0), none, none, none, none, none] [] (px_w K s23 t24) _ _
            obtain ⟨⟨hq28, hq29⟩, h⟩ := px_gd_some h
            refine px_blk (i' := 120) (L' := [some (.ref 28), some (.int a0), none, none, none, none, none]) (S' := []) (w' := px_w K (sA s23 30 a0.toNatClampNeg (((s23.2.2.1 30) a0.toNatClampNeg) + (1 : Int32))) t24) (q := [vp_in a0 (K.2.2 30), vp_in a0 (K.2.2 30)]) 8 hM rfl (show (vp_in a0 (K.2.2 30)) ∧ (vp_in a0 (K.2.2 30)) from ⟨hq28, hq29⟩) ?_
            obtain ⟨s30, hs31, h⟩ := px_let_some h
            rw [← hs31]
            cases h
            exact px_E_ret hM rfl rfl rfl trivial
          · rw [if_neg hi27] at h
            cases h
        · cases h
          exact px_E_le (px_leC_L _ _ (by simp [px_leC, px_le1, Value.category])) (e_l_M_write_28_43_94 K N a0 a2 v16 N (0 : Int32) s19 t2 _ hl25 _ _ ⟨rfl, rfl⟩)
      · rw [if_neg hc14] at h
        refine px_blk (i' := 25) (L' := [some (.ref 28), some (.int a0), some (.int a1), some (.ref 43), some (.int a2), some (.int v11), none]) (S' := [.int (0 : Int32), .int a0, .ref 28]) (w' := px_w K s9 t2) (q := []) 3 hM rfl trivial ?_
        rcases px_bv_some h with ⟨s32, t33, hk34, h⟩ | ⟨x36, s32, t33, hk34, h⟩
        · refine px_E_call hM rfl rfl rfl rfl (px_E_mono (by decide) (e_M_becomesStable_28 K N a0 (0 : Int32) s9 t2 _ hk34)) ?_
          refine px_blk (i' := 28) (L' := [some (.ref 28), some (.int a0), some (.int a1), some (.ref 43), some (.int a2), some (.int v11), some (.int v11)]) (S' := []) (w' := px_w K s32 t33) (q := []) 2 hM rfl trivial ?_
          rcases px_lp_some h with ⟨i37, vs38, s39, t40, hl41, h⟩ | ⟨z42, hl41, h⟩
          · by_cases hi43 : i37 = 47
            · subst hi43
              rw [if_pos rfl] at h
              have h9 := px_v0_some h
              clear h
              obtain ⟨rfl, h⟩ := h9
              refine e_l_M_write_28_43_28 K N a0 a1 a2 v11 N v11 s32 t33 _ hl41 _ _ ?_
              show px_E px_ET px_P 5 29 47 [some (.ref 28), some (.int a0), some (.int a1), some (.ref 43), some (.int a2), some (.int v11), none] [] (px_w K s39 t40) _ _
              refine px_blk (i' := 51) (L' := [some (.ref 28), some (.int a0), some (.int a1), some (.ref 43), some (.int a2), some (.int v11), some (.int ((16 : Int32) * v11))]) (S' := []) (w' := px_w K s39 t40) (q := []) 4 hM rfl trivial ?_
              obtain ⟨v44, hv45, h⟩ := px_let_some h
              rw [← hv45]
              rcases px_lp_some h with ⟨i46, vs47, s48, t49, hl50, h⟩ | ⟨z51, hl50, h⟩
              · by_cases hi52 : i46 = 72
                · subst hi52
                  rw [if_pos rfl] at h
                  have h9 := px_v0_some h
                  clear h
                  obtain ⟨rfl, h⟩ := h9
                  refine e_l_M_write_28_43_51 K N a0 a1 a2 v11 N v44 s39 t40 _ hl50 _ _ ?_
                  show px_E px_ET px_P 5 29 72 [some (.ref 28), some (.int a0), some (.int a1), some (.ref 43), some (.int a2), some (.int v11), none] [] (px_w K s48 t49) _ _
                  obtain ⟨⟨hq53, hq54⟩, h⟩ := px_gd_some h
                  refine px_blk (i' := 80) (L' := [some (.ref 28), some (.int a0), some (.int a1), some (.ref 43), some (.int a2), some (.int v11), none]) (S' := []) (w' := px_w K (sA s48 30 a0.toNatClampNeg (((s48.2.2.1 30) a0.toNatClampNeg) - (1 : Int32))) t49) (q := [vp_in a0 (K.2.2 30), vp_in a0 (K.2.2 30)]) 8 hM rfl (show (vp_in a0 (K.2.2 30)) ∧ (vp_in a0 (K.2.2 30)) from ⟨hq53, hq54⟩) ?_
                  obtain ⟨s55, hs56, h⟩ := px_let_some h
                  rw [← hs56]
                  obtain ⟨hq57, h⟩ := px_gd_some h
                  refine px_blk (i' := 87) (L' := [some (.ref 28), some (.int a0), some (.int a1), some (.ref 43), some (.int a2), some (.int (v11 + ((s55.2.2.1 30) a0.toNatClampNeg))), none]) (S' := []) (w' := px_w K s55 t49) (q := [vp_in a0 (K.2.2 30)]) 7 hM rfl (show vp_in a0 (K.2.2 30) from hq57) ?_
                  obtain ⟨v58, hv59, h⟩ := px_let_some h
                  rw [← hv59]
                  obtain ⟨hq60, h⟩ := px_gd_some h
                  refine px_blk (i' := 92) (L' := [some (.ref 28), some (.int a0), some (.int a1), some (.ref 43), some (.int a2), some (.int v58), none]) (S' := []) (w' := px_w K (sA s55 31 v58.toNatClampNeg a1) t49) (q := [vp_in v58 (K.2.2 31)]) 5 hM rfl (show vp_in v58 (K.2.2 31) from hq60) ?_
                  obtain ⟨s61, hs62, h⟩ := px_let_some h
                  rw [← hs62]
                  refine px_blk (i' := 94) (L' := [some (.ref 28), some (.int a0), some (.int a1), some (.ref 43), some (.int a2), some (.int v58), some (.int (0 : Int32))]) (S' := []) (w' := px_w K s61 t49) (q := []) 2 hM rfl trivial ?_
                  rcases px_lp_some h with ⟨i63, vs64, s65, t66, hl67, h⟩ | ⟨z68, hl67, h⟩
                  · by_cases hi69 : i63 = 112
                    · subst hi69
                      rw [if_pos rfl] at h
                      have h9 := px_v0_some h
                      clear h
                      obtain ⟨rfl, h⟩ := h9
                      refine px_E_le (px_leC_L _ _ (by simp [px_leC, px_le1, Value.category])) (e_l_M_write_28_43_94 K N a0 a2 v58 N (0 : Int32) s61 t49 _ hl67 _ _ ?_)
                      show px_E px_ET px_P 5 29 112 [some (.ref 28), some (.int a0), none, none, none, none, none] [] (px_w K s65 t66) _ _
                      obtain ⟨⟨hq70, hq71⟩, h⟩ := px_gd_some h
                      refine px_blk (i' := 120) (L' := [some (.ref 28), some (.int a0), none, none, none, none, none]) (S' := []) (w' := px_w K (sA s65 30 a0.toNatClampNeg (((s65.2.2.1 30) a0.toNatClampNeg) + (1 : Int32))) t66) (q := [vp_in a0 (K.2.2 30), vp_in a0 (K.2.2 30)]) 8 hM rfl (show (vp_in a0 (K.2.2 30)) ∧ (vp_in a0 (K.2.2 30)) from ⟨hq70, hq71⟩) ?_
                      obtain ⟨s72, hs73, h⟩ := px_let_some h
                      rw [← hs73]
                      cases h
                      exact px_E_ret hM rfl rfl rfl trivial
                    · rw [if_neg hi69] at h
                      cases h
                  · cases h
                    exact px_E_le (px_leC_L _ _ (by simp [px_leC, px_le1, Value.category])) (e_l_M_write_28_43_94 K N a0 a2 v58 N (0 : Int32) s61 t49 _ hl67 _ _ ⟨rfl, rfl⟩)
                · rw [if_neg hi52] at h
                  cases h
              · cases h
                exact e_l_M_write_28_43_51 K N a0 a1 a2 v11 N v44 s39 t40 _ hl50 _ _ ⟨rfl, rfl⟩
            · rw [if_neg hi43] at h
              cases h
          · cases h
            exact e_l_M_write_28_43_28 K N a0 a1 a2 v11 N v11 s32 t33 _ hl41 _ _ ⟨rfl, rfl⟩
        · cases h
    · rw [if_neg hc6] at h
      cases h
      exact px_E_ret hM rfl rfl rfl trivial
  · cases h
noncomputable def l_M_write_28_45_94 (K : px_K) (N : Nat) (n : Nat) (u1 : Int32) (u4 : Int32) (u5 : Int32) (m6 : Int32) (s : px_S) (t : px_W) : Option px_LO := match n with
  | 0 => none
  | n + 1 => (if (16 : Int32) ≤ m6 then (some (.inl (112, [], s, t))) else (px_gd (vp_in (u4 + m6) (K.2.2 45)) (px_gd (vp_in (((16 : Int32) * u5) + m6) (K.2.2 32)) (px_let (sA s 32 (((16 : Int32) * u5) + m6).toNatClampNeg ((s.2.2.1 45) (u4 + m6).toNatClampNeg)) (fun s4 => (l_M_write_28_45_94 K N n u1 u4 u5 (m6 + (1 : Int32)) s4 t))))))
def a_l_M_write_28_45_94 (K : px_K) (u1 : Int32) (u4 : Int32) (u5 : Int32) (z : px_LO) (o : Option Value ⊕ Nat) (w2 : px_W) : Prop := match z with
  | .inr (o', s', t') => o = o' ∧ w2 = px_w K s' t'
  | .inl (112, [], s', t') => px_E px_ET px_P 5 29 112 [some (.ref 28), some (.int u1), none, none, none, none, none] [] (px_w K s' t') o w2
  | _ => False
noncomputable def l_M_write_28_45_28 (K : px_K) (N : Nat) (n : Nat) (u1 : Int32) (u2 : Int32) (u4 : Int32) (u5 : Int32) (m6 : Int32) (s : px_S) (t : px_W) : Option px_LO := match n with
  | 0 => none
  | n + 1 => (if ((u5 + (64 : Int32)) - (1 : Int32)) ≤ m6 then (some (.inl (47, [], s, t))) else (px_gd ((vp_in (m6 + (1 : Int32)) (K.2.2 31)) ∧ (vp_in m6 (K.2.2 31))) (px_let (sA s 31 m6.toNatClampNeg ((s.2.2.1 31) (m6 + (1 : Int32)).toNatClampNeg)) (fun s4 => (l_M_write_28_45_28 K N n u1 u2 u4 u5 (m6 + (1 : Int32)) s4 t)))))
def a_l_M_write_28_45_28 (K : px_K) (u1 : Int32) (u2 : Int32) (u4 : Int32) (u5 : Int32) (z : px_LO) (o : Option Value ⊕ Nat) (w2 : px_W) : Prop := match z with
  | .inr (o', s', t') => o = o' ∧ w2 = px_w K s' t'
  | .inl (47, [], s', t') => px_E px_ET px_P 5 29 47 [some (.ref 28), some (.int u1), some (.int u2), some (.ref 45), some (.int u4), some (.int u5), none] [] (px_w K s' t') o w2
  | _ => False
noncomputable def l_M_write_28_45_51 (K : px_K) (N : Nat) (n : Nat) (u1 : Int32) (u2 : Int32) (u4 : Int32) (u5 : Int32) (m6 : Int32) (s : px_S) (t : px_W) : Option px_LO := match n with
  | 0 => none
  | n + 1 => (if ((16 : Int32) * ((u5 + (64 : Int32)) - (1 : Int32))) ≤ m6 then (some (.inl (72, [], s, t))) else (px_gd ((vp_in (m6 + (16 : Int32)) (K.2.2 32)) ∧ (vp_in m6 (K.2.2 32))) (px_let (sA s 32 m6.toNatClampNeg ((s.2.2.1 32) (m6 + (16 : Int32)).toNatClampNeg)) (fun s4 => (l_M_write_28_45_51 K N n u1 u2 u4 u5 (m6 + (1 : Int32)) s4 t)))))
def a_l_M_write_28_45_51 (K : px_K) (u1 : Int32) (u2 : Int32) (u4 : Int32) (u5 : Int32) (z : px_LO) (o : Option Value ⊕ Nat) (w2 : px_W) : Prop := match z with
  | .inr (o', s', t') => o = o' ∧ w2 = px_w K s' t'
  | .inl (72, [], s', t') => px_E px_ET px_P 5 29 72 [some (.ref 28), some (.int u1), some (.int u2), some (.ref 45), some (.int u4), some (.int u5), none] [] (px_w K s' t') o w2
  | _ => False
set_option maxRecDepth 100000 in
theorem e_l_M_write_28_45_94 (K : px_K) (N : Nat) (u1 : Int32) (u4 : Int32) (u5 : Int32) : ∀ (n : Nat) (m6 : Int32) (s : px_S) (t : px_W) (z : px_LO), l_M_write_28_45_94 K N n u1 u4 u5 m6 s t = some z → ∀ (o : Option Value ⊕ Nat) (w2 : px_W), a_l_M_write_28_45_94 K u1 u4 u5 z o w2 → px_E px_ET px_P 5 29 94 [some (.ref 28), some (.int u1), none, some (.ref 45), some (.int u4), some (.int u5), some (.int m6)] [] (px_w K s t) o w2 := by
  have hM : px_P[29]? = some pm_M_write := rfl
  intro n
  induction n with
  | zero => intro m6 s t z h; cases h
  | succ n ih =>
    intro m6 s t z h o w2 ha
    unfold l_M_write_28_45_94 at h
    refine px_blkif (c := (16 : Int32) ≤ m6) (t := 112) (e := 97) (L' := [some (.ref 28), some (.int u1), none, some (.ref 45), some (.int u4), some (.int u5), some (.int m6)]) (S' := []) (w' := px_w K s t) (q := []) 3 hM rfl trivial (fun hc1 => ?_) (fun hc1 => ?_)
    · rw [if_pos hc1] at h
      cases h
      exact px_E_le (px_leC_L _ _ (by simp [px_leC, px_le1, Value.category])) ha
    · rw [if_neg hc1] at h
      obtain ⟨hq2, h⟩ := px_gd_some h
      refine px_blk (i' := 109) (L' := [some (.ref 28), some (.int u1), none, some (.ref 45), some (.int u4), some (.int u5), some (.int m6)]) (S' := [.int ((s.2.2.1 45) (u4 + m6).toNatClampNeg), .int (((16 : Int32) * u5) + m6), .ref 32]) (w' := px_w K s t) (q := [vp_in (u4 + m6) (K.2.2 45)]) 12 hM rfl (show vp_in (u4 + m6) (K.2.2 45) from hq2) ?_
      obtain ⟨hq3, h⟩ := px_gd_some h
      refine px_blk (i' := 110) (L' := [some (.ref 28), some (.int u1), none, some (.ref 45), some (.int u4), some (.int u5), some (.int m6)]) (S' := []) (w' := px_w K (sA s 32 (((16 : Int32) * u5) + m6).toNatClampNeg ((s.2.2.1 45) (u4 + m6).toNatClampNeg)) t) (q := [vp_in (((16 : Int32) * u5) + m6) (K.2.2 32)]) 1 hM rfl (show vp_in (((16 : Int32) * u5) + m6) (K.2.2 32) from hq3) ?_
      obtain ⟨s4, hs5, h⟩ := px_let_some h
      rw [← hs5]
      refine px_blk (i' := 94) (L' := [some (.ref 28), some (.int u1), none, some (.ref 45), some (.int u4), some (.int u5), some (.int (m6 + (1 : Int32)))]) (S' := []) (w' := px_w K s4 t) (q := []) 2 hM rfl trivial ?_
      exact ih (m6 + (1 : Int32)) s4 t z h o w2 ha
set_option maxRecDepth 100000 in
theorem e_l_M_write_28_45_28 (K : px_K) (N : Nat) (u1 : Int32) (u2 : Int32) (u4 : Int32) (u5 : Int32) : ∀ (n : Nat) (m6 : Int32) (s : px_S) (t : px_W) (z : px_LO), l_M_write_28_45_28 K N n u1 u2 u4 u5 m6 s t = some z → ∀ (o : Option Value ⊕ Nat) (w2 : px_W), a_l_M_write_28_45_28 K u1 u2 u4 u5 z o w2 → px_E px_ET px_P 5 29 28 [some (.ref 28), some (.int u1), some (.int u2), some (.ref 45), some (.int u4), some (.int u5), some (.int m6)] [] (px_w K s t) o w2 := by
  have hM : px_P[29]? = some pm_M_write := rfl
  intro n
  induction n with
  | zero => intro m6 s t z h; cases h
  | succ n ih =>
    intro m6 s t z h o w2 ha
    unfold l_M_write_28_45_28 at h
    refine px_blkif (c := ((u5 + (64 : Int32)) - (1 : Int32)) ≤ m6) (t := 47) (e := 35) (L' := [some (.ref 28), some (.int u1), some (.int u2), some (.ref 45), some (.int u4), some (.int u5), some (.int m6)]) (S' := []) (w' := px_w K s t) (q := []) 7 hM rfl trivial (fun hc1 => ?_) (fun hc1 => ?_)
    · rw [if_pos hc1] at h
      cases h
      exact px_E_le (px_leC_L _ _ (by simp [px_leC, px_le1, Value.category])) ha
    · rw [if_neg hc1] at h
      obtain ⟨⟨hq2, hq3⟩, h⟩ := px_gd_some h
      refine px_blk (i' := 45) (L' := [some (.ref 28), some (.int u1), some (.int u2), some (.ref 45), some (.int u4), some (.int u5), some (.int m6)]) (S' := []) (w' := px_w K (sA s 31 m6.toNatClampNeg ((s.2.2.1 31) (m6 + (1 : Int32)).toNatClampNeg)) t) (q := [vp_in (m6 + (1 : Int32)) (K.2.2 31), vp_in m6 (K.2.2 31)]) 10 hM rfl (show (vp_in (m6 + (1 : Int32)) (K.2.2 31)) ∧ (vp_in m6 (K.2.2 31)) from ⟨hq2, hq3⟩) ?_
      obtain ⟨s4, hs5, h⟩ := px_let_some h
      rw [← hs5]
      refine px_blk (i' := 28) (L' := [some (.ref 28), some (.int u1), some (.int u2), some (.ref 45), some (.int u4), some (.int u5), some (.int (m6 + (1 : Int32)))]) (S' := []) (w' := px_w K s4 t) (q := []) 2 hM rfl trivial ?_
      exact ih (m6 + (1 : Int32)) s4 t z h o w2 ha
set_option maxRecDepth 100000 in
theorem e_l_M_write_28_45_51 (K : px_K) (N : Nat) (u1 : Int32) (u2 : Int32) (u4 : Int32) (u5 : Int32) : ∀ (n : Nat) (m6 : Int32) (s : px_S) (t : px_W) (z : px_LO), l_M_write_28_45_51 K N n u1 u2 u4 u5 m6 s t = some z → ∀ (o : Option Value ⊕ Nat) (w2 : px_W), a_l_M_write_28_45_51 K u1 u2 u4 u5 z o w2 → px_E px_ET px_P 5 29 51 [some (.ref 28), some (.int u1), some (.int u2), some (.ref 45), some (.int u4), some (.int u5), some (.int m6)] [] (px_w K s t) o w2 := by
  have hM : px_P[29]? = some pm_M_write := rfl
  intro n
  induction n with
  | zero => intro m6 s t z h; cases h
  | succ n ih =>
    intro m6 s t z h o w2 ha
    unfold l_M_write_28_45_51 at h
    refine px_blkif (c := ((16 : Int32) * ((u5 + (64 : Int32)) - (1 : Int32))) ≤ m6) (t := 72) (e := 60) (L' := [some (.ref 28), some (.int u1), some (.int u2), some (.ref 45), some (.int u4), some (.int u5), some (.int m6)]) (S' := []) (w' := px_w K s t) (q := []) 9 hM rfl trivial (fun hc1 => ?_) (fun hc1 => ?_)
    · rw [if_pos hc1] at h
      cases h
      exact px_E_le (px_leC_L _ _ (by simp [px_leC, px_le1, Value.category])) ha
    · rw [if_neg hc1] at h
      obtain ⟨⟨hq2, hq3⟩, h⟩ := px_gd_some h
      refine px_blk (i' := 70) (L' := [some (.ref 28), some (.int u1), some (.int u2), some (.ref 45), some (.int u4), some (.int u5), some (.int m6)]) (S' := []) (w' := px_w K (sA s 32 m6.toNatClampNeg ((s.2.2.1 32) (m6 + (16 : Int32)).toNatClampNeg)) t) (q := [vp_in (m6 + (16 : Int32)) (K.2.2 32), vp_in m6 (K.2.2 32)]) 10 hM rfl (show (vp_in (m6 + (16 : Int32)) (K.2.2 32)) ∧ (vp_in m6 (K.2.2 32)) from ⟨hq2, hq3⟩) ?_
      obtain ⟨s4, hs5, h⟩ := px_let_some h
      rw [← hs5]
      refine px_blk (i' := 51) (L' := [some (.ref 28), some (.int u1), some (.int u2), some (.ref 45), some (.int u4), some (.int u5), some (.int (m6 + (1 : Int32)))]) (S' := []) (w' := px_w K s4 t) (q := []) 2 hM rfl trivial ?_
      exact ih (m6 + (1 : Int32)) s4 t z h o w2 ha
noncomputable def f_M_write_28_45 (K : px_K) (N : Nat) (a0 : Int32) (a1 : Int32) (a2 : Int32) (s : px_S) (t : px_W) : Option px_Res :=
  (px_bi (f_M_acts_28 K N s t) (fun v4 s1 t2 => (if ¬ v4 = 0 then (px_gd ((vp_in a0 (K.2.2 33)) ∧ (vp_in a0 (K.2.2 33))) (px_let (sA s1 33 a0.toNatClampNeg (((s1.2.2.1 33) a0.toNatClampNeg) + (1 : Int32))) (fun s9 => (px_let ((64 : Int32) * a0) (fun v11 => (px_gd (vp_in a0 (K.2.2 30)) (if ¬ ((s9.2.2.1 30) a0.toNatClampNeg) = (64 : Int32) then (px_gd (vp_in a0 (K.2.2 30)) (px_let (v11 + ((s9.2.2.1 30) a0.toNatClampNeg)) (fun v16 => (px_gd (vp_in v16 (K.2.2 31)) (px_let (sA s9 31 v16.toNatClampNeg a1) (fun s19 => (px_lp (l_M_write_28_45_94 K N N a0 a2 v16 (0 : Int32) s19 t2) (fun i21 vs22 s23 t24 => (if i21 = 112 then (px_v0 vs22 (px_gd ((vp_in a0 (K.2.2 30)) ∧ (vp_in a0 (K.2.2 30))) (px_let (sA s23 30 a0.toNatClampNeg (((s23.2.2.1 30) a0.toNatClampNeg) + (1 : Int32))) (fun s30 => (some (.inl none, s30, t24)))))) else none)) (fun z26 => some z26)))))))) else (px_bv (f_M_becomesStable_28 K N a0 (0 : Int32) s9 t2) (fun s32 t33 => (px_lp (l_M_write_28_45_28 K N N a0 a1 a2 v11 v11 s32 t33) (fun i37 vs38 s39 t40 => (if i37 = 47 then (px_v0 vs38 (px_let ((16 : Int32) * v11) (fun v44 => (px_lp (l_M_write_28_45_51 K N N a0 a1 a2 v11 v44 s39 t40) (fun i46 vs47 s48 t49 => (if i46 = 72 then (px_v0 vs47 (px_gd ((vp_in a0 (K.2.2 30)) ∧ (vp_in a0 (K.2.2 30))) (px_let (sA s48 30 a0.toNatClampNeg (((s48.2.2.1 30) a0.toNatClampNeg) - (1 : Int32))) (fun s55 => (px_gd (vp_in a0 (K.2.2 30)) (px_let (v11 + ((s55.2.2.1 30) a0.toNatClampNeg)) (fun v58 => (px_gd (vp_in v58 (K.2.2 31)) (px_let (sA s55 31 v58.toNatClampNeg a1) (fun s61 => (px_lp (l_M_write_28_45_94 K N N a0 a2 v58 (0 : Int32) s61 t49) (fun i63 vs64 s65 t66 => (if i63 = 112 then (px_v0 vs64 (px_gd ((vp_in a0 (K.2.2 30)) ∧ (vp_in a0 (K.2.2 30))) (px_let (sA s65 30 a0.toNatClampNeg (((s65.2.2.1 30) a0.toNatClampNeg) + (1 : Int32))) (fun s72 => (some (.inl none, s72, t66)))))) else none)) (fun z68 => some z68)))))))))))) else none)) (fun z51 => some z51))))) else none)) (fun z42 => some z42))) (fun x36 s32 t33 => none))))))))) else (some (.inl none, s1, t2)))) (fun x5 s1 t2 => none))
set_option maxRecDepth 100000 in
theorem e_M_write_28_45 (K : px_K) (N : Nat) (a0 : Int32) (a1 : Int32) (a2 : Int32) (s : px_S) (t : px_W) (r : px_Res) (h : f_M_write_28_45 K N a0 a1 a2 s t = some r) : px_E px_ET px_P 5 29 0 (px_ent 7 [.ref 28, .int a0, .int a1, .ref 45, .int a2]) [] (px_w K s t) r.1 (px_w K r.2.1 r.2.2) := by
  have hM : px_P[29]? = some pm_M_write := rfl
  unfold f_M_write_28_45 at h
  refine px_blk (i' := 1) (L' := [some (.ref 28), some (.int a0), some (.int a1), some (.ref 45), some (.int a2), none, none]) (S' := [.ref 28]) (w' := px_w K s t) (q := []) 1 hM rfl trivial ?_
  rcases px_bi_some h with ⟨v4, s1, t2, hk3, h⟩ | ⟨x5, s1, t2, hk3, h⟩
  · refine px_E_call hM rfl rfl rfl rfl (px_E_mono (by decide) (e_M_acts_28 K N s t _ hk3)) ?_
    refine px_blkif (c := ¬ v4 = 0) (t := 4) (e := 3) (L' := [some (.ref 28), some (.int a0), some (.int a1), some (.ref 45), some (.int a2), none, none]) (S' := []) (w' := px_w K s1 t2) (q := []) 1 hM rfl trivial (fun hc6 => ?_) (fun hc6 => ?_)
    · rw [if_pos hc6] at h
      obtain ⟨⟨hq7, hq8⟩, h⟩ := px_gd_some h
      refine px_blk (i' := 12) (L' := [some (.ref 28), some (.int a0), some (.int a1), some (.ref 45), some (.int a2), none, none]) (S' := []) (w' := px_w K (sA s1 33 a0.toNatClampNeg (((s1.2.2.1 33) a0.toNatClampNeg) + (1 : Int32))) t2) (q := [vp_in a0 (K.2.2 33), vp_in a0 (K.2.2 33)]) 8 hM rfl (show (vp_in a0 (K.2.2 33)) ∧ (vp_in a0 (K.2.2 33)) from ⟨hq7, hq8⟩) ?_
      obtain ⟨s9, hs10, h⟩ := px_let_some h
      rw [← hs10]
      refine px_blk (i' := 16) (L' := [some (.ref 28), some (.int a0), some (.int a1), some (.ref 45), some (.int a2), some (.int ((64 : Int32) * a0)), none]) (S' := []) (w' := px_w K s9 t2) (q := []) 4 hM rfl trivial ?_
      obtain ⟨v11, hv12, h⟩ := px_let_some h
      rw [← hv12]
      obtain ⟨hq13, h⟩ := px_gd_some h
      refine px_blkif (c := ¬ ((s9.2.2.1 30) a0.toNatClampNeg) = (64 : Int32)) (t := 80) (e := 22) (L' := [some (.ref 28), some (.int a0), some (.int a1), some (.ref 45), some (.int a2), some (.int v11), none]) (S' := []) (w' := px_w K s9 t2) (q := [vp_in a0 (K.2.2 30)]) 6 hM rfl (show vp_in a0 (K.2.2 30) from hq13) (fun hc14 => ?_) (fun hc14 => ?_)
      · rw [if_pos hc14] at h
        obtain ⟨hq15, h⟩ := px_gd_some h
        refine px_blk (i' := 87) (L' := [some (.ref 28), some (.int a0), some (.int a1), some (.ref 45), some (.int a2), some (.int (v11 + ((s9.2.2.1 30) a0.toNatClampNeg))), none]) (S' := []) (w' := px_w K s9 t2) (q := [vp_in a0 (K.2.2 30)]) 7 hM rfl (show vp_in a0 (K.2.2 30) from hq15) ?_
        obtain ⟨v16, hv17, h⟩ := px_let_some h
        rw [← hv17]
        obtain ⟨hq18, h⟩ := px_gd_some h
        refine px_blk (i' := 92) (L' := [some (.ref 28), some (.int a0), some (.int a1), some (.ref 45), some (.int a2), some (.int v16), none]) (S' := []) (w' := px_w K (sA s9 31 v16.toNatClampNeg a1) t2) (q := [vp_in v16 (K.2.2 31)]) 5 hM rfl (show vp_in v16 (K.2.2 31) from hq18) ?_
        obtain ⟨s19, hs20, h⟩ := px_let_some h
        rw [← hs20]
        refine px_blk (i' := 94) (L' := [some (.ref 28), some (.int a0), some (.int a1), some (.ref 45), some (.int a2), some (.int v16), some (.int (0 : Int32))]) (S' := []) (w' := px_w K s19 t2) (q := []) 2 hM rfl trivial ?_
        rcases px_lp_some h with ⟨i21, vs22, s23, t24, hl25, h⟩ | ⟨z26, hl25, h⟩
        · by_cases hi27 : i21 = 112
          · subst hi27
            rw [if_pos rfl] at h
            have h9 := px_v0_some h
            clear h
            obtain ⟨rfl, h⟩ := h9
            refine px_E_le (px_leC_L _ _ (by simp [px_leC, px_le1, Value.category])) (e_l_M_write_28_45_94 K N a0 a2 v16 N (0 : Int32) s19 t2 _ hl25 _ _ ?_)
            show px_E px_ET px_P 5 29 112 [some (.ref 28), some (.int a0), none, none, none, none, none] [] (px_w K s23 t24) _ _
            obtain ⟨⟨hq28, hq29⟩, h⟩ := px_gd_some h
            refine px_blk (i' := 120) (L' := [some (.ref 28), some (.int a0), none, none, none, none, none]) (S' := []) (w' := px_w K (sA s23 30 a0.toNatClampNeg (((s23.2.2.1 30) a0.toNatClampNeg) + (1 : Int32))) t24) (q := [vp_in a0 (K.2.2 30), vp_in a0 (K.2.2 30)]) 8 hM rfl (show (vp_in a0 (K.2.2 30)) ∧ (vp_in a0 (K.2.2 30)) from ⟨hq28, hq29⟩) ?_
            obtain ⟨s30, hs31, h⟩ := px_let_some h
            rw [← hs31]
            cases h
            exact px_E_ret hM rfl rfl rfl trivial
          · rw [if_neg hi27] at h
            cases h
        · cases h
          exact px_E_le (px_leC_L _ _ (by simp [px_leC, px_le1, Value.category])) (e_l_M_write_28_45_94 K N a0 a2 v16 N (0 : Int32) s19 t2 _ hl25 _ _ ⟨rfl, rfl⟩)
      · rw [if_neg hc14] at h
        refine px_blk (i' := 25) (L' := [some (.ref 28), some (.int a0), some (.int a1), some (.ref 45), some (.int a2), some (.int v11), none]) (S' := [.int (0 : Int32), .int a0, .ref 28]) (w' := px_w K s9 t2) (q := []) 3 hM rfl trivial ?_
        rcases px_bv_some h with ⟨s32, t33, hk34, h⟩ | ⟨x36, s32, t33, hk34, h⟩
        · refine px_E_call hM rfl rfl rfl rfl (px_E_mono (by decide) (e_M_becomesStable_28 K N a0 (0 : Int32) s9 t2 _ hk34)) ?_
          refine px_blk (i' := 28) (L' := [some (.ref 28), some (.int a0), some (.int a1), some (.ref 45), some (.int a2), some (.int v11), some (.int v11)]) (S' := []) (w' := px_w K s32 t33) (q := []) 2 hM rfl trivial ?_
          rcases px_lp_some h with ⟨i37, vs38, s39, t40, hl41, h⟩ | ⟨z42, hl41, h⟩
          · by_cases hi43 : i37 = 47
            · subst hi43
              rw [if_pos rfl] at h
              have h9 := px_v0_some h
              clear h
              obtain ⟨rfl, h⟩ := h9
              refine e_l_M_write_28_45_28 K N a0 a1 a2 v11 N v11 s32 t33 _ hl41 _ _ ?_
              show px_E px_ET px_P 5 29 47 [some (.ref 28), some (.int a0), some (.int a1), some (.ref 45), some (.int a2), some (.int v11), none] [] (px_w K s39 t40) _ _
              refine px_blk (i' := 51) (L' := [some (.ref 28), some (.int a0), some (.int a1), some (.ref 45), some (.int a2), some (.int v11), some (.int ((16 : Int32) * v11))]) (S' := []) (w' := px_w K s39 t40) (q := []) 4 hM rfl trivial ?_
              obtain ⟨v44, hv45, h⟩ := px_let_some h
              rw [← hv45]
              rcases px_lp_some h with ⟨i46, vs47, s48, t49, hl50, h⟩ | ⟨z51, hl50, h⟩
              · by_cases hi52 : i46 = 72
                · subst hi52
                  rw [if_pos rfl] at h
                  have h9 := px_v0_some h
                  clear h
                  obtain ⟨rfl, h⟩ := h9
                  refine e_l_M_write_28_45_51 K N a0 a1 a2 v11 N v44 s39 t40 _ hl50 _ _ ?_
                  show px_E px_ET px_P 5 29 72 [some (.ref 28), some (.int a0), some (.int a1), some (.ref 45), some (.int a2), some (.int v11), none] [] (px_w K s48 t49) _ _
                  obtain ⟨⟨hq53, hq54⟩, h⟩ := px_gd_some h
                  refine px_blk (i' := 80) (L' := [some (.ref 28), some (.int a0), some (.int a1), some (.ref 45), some (.int a2), some (.int v11), none]) (S' := []) (w' := px_w K (sA s48 30 a0.toNatClampNeg (((s48.2.2.1 30) a0.toNatClampNeg) - (1 : Int32))) t49) (q := [vp_in a0 (K.2.2 30), vp_in a0 (K.2.2 30)]) 8 hM rfl (show (vp_in a0 (K.2.2 30)) ∧ (vp_in a0 (K.2.2 30)) from ⟨hq53, hq54⟩) ?_
                  obtain ⟨s55, hs56, h⟩ := px_let_some h
                  rw [← hs56]
                  obtain ⟨hq57, h⟩ := px_gd_some h
                  refine px_blk (i' := 87) (L' := [some (.ref 28), some (.int a0), some (.int a1), some (.ref 45), some (.int a2), some (.int (v11 + ((s55.2.2.1 30) a0.toNatClampNeg))), none]) (S' := []) (w' := px_w K s55 t49) (q := [vp_in a0 (K.2.2 30)]) 7 hM rfl (show vp_in a0 (K.2.2 30) from hq57) ?_
                  obtain ⟨v58, hv59, h⟩ := px_let_some h
                  rw [← hv59]
                  obtain ⟨hq60, h⟩ := px_gd_some h
                  refine px_blk (i' := 92) (L' := [some (.ref 28), some (.int a0), some (.int a1), some (.ref 45), some (.int a2), some (.int v58), none]) (S' := []) (w' := px_w K (sA s55 31 v58.toNatClampNeg a1) t49) (q := [vp_in v58 (K.2.2 31)]) 5 hM rfl (show vp_in v58 (K.2.2 31) from hq60) ?_
                  obtain ⟨s61, hs62, h⟩ := px_let_some h
                  rw [← hs62]
                  refine px_blk (i' := 94) (L' := [some (.ref 28), some (.int a0), some (.int a1), some (.ref 45), some (.int a2), some (.int v58), some (.int (0 : Int32))]) (S' := []) (w' := px_w K s61 t49) (q := []) 2 hM rfl trivial ?_
                  rcases px_lp_some h with ⟨i63, vs64, s65, t66, hl67, h⟩ | ⟨z68, hl67, h⟩
                  · by_cases hi69 : i63 = 112
                    · subst hi69
                      rw [if_pos rfl] at h
                      have h9 := px_v0_some h
                      clear h
                      obtain ⟨rfl, h⟩ := h9
                      refine px_E_le (px_leC_L _ _ (by simp [px_leC, px_le1, Value.category])) (e_l_M_write_28_45_94 K N a0 a2 v58 N (0 : Int32) s61 t49 _ hl67 _ _ ?_)
                      show px_E px_ET px_P 5 29 112 [some (.ref 28), some (.int a0), none, none, none, none, none] [] (px_w K s65 t66) _ _
                      obtain ⟨⟨hq70, hq71⟩, h⟩ := px_gd_some h
                      refine px_blk (i' := 120) (L' := [some (.ref 28), some (.int a0), none, none, none, none, none]) (S' := []) (w' := px_w K (sA s65 30 a0.toNatClampNeg (((s65.2.2.1 30) a0.toNatClampNeg) + (1 : Int32))) t66) (q := [vp_in a0 (K.2.2 30), vp_in a0 (K.2.2 30)]) 8 hM rfl (show (vp_in a0 (K.2.2 30)) ∧ (vp_in a0 (K.2.2 30)) from ⟨hq70, hq71⟩) ?_
                      obtain ⟨s72, hs73, h⟩ := px_let_some h
                      rw [← hs73]
                      cases h
                      exact px_E_ret hM rfl rfl rfl trivial
                    · rw [if_neg hi69] at h
                      cases h
                  · cases h
                    exact px_E_le (px_leC_L _ _ (by simp [px_leC, px_le1, Value.category])) (e_l_M_write_28_45_94 K N a0 a2 v58 N (0 : Int32) s61 t49 _ hl67 _ _ ⟨rfl, rfl⟩)
                · rw [if_neg hi52] at h
                  cases h
              · cases h
                exact e_l_M_write_28_45_51 K N a0 a1 a2 v11 N v44 s39 t40 _ hl50 _ _ ⟨rfl, rfl⟩
            · rw [if_neg hi43] at h
              cases h
          · cases h
            exact e_l_M_write_28_45_28 K N a0 a1 a2 v11 N v11 s32 t33 _ hl41 _ _ ⟨rfl, rfl⟩
        · cases h
    · rw [if_neg hc6] at h
      cases h
      exact px_E_ret hM rfl rfl rfl trivial
  · cases h
noncomputable def l_M_three_28_43_2 (K : px_K) (N : Nat) (n : Nat) (u2 : Int32) (u3 : Int32) (u4 : Int32) (m5 : Int32) (s : px_S) (t : px_W) : Option px_LO := match n with
  | 0 => none
  | n + 1 => (if (16 : Int32) ≤ m5 then (some (.inl (11, [], s, t))) else (px_gd (vp_in m5 (K.2.2 43)) (px_let (sA s 43 m5.toNatClampNeg (0 : Int32)) (fun s3 => (l_M_three_28_43_2 K N n u2 u3 u4 (m5 + (1 : Int32)) s3 t)))))
def a_l_M_three_28_43_2 (K : px_K) (u2 : Int32) (u3 : Int32) (u4 : Int32) (z : px_LO) (o : Option Value ⊕ Nat) (w2 : px_W) : Prop := match z with
  | .inr (o', s', t') => o = o' ∧ w2 = px_w K s' t'
  | .inl (11, [], s', t') => px_E px_ET px_P 1 33 11 [none, some (.ref 43), some (.int u2), some (.int u3), some (.int u4), none] [] (px_w K s' t') o w2
  | _ => False
set_option maxRecDepth 100000 in
theorem e_l_M_three_28_43_2 (K : px_K) (N : Nat) (u2 : Int32) (u3 : Int32) (u4 : Int32) : ∀ (n : Nat) (m5 : Int32) (s : px_S) (t : px_W) (z : px_LO), l_M_three_28_43_2 K N n u2 u3 u4 m5 s t = some z → ∀ (o : Option Value ⊕ Nat) (w2 : px_W), a_l_M_three_28_43_2 K u2 u3 u4 z o w2 → px_E px_ET px_P 1 33 2 [none, some (.ref 43), some (.int u2), some (.int u3), some (.int u4), some (.int m5)] [] (px_w K s t) o w2 := by
  have hM : px_P[33]? = some pm_M_three := rfl
  intro n
  induction n with
  | zero => intro m5 s t z h; cases h
  | succ n ih =>
    intro m5 s t z h o w2 ha
    unfold l_M_three_28_43_2 at h
    refine px_blkif (c := (16 : Int32) ≤ m5) (t := 11) (e := 5) (L' := [none, some (.ref 43), some (.int u2), some (.int u3), some (.int u4), some (.int m5)]) (S' := []) (w' := px_w K s t) (q := []) 3 hM rfl trivial (fun hc1 => ?_) (fun hc1 => ?_)
    · rw [if_pos hc1] at h
      cases h
      exact px_E_le (px_leC_L _ _ (by simp [px_leC, px_le1, Value.category])) ha
    · rw [if_neg hc1] at h
      obtain ⟨hq2, h⟩ := px_gd_some h
      refine px_blk (i' := 9) (L' := [none, some (.ref 43), some (.int u2), some (.int u3), some (.int u4), some (.int m5)]) (S' := []) (w' := px_w K (sA s 43 m5.toNatClampNeg (0 : Int32)) t) (q := [vp_in m5 (K.2.2 43)]) 4 hM rfl (show vp_in m5 (K.2.2 43) from hq2) ?_
      obtain ⟨s3, hs4, h⟩ := px_let_some h
      rw [← hs4]
      refine px_blk (i' := 2) (L' := [none, some (.ref 43), some (.int u2), some (.int u3), some (.int u4), some (.int (m5 + (1 : Int32)))]) (S' := []) (w' := px_w K s3 t) (q := []) 2 hM rfl trivial ?_
      exact ih (m5 + (1 : Int32)) s3 t z h o w2 ha
noncomputable def f_M_three_28_43 (K : px_K) (N : Nat) (a0 : Int32) (a1 : Int32) (a2 : Int32) (s : px_S) (t : px_W) : Option px_Res :=
  (px_lp (l_M_three_28_43_2 K N N a0 a1 a2 (3 : Int32) s t) (fun i1 vs2 s3 t4 => (if i1 = 11 then (px_v0 vs2 (px_gd (vp_in (0 : Int32) (K.2.2 43)) (px_let (sA s3 43 (0 : Int32).toNatClampNeg a0) (fun s9 => (px_gd (vp_in (1 : Int32) (K.2.2 43)) (px_let (sA s9 43 (1 : Int32).toNatClampNeg a1) (fun s12 => (px_gd (vp_in (2 : Int32) (K.2.2 43)) (px_let (sA s12 43 (2 : Int32).toNatClampNeg a2) (fun s15 => (some (.inl none, s15, t4)))))))))))) else none)) (fun z6 => some z6))
set_option maxRecDepth 100000 in
theorem e_M_three_28_43 (K : px_K) (N : Nat) (a0 : Int32) (a1 : Int32) (a2 : Int32) (s : px_S) (t : px_W) (r : px_Res) (h : f_M_three_28_43 K N a0 a1 a2 s t = some r) : px_E px_ET px_P 1 33 0 (px_ent 6 [.ref 28, .ref 43, .int a0, .int a1, .int a2]) [] (px_w K s t) r.1 (px_w K r.2.1 r.2.2) := by
  have hM : px_P[33]? = some pm_M_three := rfl
  unfold f_M_three_28_43 at h
  refine px_blk (i' := 2) (L' := [some (.ref 28), some (.ref 43), some (.int a0), some (.int a1), some (.int a2), some (.int (3 : Int32))]) (S' := []) (w' := px_w K s t) (q := []) 2 hM rfl trivial ?_
  rcases px_lp_some h with ⟨i1, vs2, s3, t4, hl5, h⟩ | ⟨z6, hl5, h⟩
  · by_cases hi7 : i1 = 11
    · subst hi7
      rw [if_pos rfl] at h
      have h9 := px_v0_some h
      clear h
      obtain ⟨rfl, h⟩ := h9
      refine px_E_le (px_leC_L _ _ (by simp [px_leC, px_le1, Value.category])) (e_l_M_three_28_43_2 K N a0 a1 a2 N (3 : Int32) s t _ hl5 _ _ ?_)
      show px_E px_ET px_P 1 33 11 [none, some (.ref 43), some (.int a0), some (.int a1), some (.int a2), none] [] (px_w K s3 t4) _ _
      obtain ⟨hq8, h⟩ := px_gd_some h
      refine px_blk (i' := 15) (L' := [none, some (.ref 43), some (.int a0), some (.int a1), some (.int a2), none]) (S' := []) (w' := px_w K (sA s3 43 (0 : Int32).toNatClampNeg a0) t4) (q := [vp_in (0 : Int32) (K.2.2 43)]) 4 hM rfl (show vp_in (0 : Int32) (K.2.2 43) from hq8) ?_
      obtain ⟨s9, hs10, h⟩ := px_let_some h
      rw [← hs10]
      obtain ⟨hq11, h⟩ := px_gd_some h
      refine px_blk (i' := 19) (L' := [none, some (.ref 43), some (.int a0), some (.int a1), some (.int a2), none]) (S' := []) (w' := px_w K (sA s9 43 (1 : Int32).toNatClampNeg a1) t4) (q := [vp_in (1 : Int32) (K.2.2 43)]) 4 hM rfl (show vp_in (1 : Int32) (K.2.2 43) from hq11) ?_
      obtain ⟨s12, hs13, h⟩ := px_let_some h
      rw [← hs13]
      obtain ⟨hq14, h⟩ := px_gd_some h
      refine px_blk (i' := 23) (L' := [none, some (.ref 43), some (.int a0), some (.int a1), some (.int a2), none]) (S' := []) (w' := px_w K (sA s12 43 (2 : Int32).toNatClampNeg a2) t4) (q := [vp_in (2 : Int32) (K.2.2 43)]) 4 hM rfl (show vp_in (2 : Int32) (K.2.2 43) from hq14) ?_
      obtain ⟨s15, hs16, h⟩ := px_let_some h
      rw [← hs16]
      cases h
      exact px_E_ret hM rfl rfl rfl trivial
    · rw [if_neg hi7] at h
      cases h
  · cases h
    exact px_E_le (px_leC_L _ _ (by simp [px_leC, px_le1, Value.category])) (e_l_M_three_28_43_2 K N a0 a1 a2 N (3 : Int32) s t _ hl5 _ _ ⟨rfl, rfl⟩)
noncomputable def l_M_land1_28_15 (K : px_K) (N : Nat) (n : Nat) (u1 : Int32) (u2 : Int32) (m3 : Int32) (s : px_S) (t : px_W) : Option px_LO := match n with
  | 0 => none
  | n + 1 => (if (16 : Int32) ≤ m3 then (some (.inl (25, [], s, t))) else (px_gd (vp_in m3 (K.2.2 45)) (px_let (sA s 45 m3.toNatClampNeg (0 : Int32)) (fun s3 => (l_M_land1_28_15 K N n u1 u2 (m3 + (1 : Int32)) s3 t)))))
def a_l_M_land1_28_15 (K : px_K) (u1 : Int32) (u2 : Int32) (z : px_LO) (o : Option Value ⊕ Nat) (w2 : px_W) : Prop := match z with
  | .inr (o', s', t') => o = o' ∧ w2 = px_w K s' t'
  | .inl (25, [], s', t') => px_E px_ET px_P 6 48 25 [some (.ref 28), some (.int u1), some (.int u2), none] [] (px_w K s' t') o w2
  | _ => False
noncomputable def l_M_land1_28_30 (K : px_K) (N : Nat) (n : Nat) (u1 : Int32) (m2 : Int32) (m3 : Int32) (s : px_S) (t : px_W) : Option px_LO := match n with
  | 0 => none
  | n + 1 => (if m3 < 0 then (some (.inl (68, [m2], s, t))) else (px_bv (f_M_copy_28_43 K N (1 : Int32) ((50 : Int32) + m3) (0 : Int32) s t) (fun s2 t3 => (px_bv (f_M_write_28_43 K N (0 : Int32) ((3 : Int32) + m2) (0 : Int32) s2 t3) (fun s7 t8 => (px_gd ((vp_in m3 (K.2.2 35)) ∧ (vp_in m2 (K.2.2 45))) (px_let (sA s7 45 m2.toNatClampNeg ((s7.2.2.1 35) m3.toNatClampNeg)) (fun s14 => (px_gd (vp_in m3 (K.2.2 35)) (px_bi (f_M_nextOf_28 K N u1 ((s14.2.2.1 35) m3.toNatClampNeg) s14 t8) (fun v20 s17 t18 => (l_M_land1_28_30 K N n u1 (m2 + (1 : Int32)) v20 s17 t18)) (fun x21 s17 t18 => none))))))) (fun x11 s7 t8 => none))) (fun x6 s2 t3 => none)))
def a_l_M_land1_28_30 (K : px_K) (u1 : Int32) (z : px_LO) (o : Option Value ⊕ Nat) (w2 : px_W) : Prop := match z with
  | .inr (o', s', t') => o = o' ∧ w2 = px_w K s' t'
  | .inl (68, [y2], s', t') => px_E px_ET px_P 6 48 68 [some (.ref 28), some (.int u1), some (.int y2), none] [] (px_w K s' t') o w2
  | _ => False
noncomputable def l_M_land1_28_100 (K : px_K) (N : Nat) (n : Nat) (u1 : Int32) (m3 : Int32) (s : px_S) (t : px_W) : Option px_LO := match n with
  | 0 => none
  | n + 1 => (if m3 < 0 then (some (.inl (132, [], s, t))) else (px_bv (f_M_copy_28_43 K N (1 : Int32) ((50 : Int32) + m3) (0 : Int32) s t) (fun s2 t3 => (px_gd (vp_in m3 (K.2.2 35)) (px_bv (f_M_write_28_43 K N (0 : Int32) ((19 : Int32) + ((s2.2.2.1 35) m3.toNatClampNeg)) (0 : Int32) s2 t3) (fun s8 t9 => (px_gd (vp_in m3 (K.2.2 35)) (px_bi (f_M_nextOf_28 K N u1 ((s8.2.2.1 35) m3.toNatClampNeg) s8 t9) (fun v17 s14 t15 => (l_M_land1_28_100 K N n u1 v17 s14 t15)) (fun x18 s14 t15 => none)))) (fun x12 s8 t9 => none)))) (fun x6 s2 t3 => none)))
def a_l_M_land1_28_100 (K : px_K) (u1 : Int32) (z : px_LO) (o : Option Value ⊕ Nat) (w2 : px_W) : Prop := match z with
  | .inr (o', s', t') => o = o' ∧ w2 = px_w K s' t'
  | .inl (132, [], s', t') => px_E px_ET px_P 6 48 132 [some (.ref 28), some (.int u1), none, none] [] (px_w K s' t') o w2
  | _ => False
noncomputable def l_M_land1_28_154 (K : px_K) (N : Nat) (n : Nat) (u1 : Int32) (m3 : Int32) (s : px_S) (t : px_W) : Option px_LO := match n with
  | 0 => none
  | n + 1 => (if ((s.1 26) * (s.1 27)) ≤ m3 then (some (.inl (195, [], s, t))) else (px_gd (vp_in m3 (K.2.2 36)) (if ((s.2.2.1 36) m3.toNatClampNeg) = u1 then (px_gd (vp_in m3 (K.2.2 36)) (px_let (sA s 36 m3.toNatClampNeg (0 : Int32)) (fun s5 => (px_gd (vp_in m3 (K.2.2 35)) (px_bi (f_M_newest_28 K N ((s5.2.2.1 35) m3.toNatClampNeg) s5 t) (fun v11 s8 t9 => (px_gd (vp_in v11 (K.2.2 36)) (if ((s8.2.2.1 36) v11.toNatClampNeg) ≤ 0 then (l_M_land1_28_154 K N n u1 (m3 + (1 : Int32)) s8 t9) else (px_gd (vp_in m3 (K.2.2 35)) (px_let (sA s8 35 m3.toNatClampNeg (-1 : Int32)) (fun s16 => (px_gd (vp_in m3 (K.2.2 37)) (px_let (sA s16 37 m3.toNatClampNeg (0 : Int32)) (fun s19 => (l_M_land1_28_154 K N n u1 (m3 + (1 : Int32)) s19 t9)))))))))) (fun x12 s8 t9 => none)))))) else (l_M_land1_28_154 K N n u1 (m3 + (1 : Int32)) s t))))
def a_l_M_land1_28_154 (K : px_K) (u1 : Int32) (z : px_LO) (o : Option Value ⊕ Nat) (w2 : px_W) : Prop := match z with
  | .inr (o', s', t') => o = o' ∧ w2 = px_w K s' t'
  | .inl (195, [], s', t') => px_E px_ET px_P 6 48 195 [none, some (.int u1), none, none] [] (px_w K s' t') o w2
  | _ => False
set_option maxRecDepth 100000 in
theorem e_l_M_land1_28_15 (K : px_K) (N : Nat) (u1 : Int32) (u2 : Int32) : ∀ (n : Nat) (m3 : Int32) (s : px_S) (t : px_W) (z : px_LO), l_M_land1_28_15 K N n u1 u2 m3 s t = some z → ∀ (o : Option Value ⊕ Nat) (w2 : px_W), a_l_M_land1_28_15 K u1 u2 z o w2 → px_E px_ET px_P 6 48 15 [some (.ref 28), some (.int u1), some (.int u2), some (.int m3)] [] (px_w K s t) o w2 := by
  have hM : px_P[48]? = some pm_M_land1 := rfl
  intro n
  induction n with
  | zero => intro m3 s t z h; cases h
  | succ n ih =>
    intro m3 s t z h o w2 ha
    unfold l_M_land1_28_15 at h
    refine px_blkif (c := (16 : Int32) ≤ m3) (t := 25) (e := 18) (L' := [some (.ref 28), some (.int u1), some (.int u2), some (.int m3)]) (S' := []) (w' := px_w K s t) (q := []) 3 hM rfl trivial (fun hc1 => ?_) (fun hc1 => ?_)
    · rw [if_pos hc1] at h
      cases h
      exact px_E_le (px_leC_L _ _ (by simp [px_leC, px_le1, Value.category])) ha
    · rw [if_neg hc1] at h
      obtain ⟨hq2, h⟩ := px_gd_some h
      refine px_blk (i' := 23) (L' := [some (.ref 28), some (.int u1), some (.int u2), some (.int m3)]) (S' := []) (w' := px_w K (sA s 45 m3.toNatClampNeg (0 : Int32)) t) (q := [vp_in m3 (K.2.2 45)]) 5 hM rfl (show vp_in m3 (K.2.2 45) from hq2) ?_
      obtain ⟨s3, hs4, h⟩ := px_let_some h
      rw [← hs4]
      refine px_blk (i' := 15) (L' := [some (.ref 28), some (.int u1), some (.int u2), some (.int (m3 + (1 : Int32)))]) (S' := []) (w' := px_w K s3 t) (q := []) 2 hM rfl trivial ?_
      exact ih (m3 + (1 : Int32)) s3 t z h o w2 ha
set_option maxRecDepth 100000 in
theorem e_l_M_land1_28_30 (K : px_K) (N : Nat) (u1 : Int32) : ∀ (n : Nat) (m2 : Int32) (m3 : Int32) (s : px_S) (t : px_W) (z : px_LO), l_M_land1_28_30 K N n u1 m2 m3 s t = some z → ∀ (o : Option Value ⊕ Nat) (w2 : px_W), a_l_M_land1_28_30 K u1 z o w2 → px_E px_ET px_P 6 48 30 [some (.ref 28), some (.int u1), some (.int m2), some (.int m3)] [] (px_w K s t) o w2 := by
  have hM : px_P[48]? = some pm_M_land1 := rfl
  intro n
  induction n with
  | zero => intro m2 m3 s t z h; cases h
  | succ n ih =>
    intro m2 m3 s t z h o w2 ha
    unfold l_M_land1_28_30 at h
    refine px_blkif (c := m3 < 0) (t := 68) (e := 32) (L' := [some (.ref 28), some (.int u1), some (.int m2), some (.int m3)]) (S' := []) (w' := px_w K s t) (q := []) 2 hM rfl trivial (fun hc1 => ?_) (fun hc1 => ?_)
    · rw [if_pos hc1] at h
      cases h
      exact px_E_le (px_leC_L _ _ (by simp [px_leC, px_le1, Value.category])) ha
    · rw [if_neg hc1] at h
      refine px_blk (i' := 40) (L' := [some (.ref 28), some (.int u1), some (.int m2), some (.int m3)]) (S' := [.int (0 : Int32), .ref 43, .int ((50 : Int32) + m3), .int (1 : Int32), .ref 28]) (w' := px_w K s t) (q := []) 8 hM rfl trivial ?_
      rcases px_bv_some h with ⟨s2, t3, hk4, h⟩ | ⟨x6, s2, t3, hk4, h⟩
      · refine px_E_call hM rfl rfl rfl rfl (px_E_mono (by decide) (e_M_copy_28_43 K N (1 : Int32) ((50 : Int32) + m3) (0 : Int32) s t _ hk4)) ?_
        refine px_blk (i' := 49) (L' := [some (.ref 28), some (.int u1), some (.int m2), some (.int m3)]) (S' := [.int (0 : Int32), .ref 43, .int ((3 : Int32) + m2), .int (0 : Int32), .ref 28]) (w' := px_w K s2 t3) (q := []) 8 hM rfl trivial ?_
        rcases px_bv_some h with ⟨s7, t8, hk9, h⟩ | ⟨x11, s7, t8, hk9, h⟩
        · refine px_E_call hM rfl rfl rfl rfl (px_E_mono (by decide) (e_M_write_28_43 K N (0 : Int32) ((3 : Int32) + m2) (0 : Int32) s2 t3 _ hk9)) ?_
          obtain ⟨⟨hq12, hq13⟩, h⟩ := px_gd_some h
          refine px_blk (i' := 58) (L' := [some (.ref 28), some (.int u1), some (.int m2), some (.int m3)]) (S' := []) (w' := px_w K (sA s7 45 m2.toNatClampNeg ((s7.2.2.1 35) m3.toNatClampNeg)) t8) (q := [vp_in m3 (K.2.2 35), vp_in m2 (K.2.2 45)]) 8 hM rfl (show (vp_in m3 (K.2.2 35)) ∧ (vp_in m2 (K.2.2 45)) from ⟨hq12, hq13⟩) ?_
          obtain ⟨s14, hs15, h⟩ := px_let_some h
          rw [← hs15]
          obtain ⟨hq16, h⟩ := px_gd_some h
          refine px_blk (i' := 65) (L' := [some (.ref 28), some (.int u1), some (.int (m2 + (1 : Int32))), some (.int m3)]) (S' := [.int ((s14.2.2.1 35) m3.toNatClampNeg), .int u1, .ref 28]) (w' := px_w K s14 t8) (q := [vp_in m3 (K.2.2 35)]) 7 hM rfl (show vp_in m3 (K.2.2 35) from hq16) ?_
          rcases px_bi_some h with ⟨v20, s17, t18, hk19, h⟩ | ⟨x21, s17, t18, hk19, h⟩
          · refine px_E_call hM rfl rfl rfl rfl (px_E_mono (by decide) (e_M_nextOf_28 K N u1 ((s14.2.2.1 35) m3.toNatClampNeg) s14 t8 _ hk19)) ?_
            refine px_blk (i' := 30) (L' := [some (.ref 28), some (.int u1), some (.int (m2 + (1 : Int32))), some (.int v20)]) (S' := []) (w' := px_w K s17 t18) (q := []) 2 hM rfl trivial ?_
            exact ih (m2 + (1 : Int32)) v20 s17 t18 z h o w2 ha
          · cases h
        · cases h
      · cases h
set_option maxRecDepth 100000 in
theorem e_l_M_land1_28_100 (K : px_K) (N : Nat) (u1 : Int32) : ∀ (n : Nat) (m3 : Int32) (s : px_S) (t : px_W) (z : px_LO), l_M_land1_28_100 K N n u1 m3 s t = some z → ∀ (o : Option Value ⊕ Nat) (w2 : px_W), a_l_M_land1_28_100 K u1 z o w2 → px_E px_ET px_P 6 48 100 [some (.ref 28), some (.int u1), none, some (.int m3)] [] (px_w K s t) o w2 := by
  have hM : px_P[48]? = some pm_M_land1 := rfl
  intro n
  induction n with
  | zero => intro m3 s t z h; cases h
  | succ n ih =>
    intro m3 s t z h o w2 ha
    unfold l_M_land1_28_100 at h
    refine px_blkif (c := m3 < 0) (t := 132) (e := 102) (L' := [some (.ref 28), some (.int u1), none, some (.int m3)]) (S' := []) (w' := px_w K s t) (q := []) 2 hM rfl trivial (fun hc1 => ?_) (fun hc1 => ?_)
    · rw [if_pos hc1] at h
      cases h
      exact px_E_le (px_leC_L _ _ (by simp [px_leC, px_le1, Value.category])) ha
    · rw [if_neg hc1] at h
      refine px_blk (i' := 110) (L' := [some (.ref 28), some (.int u1), none, some (.int m3)]) (S' := [.int (0 : Int32), .ref 43, .int ((50 : Int32) + m3), .int (1 : Int32), .ref 28]) (w' := px_w K s t) (q := []) 8 hM rfl trivial ?_
      rcases px_bv_some h with ⟨s2, t3, hk4, h⟩ | ⟨x6, s2, t3, hk4, h⟩
      · refine px_E_call hM rfl rfl rfl rfl (px_E_mono (by decide) (e_M_copy_28_43 K N (1 : Int32) ((50 : Int32) + m3) (0 : Int32) s t _ hk4)) ?_
        obtain ⟨hq7, h⟩ := px_gd_some h
        refine px_blk (i' := 122) (L' := [some (.ref 28), some (.int u1), none, some (.int m3)]) (S' := [.int (0 : Int32), .ref 43, .int ((19 : Int32) + ((s2.2.2.1 35) m3.toNatClampNeg)), .int (0 : Int32), .ref 28]) (w' := px_w K s2 t3) (q := [vp_in m3 (K.2.2 35)]) 11 hM rfl (show vp_in m3 (K.2.2 35) from hq7) ?_
        rcases px_bv_some h with ⟨s8, t9, hk10, h⟩ | ⟨x12, s8, t9, hk10, h⟩
        · refine px_E_call hM rfl rfl rfl rfl (px_E_mono (by decide) (e_M_write_28_43 K N (0 : Int32) ((19 : Int32) + ((s2.2.2.1 35) m3.toNatClampNeg)) (0 : Int32) s2 t3 _ hk10)) ?_
          obtain ⟨hq13, h⟩ := px_gd_some h
          refine px_blk (i' := 129) (L' := [some (.ref 28), some (.int u1), none, some (.int m3)]) (S' := [.int ((s8.2.2.1 35) m3.toNatClampNeg), .int u1, .ref 28]) (w' := px_w K s8 t9) (q := [vp_in m3 (K.2.2 35)]) 6 hM rfl (show vp_in m3 (K.2.2 35) from hq13) ?_
          rcases px_bi_some h with ⟨v17, s14, t15, hk16, h⟩ | ⟨x18, s14, t15, hk16, h⟩
          · refine px_E_call hM rfl rfl rfl rfl (px_E_mono (by decide) (e_M_nextOf_28 K N u1 ((s8.2.2.1 35) m3.toNatClampNeg) s8 t9 _ hk16)) ?_
            refine px_blk (i' := 100) (L' := [some (.ref 28), some (.int u1), none, some (.int v17)]) (S' := []) (w' := px_w K s14 t15) (q := []) 2 hM rfl trivial ?_
            exact ih v17 s14 t15 z h o w2 ha
          · cases h
        · cases h
      · cases h
set_option maxRecDepth 100000 in
theorem e_l_M_land1_28_154 (K : px_K) (N : Nat) (u1 : Int32) : ∀ (n : Nat) (m3 : Int32) (s : px_S) (t : px_W) (z : px_LO), l_M_land1_28_154 K N n u1 m3 s t = some z → ∀ (o : Option Value ⊕ Nat) (w2 : px_W), a_l_M_land1_28_154 K u1 z o w2 → px_E px_ET px_P 6 48 154 [some (.ref 28), some (.int u1), none, some (.int m3)] [] (px_w K s t) o w2 := by
  have hM : px_P[48]? = some pm_M_land1 := rfl
  intro n
  induction n with
  | zero => intro m3 s t z h; cases h
  | succ n ih =>
    intro m3 s t z h o w2 ha
    unfold l_M_land1_28_154 at h
    refine px_blkif (c := ((s.1 26) * (s.1 27)) ≤ m3) (t := 195) (e := 161) (L' := [some (.ref 28), some (.int u1), none, some (.int m3)]) (S' := []) (w' := px_w K s t) (q := []) 7 hM rfl trivial (fun hc1 => ?_) (fun hc1 => ?_)
    · rw [if_pos hc1] at h
      cases h
      exact px_E_le (px_leC_L _ _ (by simp [px_leC, px_le1, Value.category])) ha
    · rw [if_neg hc1] at h
      obtain ⟨hq2, h⟩ := px_gd_some h
      refine px_blkif (c := ((s.2.2.1 36) m3.toNatClampNeg) = u1) (t := 168) (e := 167) (L' := [some (.ref 28), some (.int u1), none, some (.int m3)]) (S' := []) (w' := px_w K s t) (q := [vp_in m3 (K.2.2 36)]) 6 hM rfl (show vp_in m3 (K.2.2 36) from hq2) (fun hc3 => ?_) (fun hc3 => ?_)
      · rw [if_pos hc3] at h
        obtain ⟨hq4, h⟩ := px_gd_some h
        refine px_blk (i' := 173) (L' := [some (.ref 28), some (.int u1), none, some (.int m3)]) (S' := []) (w' := px_w K (sA s 36 m3.toNatClampNeg (0 : Int32)) t) (q := [vp_in m3 (K.2.2 36)]) 5 hM rfl (show vp_in m3 (K.2.2 36) from hq4) ?_
        obtain ⟨s5, hs6, h⟩ := px_let_some h
        rw [← hs6]
        obtain ⟨hq7, h⟩ := px_gd_some h
        refine px_blk (i' := 180) (L' := [some (.ref 28), some (.int u1), none, some (.int m3)]) (S' := [.int ((s5.2.2.1 35) m3.toNatClampNeg), .ref 28, .ref 36]) (w' := px_w K s5 t) (q := [vp_in m3 (K.2.2 35)]) 7 hM rfl (show vp_in m3 (K.2.2 35) from hq7) ?_
        rcases px_bi_some h with ⟨v11, s8, t9, hk10, h⟩ | ⟨x12, s8, t9, hk10, h⟩
        · refine px_E_call hM rfl rfl rfl rfl (px_E_mono (by decide) (e_M_newest_28 K N ((s5.2.2.1 35) m3.toNatClampNeg) s5 t _ hk10)) ?_
          obtain ⟨hq13, h⟩ := px_gd_some h
          refine px_blkif (c := ((s8.2.2.1 36) v11.toNatClampNeg) ≤ 0) (t := 193) (e := 183) (L' := [some (.ref 28), some (.int u1), none, some (.int m3)]) (S' := []) (w' := px_w K s8 t9) (q := [vp_in v11 (K.2.2 36)]) 2 hM rfl (show vp_in v11 (K.2.2 36) from hq13) (fun hc14 => ?_) (fun hc14 => ?_)
          · rw [if_pos hc14] at h
            refine px_blk (i' := 154) (L' := [some (.ref 28), some (.int u1), none, some (.int (m3 + (1 : Int32)))]) (S' := []) (w' := px_w K s8 t9) (q := []) 2 hM rfl trivial ?_
            exact ih (m3 + (1 : Int32)) s8 t9 z h o w2 ha
          · rw [if_neg hc14] at h
            obtain ⟨hq15, h⟩ := px_gd_some h
            refine px_blk (i' := 188) (L' := [some (.ref 28), some (.int u1), none, some (.int m3)]) (S' := []) (w' := px_w K (sA s8 35 m3.toNatClampNeg (-1 : Int32)) t9) (q := [vp_in m3 (K.2.2 35)]) 5 hM rfl (show vp_in m3 (K.2.2 35) from hq15) ?_
            obtain ⟨s16, hs17, h⟩ := px_let_some h
            rw [← hs17]
            obtain ⟨hq18, h⟩ := px_gd_some h
            refine px_blk (i' := 193) (L' := [some (.ref 28), some (.int u1), none, some (.int m3)]) (S' := []) (w' := px_w K (sA s16 37 m3.toNatClampNeg (0 : Int32)) t9) (q := [vp_in m3 (K.2.2 37), (0 : Int32) = 0 ∨ (0 : Int32) = 1]) 5 hM rfl (show (vp_in m3 (K.2.2 37)) ∧ ((0 : Int32) = 0 ∨ (0 : Int32) = 1) from ⟨hq18, Or.inl rfl⟩) ?_
            obtain ⟨s19, hs20, h⟩ := px_let_some h
            rw [← hs20]
            refine px_blk (i' := 154) (L' := [some (.ref 28), some (.int u1), none, some (.int (m3 + (1 : Int32)))]) (S' := []) (w' := px_w K s19 t9) (q := []) 2 hM rfl trivial ?_
            exact ih (m3 + (1 : Int32)) s19 t9 z h o w2 ha
        · cases h
      · rw [if_neg hc3] at h
        refine px_blk (i' := 154) (L' := [some (.ref 28), some (.int u1), none, some (.int (m3 + (1 : Int32)))]) (S' := []) (w' := px_w K s t) (q := []) 3 hM rfl trivial ?_
        exact ih (m3 + (1 : Int32)) s t z h o w2 ha
noncomputable def f_M_land1_28 (K : px_K) (N : Nat) (s : px_S) (t : px_W) : Option px_Res :=
  (px_bi (f_M_landed_28 K N s t) (fun v4 s1 t2 => (if (v4 + (1 : Int32)) < (s1.1 32) then (px_lp (l_M_land1_28_15 K N N (v4 + (1 : Int32)) (0 : Int32) (0 : Int32) s1 t2) (fun i7 vs8 s9 t10 => (if i7 = 25 then (px_v0 vs8 (px_bi (f_M_nextOf_28 K N (v4 + (1 : Int32)) (-1 : Int32) s9 t10) (fun v17 s14 t15 => (px_lp (l_M_land1_28_30 K N N (v4 + (1 : Int32)) (0 : Int32) v17 s14 t15) (fun i19 vs20 s21 t22 => (if i19 = 68 then (px_v1 vs20 (fun y25 => (px_bv (f_M_write_28_45 K N (0 : Int32) (2 : Int32) (0 : Int32) s21 t22) (fun s27 t28 => (px_bv (f_M_flush_28 K N (0 : Int32) s27 t28) (fun s32 t33 => (px_bv (f_M_three_28_43 K N (1 : Int32) (v4 + (1 : Int32)) y25 s32 t33) (fun s37 t38 => (px_bv (f_M_write_28_43 K N (0 : Int32) (1 : Int32) (0 : Int32) s37 t38) (fun s42 t43 => (px_bv (f_M_flush_28 K N (0 : Int32) s42 t43) (fun s47 t48 => (px_bi (f_M_nextOf_28 K N (v4 + (1 : Int32)) (-1 : Int32) s47 t48) (fun v55 s52 t53 => (px_lp (l_M_land1_28_100 K N N (v4 + (1 : Int32)) v55 s52 t53) (fun i57 vs58 s59 t60 => (if i57 = 132 then (px_v0 vs58 (px_bv (f_M_flush_28 K N (0 : Int32) s59 t60) (fun s64 t65 => (px_bv (f_M_three_28_43 K N (0 : Int32) (v4 + (1 : Int32)) (0 : Int32) s64 t65) (fun s69 t70 => (px_bv (f_M_write_28_43 K N (0 : Int32) (1 : Int32) (0 : Int32) s69 t70) (fun s74 t75 => (px_bv (f_M_flush_28 K N (0 : Int32) s74 t75) (fun s79 t80 => (px_lp (l_M_land1_28_154 K N N (v4 + (1 : Int32)) (0 : Int32) s79 t80) (fun i84 vs85 s86 t87 => (if i84 = 195 then (px_v0 vs85 (some (.inl (some (.int (v4 + (1 : Int32)))), s86, t87))) else none)) (fun z89 => some z89))) (fun x83 s79 t80 => none))) (fun x78 s74 t75 => none))) (fun x73 s69 t70 => none))) (fun x68 s64 t65 => none))) else none)) (fun z62 => some z62))) (fun x56 s52 t53 => none))) (fun x51 s47 t48 => none))) (fun x46 s42 t43 => none))) (fun x41 s37 t38 => none))) (fun x36 s32 t33 => none))) (fun x31 s27 t28 => none)))) else none)) (fun z24 => some z24))) (fun x18 s14 t15 => none))) else none)) (fun z12 => some z12)) else (some (.inl (some (.int (0 : Int32))), s1, t2)))) (fun x5 s1 t2 => none))
set_option maxRecDepth 100000 in
theorem e_M_land1_28 (K : px_K) (N : Nat) (s : px_S) (t : px_W) (r : px_Res) (h : f_M_land1_28 K N s t = some r) : px_E px_ET px_P 6 48 0 (px_ent 4 [.ref 28]) [] (px_w K s t) r.1 (px_w K r.2.1 r.2.2) := by
  have hM : px_P[48]? = some pm_M_land1 := rfl
  unfold f_M_land1_28 at h
  refine px_blk (i' := 1) (L' := [some (.ref 28), none, none, none]) (S' := [.ref 28]) (w' := px_w K s t) (q := []) 1 hM rfl trivial ?_
  rcases px_bi_some h with ⟨v4, s1, t2, hk3, h⟩ | ⟨x5, s1, t2, hk3, h⟩
  · refine px_E_call hM rfl rfl rfl rfl (px_E_mono (by decide) (e_M_landed_28 K N s t _ hk3)) ?_
    refine px_blkif (c := (v4 + (1 : Int32)) < (s1.1 32)) (t := 11) (e := 9) (L' := [some (.ref 28), some (.int (v4 + (1 : Int32))), none, none]) (S' := []) (w' := px_w K s1 t2) (q := []) 7 hM rfl trivial (fun hc6 => ?_) (fun hc6 => ?_)
    · rw [if_pos hc6] at h
      refine px_blk (i' := 15) (L' := [some (.ref 28), some (.int (v4 + (1 : Int32))), some (.int (0 : Int32)), some (.int (0 : Int32))]) (S' := []) (w' := px_w K s1 t2) (q := []) 4 hM rfl trivial ?_
      rcases px_lp_some h with ⟨i7, vs8, s9, t10, hl11, h⟩ | ⟨z12, hl11, h⟩
      · by_cases hi13 : i7 = 25
        · subst hi13
          rw [if_pos rfl] at h
          have h9 := px_v0_some h
          clear h
          obtain ⟨rfl, h⟩ := h9
          refine e_l_M_land1_28_15 K N (v4 + (1 : Int32)) (0 : Int32) N (0 : Int32) s1 t2 _ hl11 _ _ ?_
          show px_E px_ET px_P 6 48 25 [some (.ref 28), some (.int (v4 + (1 : Int32))), some (.int (0 : Int32)), none] [] (px_w K s9 t10) _ _
          refine px_blk (i' := 28) (L' := [some (.ref 28), some (.int (v4 + (1 : Int32))), some (.int (0 : Int32)), none]) (S' := [.int (-1 : Int32), .int (v4 + (1 : Int32)), .ref 28]) (w' := px_w K s9 t10) (q := []) 3 hM rfl trivial ?_
          rcases px_bi_some h with ⟨v17, s14, t15, hk16, h⟩ | ⟨x18, s14, t15, hk16, h⟩
          · refine px_E_call hM rfl rfl rfl rfl (px_E_mono (by decide) (e_M_nextOf_28 K N (v4 + (1 : Int32)) (-1 : Int32) s9 t10 _ hk16)) ?_
            refine px_blk (i' := 30) (L' := [some (.ref 28), some (.int (v4 + (1 : Int32))), some (.int (0 : Int32)), some (.int v17)]) (S' := []) (w' := px_w K s14 t15) (q := []) 1 hM rfl trivial ?_
            rcases px_lp_some h with ⟨i19, vs20, s21, t22, hl23, h⟩ | ⟨z24, hl23, h⟩
            · by_cases hi26 : i19 = 68
              · subst hi26
                rw [if_pos rfl] at h
                have h9 := px_v1_some h
                clear h
                obtain ⟨y25, rfl, h⟩ := h9
                refine e_l_M_land1_28_30 K N (v4 + (1 : Int32)) N (0 : Int32) v17 s14 t15 _ hl23 _ _ ?_
                show px_E px_ET px_P 6 48 68 [some (.ref 28), some (.int (v4 + (1 : Int32))), some (.int y25), none] [] (px_w K s21 t22) _ _
                refine px_blk (i' := 74) (L' := [some (.ref 28), some (.int (v4 + (1 : Int32))), some (.int y25), none]) (S' := [.int (0 : Int32), .ref 45, .int (2 : Int32), .int (0 : Int32), .ref 28]) (w' := px_w K s21 t22) (q := []) 6 hM rfl trivial ?_
                rcases px_bv_some h with ⟨s27, t28, hk29, h⟩ | ⟨x31, s27, t28, hk29, h⟩
                · refine px_E_call hM rfl rfl rfl rfl (px_E_mono (by decide) (e_M_write_28_45 K N (0 : Int32) (2 : Int32) (0 : Int32) s21 t22 _ hk29)) ?_
                  refine px_blk (i' := 77) (L' := [some (.ref 28), some (.int (v4 + (1 : Int32))), some (.int y25), none]) (S' := [.int (0 : Int32), .ref 28]) (w' := px_w K s27 t28) (q := []) 2 hM rfl trivial ?_
                  rcases px_bv_some h with ⟨s32, t33, hk34, h⟩ | ⟨x36, s32, t33, hk34, h⟩
                  · refine px_E_call hM rfl rfl rfl rfl (px_E_mono (by decide) (e_M_flush_28 K N (0 : Int32) s27 t28 _ hk34)) ?_
                    refine px_blk (i' := 84) (L' := [some (.ref 28), some (.int (v4 + (1 : Int32))), some (.int y25), none]) (S' := [.int y25, .int (v4 + (1 : Int32)), .int (1 : Int32), .ref 43, .ref 28]) (w' := px_w K s32 t33) (q := []) 6 hM rfl trivial ?_
                    rcases px_bv_some h with ⟨s37, t38, hk39, h⟩ | ⟨x41, s37, t38, hk39, h⟩
                    · refine px_E_call hM rfl rfl rfl rfl (px_E_mono (by decide) (e_M_three_28_43 K N (1 : Int32) (v4 + (1 : Int32)) y25 s32 t33 _ hk39)) ?_
                      refine px_blk (i' := 91) (L' := [some (.ref 28), some (.int (v4 + (1 : Int32))), some (.int y25), none]) (S' := [.int (0 : Int32), .ref 43, .int (1 : Int32), .int (0 : Int32), .ref 28]) (w' := px_w K s37 t38) (q := []) 6 hM rfl trivial ?_
                      rcases px_bv_some h with ⟨s42, t43, hk44, h⟩ | ⟨x46, s42, t43, hk44, h⟩
                      · refine px_E_call hM rfl rfl rfl rfl (px_E_mono (by decide) (e_M_write_28_43 K N (0 : Int32) (1 : Int32) (0 : Int32) s37 t38 _ hk44)) ?_
                        refine px_blk (i' := 94) (L' := [some (.ref 28), some (.int (v4 + (1 : Int32))), some (.int y25), none]) (S' := [.int (0 : Int32), .ref 28]) (w' := px_w K s42 t43) (q := []) 2 hM rfl trivial ?_
                        rcases px_bv_some h with ⟨s47, t48, hk49, h⟩ | ⟨x51, s47, t48, hk49, h⟩
                        · refine px_E_call hM rfl rfl rfl rfl (px_E_mono (by decide) (e_M_flush_28 K N (0 : Int32) s42 t43 _ hk49)) ?_
                          refine px_blk (i' := 98) (L' := [some (.ref 28), some (.int (v4 + (1 : Int32))), some (.int y25), none]) (S' := [.int (-1 : Int32), .int (v4 + (1 : Int32)), .ref 28]) (w' := px_w K s47 t48) (q := []) 3 hM rfl trivial ?_
                          rcases px_bi_some h with ⟨v55, s52, t53, hk54, h⟩ | ⟨x56, s52, t53, hk54, h⟩
                          · refine px_E_call hM rfl rfl rfl rfl (px_E_mono (by decide) (e_M_nextOf_28 K N (v4 + (1 : Int32)) (-1 : Int32) s47 t48 _ hk54)) ?_
                            refine px_blk (i' := 100) (L' := [some (.ref 28), some (.int (v4 + (1 : Int32))), some (.int y25), some (.int v55)]) (S' := []) (w' := px_w K s52 t53) (q := []) 1 hM rfl trivial ?_
                            rcases px_lp_some h with ⟨i57, vs58, s59, t60, hl61, h⟩ | ⟨z62, hl61, h⟩
                            · by_cases hi63 : i57 = 132
                              · subst hi63
                                rw [if_pos rfl] at h
                                have h9 := px_v0_some h
                                clear h
                                obtain ⟨rfl, h⟩ := h9
                                refine px_E_le (px_leC_L _ _ (by simp [px_leC, px_le1, Value.category])) (e_l_M_land1_28_100 K N (v4 + (1 : Int32)) N v55 s52 t53 _ hl61 _ _ ?_)
                                show px_E px_ET px_P 6 48 132 [some (.ref 28), some (.int (v4 + (1 : Int32))), none, none] [] (px_w K s59 t60) _ _
                                refine px_blk (i' := 134) (L' := [some (.ref 28), some (.int (v4 + (1 : Int32))), none, none]) (S' := [.int (0 : Int32), .ref 28]) (w' := px_w K s59 t60) (q := []) 2 hM rfl trivial ?_
                                rcases px_bv_some h with ⟨s64, t65, hk66, h⟩ | ⟨x68, s64, t65, hk66, h⟩
                                · refine px_E_call hM rfl rfl rfl rfl (px_E_mono (by decide) (e_M_flush_28 K N (0 : Int32) s59 t60 _ hk66)) ?_
                                  refine px_blk (i' := 141) (L' := [some (.ref 28), some (.int (v4 + (1 : Int32))), none, none]) (S' := [.int (0 : Int32), .int (v4 + (1 : Int32)), .int (0 : Int32), .ref 43, .ref 28]) (w' := px_w K s64 t65) (q := []) 6 hM rfl trivial ?_
                                  rcases px_bv_some h with ⟨s69, t70, hk71, h⟩ | ⟨x73, s69, t70, hk71, h⟩
                                  · refine px_E_call hM rfl rfl rfl rfl (px_E_mono (by decide) (e_M_three_28_43 K N (0 : Int32) (v4 + (1 : Int32)) (0 : Int32) s64 t65 _ hk71)) ?_
                                    refine px_blk (i' := 148) (L' := [some (.ref 28), some (.int (v4 + (1 : Int32))), none, none]) (S' := [.int (0 : Int32), .ref 43, .int (1 : Int32), .int (0 : Int32), .ref 28]) (w' := px_w K s69 t70) (q := []) 6 hM rfl trivial ?_
                                    rcases px_bv_some h with ⟨s74, t75, hk76, h⟩ | ⟨x78, s74, t75, hk76, h⟩
                                    · refine px_E_call hM rfl rfl rfl rfl (px_E_mono (by decide) (e_M_write_28_43 K N (0 : Int32) (1 : Int32) (0 : Int32) s69 t70 _ hk76)) ?_
                                      refine px_blk (i' := 151) (L' := [some (.ref 28), some (.int (v4 + (1 : Int32))), none, none]) (S' := [.int (0 : Int32), .ref 28]) (w' := px_w K s74 t75) (q := []) 2 hM rfl trivial ?_
                                      rcases px_bv_some h with ⟨s79, t80, hk81, h⟩ | ⟨x83, s79, t80, hk81, h⟩
                                      · refine px_E_call hM rfl rfl rfl rfl (px_E_mono (by decide) (e_M_flush_28 K N (0 : Int32) s74 t75 _ hk81)) ?_
                                        refine px_blk (i' := 154) (L' := [some (.ref 28), some (.int (v4 + (1 : Int32))), none, some (.int (0 : Int32))]) (S' := []) (w' := px_w K s79 t80) (q := []) 2 hM rfl trivial ?_
                                        rcases px_lp_some h with ⟨i84, vs85, s86, t87, hl88, h⟩ | ⟨z89, hl88, h⟩
                                        · by_cases hi90 : i84 = 195
                                          · subst hi90
                                            rw [if_pos rfl] at h
                                            have h9 := px_v0_some h
                                            clear h
                                            obtain ⟨rfl, h⟩ := h9
                                            refine e_l_M_land1_28_154 K N (v4 + (1 : Int32)) N (0 : Int32) s79 t80 _ hl88 _ _ ?_
                                            show px_E px_ET px_P 6 48 195 [none, some (.int (v4 + (1 : Int32))), none, none] [] (px_w K s86 t87) _ _
                                            refine px_blk (i' := 196) (L' := [none, some (.int (v4 + (1 : Int32))), none, none]) (S' := [.int (v4 + (1 : Int32))]) (w' := px_w K s86 t87) (q := []) 1 hM rfl trivial ?_
                                            cases h
                                            exact px_E_ret hM rfl rfl rfl trivial
                                          · rw [if_neg hi90] at h
                                            cases h
                                        · cases h
                                          exact e_l_M_land1_28_154 K N (v4 + (1 : Int32)) N (0 : Int32) s79 t80 _ hl88 _ _ ⟨rfl, rfl⟩
                                      · cases h
                                    · cases h
                                  · cases h
                                · cases h
                              · rw [if_neg hi63] at h
                                cases h
                            · cases h
                              exact px_E_le (px_leC_L _ _ (by simp [px_leC, px_le1, Value.category])) (e_l_M_land1_28_100 K N (v4 + (1 : Int32)) N v55 s52 t53 _ hl61 _ _ ⟨rfl, rfl⟩)
                          · cases h
                        · cases h
                      · cases h
                    · cases h
                  · cases h
                · cases h
              · rw [if_neg hi26] at h
                cases h
            · cases h
              exact e_l_M_land1_28_30 K N (v4 + (1 : Int32)) N (0 : Int32) v17 s14 t15 _ hl23 _ _ ⟨rfl, rfl⟩
          · cases h
        · rw [if_neg hi13] at h
          cases h
      · cases h
        exact e_l_M_land1_28_15 K N (v4 + (1 : Int32)) (0 : Int32) N (0 : Int32) s1 t2 _ hl11 _ _ ⟨rfl, rfl⟩
    · rw [if_neg hc6] at h
      refine px_blk (i' := 10) (L' := [some (.ref 28), some (.int (v4 + (1 : Int32))), none, none]) (S' := [.int (0 : Int32)]) (w' := px_w K s1 t2) (q := []) 1 hM rfl trivial ?_
      cases h
      exact px_E_ret hM rfl rfl rfl trivial
  · cases h
noncomputable def l_M_records_28_33 (K : px_K) (N : Nat) (n : Nat) (u1 : Int32) (u2 : Int32) (u3 : Int32) (u4 : Int32) (u5 : Int32) (u6 : Int32) (u7 : Int32) (m8 : Int32) (s : px_S) (t : px_W) : Option px_LO := match n with
  | 0 => none
  | n + 1 => (if (16 : Int32) ≤ m8 then (some (.inl (43, [], s, t))) else (px_gd (vp_in m8 (K.2.2 43)) (px_let (sA s 43 m8.toNatClampNeg (0 : Int32)) (fun s3 => (l_M_records_28_33 K N n u1 u2 u3 u4 u5 u6 u7 (m8 + (1 : Int32)) s3 t)))))
def a_l_M_records_28_33 (K : px_K) (u1 : Int32) (u2 : Int32) (u3 : Int32) (u4 : Int32) (u5 : Int32) (u6 : Int32) (u7 : Int32) (z : px_LO) (o : Option Value ⊕ Nat) (w2 : px_W) : Prop := match z with
  | .inr (o', s', t') => o = o' ∧ w2 = px_w K s' t'
  | .inl (43, [], s', t') => px_E px_ET px_P 6 44 43 [some (.ref 28), some (.int u1), some (.int u2), some (.int u3), some (.int u4), some (.int u5), some (.int u6), some (.int u7), none] [] (px_w K s' t') o w2
  | _ => False
noncomputable def l_M_records_28_73 (K : px_K) (N : Nat) (n : Nat) (u1 : Int32) (u2 : Int32) (u3 : Int32) (u4 : Int32) (u6 : Int32) (u7 : Int32) (u8 : Int32) (m5 : Int32) (s : px_S) (t : px_W) : Option px_LO := match n with
  | 0 => none
  | n + 1 => (px_gd (vp_in m5 (K.2.2 36)) (if ((s.2.2.1 36) m5.toNatClampNeg) = u1 then (some (.inl (81, [m5], s, t))) else (l_M_records_28_73 K N n u1 u2 u3 u4 u6 u7 u8 (m5 + (1 : Int32)) s t)))
def a_l_M_records_28_73 (K : px_K) (u1 : Int32) (u2 : Int32) (u3 : Int32) (u4 : Int32) (u6 : Int32) (u7 : Int32) (u8 : Int32) (z : px_LO) (o : Option Value ⊕ Nat) (w2 : px_W) : Prop := match z with
  | .inr (o', s', t') => o = o' ∧ w2 = px_w K s' t'
  | .inl (81, [y5], s', t') => px_E px_ET px_P 6 44 81 [some (.ref 28), some (.int u1), some (.int u2), some (.int u3), some (.int u4), some (.int y5), some (.int u6), some (.int u7), some (.int u8)] [] (px_w K s' t') o w2
  | _ => False
noncomputable def l_M_records_28_70 (K : px_K) (N : Nat) (n : Nat) (u1 : Int32) (u2 : Int32) (u3 : Int32) (u4 : Int32) (u6 : Int32) (u7 : Int32) (m5 : Int32) (m8 : Int32) (s : px_S) (t : px_W) : Option px_LO := match n with
  | 0 => none
  | n + 1 => (if u6 ≤ m8 then (some (.inl (105, [m5], s, t))) else (px_lp (l_M_records_28_73 K N N u1 u2 u3 u4 u6 u7 m8 m5 s t) (fun i2 vs3 s4 t5 => (if i2 = 81 then (px_v1 vs3 (fun y8 => (px_gd (vp_in ((4 : Int32) + ((2 : Int32) * m8)) (K.2.2 43)) (px_let (sA s4 43 ((4 : Int32) + ((2 : Int32) * m8)).toNatClampNeg y8) (fun s11 => (px_gd ((vp_in y8 (K.2.2 35)) ∧ (vp_in ((5 : Int32) + ((2 : Int32) * m8)) (K.2.2 43))) (px_let (sA s11 43 ((5 : Int32) + ((2 : Int32) * m8)).toNatClampNeg ((s11.2.2.1 35) y8.toNatClampNeg)) (fun s15 => (l_M_records_28_70 K N n u1 u2 u3 u4 u6 u7 (y8 + (1 : Int32)) (m8 + (1 : Int32)) s15 t5))))))))) else none)) (fun z7 => some (.inr z7))))
def a_l_M_records_28_70 (K : px_K) (u1 : Int32) (u2 : Int32) (u3 : Int32) (u4 : Int32) (u6 : Int32) (u7 : Int32) (z : px_LO) (o : Option Value ⊕ Nat) (w2 : px_W) : Prop := match z with
  | .inr (o', s', t') => o = o' ∧ w2 = px_w K s' t'
  | .inl (105, [y5], s', t') => px_E px_ET px_P 6 44 105 [some (.ref 28), some (.int u1), some (.int u2), some (.int u3), some (.int u4), some (.int y5), some (.int u6), some (.int u7), none] [] (px_w K s' t') o w2
  | _ => False
noncomputable def l_M_records_28_8 (K : px_K) (N : Nat) (n : Nat) (u1 : Int32) (u2 : Int32) (u3 : Int32) (m4 : Int32) (m5 : Int32) (s : px_S) (t : px_W) : Option px_LO := match n with
  | 0 => none
  | n + 1 => (if u3 ≤ m4 then (some (.inl (145, [], s, t))) else (if (6 : Int32) ≤ (u3 - m4) then (if ¬ (m4 + (6 : Int32)) = u3 then (px_lp (l_M_records_28_33 K N N u1 u2 u3 m4 m5 (6 : Int32) (0 : Int32) (4 : Int32) s t) (fun i4 vs5 s6 t7 => (if i4 = 43 then (px_v0 vs5 (px_gd (vp_in (0 : Int32) (K.2.2 43)) (px_let (sA s6 43 (0 : Int32).toNatClampNeg (s6.1 34)) (fun s12 => (px_gd (vp_in (1 : Int32) (K.2.2 43)) (px_let (sA s12 43 (1 : Int32).toNatClampNeg u1) (fun s15 => (if (0 : Int32) = 0 then (px_gd (vp_in (2 : Int32) (K.2.2 43)) (px_let (sA s15 43 (2 : Int32).toNatClampNeg (0 : Int32)) (fun s19 => (px_gd (vp_in (3 : Int32) (K.2.2 43)) (px_let (sA s19 43 (3 : Int32).toNatClampNeg (6 : Int32)) (fun s22 => (px_lp (l_M_records_28_70 K N N u1 u2 u3 m4 (6 : Int32) (0 : Int32) m5 (0 : Int32) s22 t7) (fun i24 vs25 s26 t27 => (if i24 = 105 then (px_v1 vs25 (fun y30 => (if (0 : Int32) = 0 then (px_bv (f_M_write_28_43 K N (1 : Int32) ((((25 : Int32) * (s26.1 33)) + (1 : Int32)) + (s26.1 35)) (0 : Int32) s26 t27) (fun s33 t34 => (if (0 : Int32) = 0 then (px_let (sR s33 35 ((s33.1 35) + (1 : Int32))) (fun s39 => (l_M_records_28_8 K N n u1 u2 u3 (m4 + (6 : Int32)) y30 s39 t34))) else (if u2 = 0 then (px_let (sR s33 35 ((s33.1 35) + (1 : Int32))) (fun s42 => (l_M_records_28_8 K N n u1 u2 u3 (m4 + (6 : Int32)) y30 s42 t34))) else (px_bv (f_M_flush_28 K N (1 : Int32) s33 t34) (fun s44 t45 => (px_let (sR s44 35 ((s44.1 35) + (1 : Int32))) (fun s49 => (l_M_records_28_8 K N n u1 u2 u3 (m4 + (6 : Int32)) y30 s49 t45)))) (fun x48 s44 t45 => none))))) (fun x37 s33 t34 => none)) else (if u2 = 0 then (px_bv (f_M_write_28_43 K N (1 : Int32) ((((25 : Int32) * (s26.1 33)) + (1 : Int32)) + (s26.1 35)) (0 : Int32) s26 t27) (fun s52 t53 => (if (0 : Int32) = 0 then (px_let (sR s52 35 ((s52.1 35) + (1 : Int32))) (fun s58 => (l_M_records_28_8 K N n u1 u2 u3 (m4 + (6 : Int32)) y30 s58 t53))) else (if u2 = 0 then (px_let (sR s52 35 ((s52.1 35) + (1 : Int32))) (fun s61 => (l_M_records_28_8 K N n u1 u2 u3 (m4 + (6 : Int32)) y30 s61 t53))) else (px_bv (f_M_flush_28 K N (1 : Int32) s52 t53) (fun s63 t64 => (px_let (sR s63 35 ((s63.1 35) + (1 : Int32))) (fun s68 => (l_M_records_28_8 K N n u1 u2 u3 (m4 + (6 : Int32)) y30 s68 t64)))) (fun x67 s63 t64 => none))))) (fun x56 s52 t53 => none)) else (px_bv (f_M_flush_28 K N (1 : Int32) s26 t27) (fun s70 t71 => (px_bv (f_M_write_28_43 K N (1 : Int32) ((((25 : Int32) * (s70.1 33)) + (1 : Int32)) + (s70.1 35)) (0 : Int32) s70 t71) (fun s75 t76 => (if (0 : Int32) = 0 then (px_let (sR s75 35 ((s75.1 35) + (1 : Int32))) (fun s81 => (l_M_records_28_8 K N n u1 u2 u3 (m4 + (6 : Int32)) y30 s81 t76))) else (if u2 = 0 then (px_let (sR s75 35 ((s75.1 35) + (1 : Int32))) (fun s84 => (l_M_records_28_8 K N n u1 u2 u3 (m4 + (6 : Int32)) y30 s84 t76))) else (px_bv (f_M_flush_28 K N (1 : Int32) s75 t76) (fun s86 t87 => (px_let (sR s86 35 ((s86.1 35) + (1 : Int32))) (fun s91 => (l_M_records_28_8 K N n u1 u2 u3 (m4 + (6 : Int32)) y30 s91 t87)))) (fun x90 s86 t87 => none))))) (fun x79 s75 t76 => none))) (fun x74 s70 t71 => none)))))) else none)) (fun z29 => some (.inr z29))))))))) else (px_gd (vp_in (2 : Int32) (K.2.2 43)) (px_let (sA s15 43 (2 : Int32).toNatClampNeg (1 : Int32)) (fun s94 => (px_gd (vp_in (3 : Int32) (K.2.2 43)) (px_let (sA s94 43 (3 : Int32).toNatClampNeg (6 : Int32)) (fun s97 => (px_lp (l_M_records_28_70 K N N u1 u2 u3 m4 (6 : Int32) (0 : Int32) m5 (0 : Int32) s97 t7) (fun i99 vs100 s101 t102 => (if i99 = 105 then (px_v1 vs100 (fun y105 => (if (0 : Int32) = 0 then (px_bv (f_M_write_28_43 K N (1 : Int32) ((((25 : Int32) * (s101.1 33)) + (1 : Int32)) + (s101.1 35)) (0 : Int32) s101 t102) (fun s108 t109 => (if (0 : Int32) = 0 then (px_let (sR s108 35 ((s108.1 35) + (1 : Int32))) (fun s114 => (l_M_records_28_8 K N n u1 u2 u3 (m4 + (6 : Int32)) y105 s114 t109))) else (if u2 = 0 then (px_let (sR s108 35 ((s108.1 35) + (1 : Int32))) (fun s117 => (l_M_records_28_8 K N n u1 u2 u3 (m4 + (6 : Int32)) y105 s117 t109))) else (px_bv (f_M_flush_28 K N (1 : Int32) s108 t109) (fun s119 t120 => (px_let (sR s119 35 ((s119.1 35) + (1 : Int32))) (fun s124 => (l_M_records_28_8 K N n u1 u2 u3 (m4 + (6 : Int32)) y105 s124 t120)))) (fun x123 s119 t120 => none))))) (fun x112 s108 t109 => none)) else (if u2 = 0 then (px_bv (f_M_write_28_43 K N (1 : Int32) ((((25 : Int32) * (s101.1 33)) + (1 : Int32)) + (s101.1 35)) (0 : Int32) s101 t102) (fun s127 t128 => (if (0 : Int32) = 0 then (px_let (sR s127 35 ((s127.1 35) + (1 : Int32))) (fun s133 => (l_M_records_28_8 K N n u1 u2 u3 (m4 + (6 : Int32)) y105 s133 t128))) else (if u2 = 0 then (px_let (sR s127 35 ((s127.1 35) + (1 : Int32))) (fun s136 => (l_M_records_28_8 K N n u1 u2 u3 (m4 + (6 : Int32)) y105 s136 t128))) else (px_bv (f_M_flush_28 K N (1 : Int32) s127 t128) (fun s138 t139 => (px_let (sR s138 35 ((s138.1 35) + (1 : Int32))) (fun s143 => (l_M_records_28_8 K N n u1 u2 u3 (m4 + (6 : Int32)) y105 s143 t139)))) (fun x142 s138 t139 => none))))) (fun x131 s127 t128 => none)) else (px_bv (f_M_flush_28 K N (1 : Int32) s101 t102) (fun s145 t146 => (px_bv (f_M_write_28_43 K N (1 : Int32) ((((25 : Int32) * (s145.1 33)) + (1 : Int32)) + (s145.1 35)) (0 : Int32) s145 t146) (fun s150 t151 => (if (0 : Int32) = 0 then (px_let (sR s150 35 ((s150.1 35) + (1 : Int32))) (fun s156 => (l_M_records_28_8 K N n u1 u2 u3 (m4 + (6 : Int32)) y105 s156 t151))) else (if u2 = 0 then (px_let (sR s150 35 ((s150.1 35) + (1 : Int32))) (fun s159 => (l_M_records_28_8 K N n u1 u2 u3 (m4 + (6 : Int32)) y105 s159 t151))) else (px_bv (f_M_flush_28 K N (1 : Int32) s150 t151) (fun s161 t162 => (px_let (sR s161 35 ((s161.1 35) + (1 : Int32))) (fun s166 => (l_M_records_28_8 K N n u1 u2 u3 (m4 + (6 : Int32)) y105 s166 t162)))) (fun x165 s161 t162 => none))))) (fun x154 s150 t151 => none))) (fun x149 s145 t146 => none)))))) else none)) (fun z104 => some (.inr z104))))))))))))))))) else none)) (fun z9 => some (.inr z9))) else (px_lp (l_M_records_28_33 K N N u1 u2 u3 m4 m5 (6 : Int32) (1 : Int32) (4 : Int32) s t) (fun i168 vs169 s170 t171 => (if i168 = 43 then (px_v0 vs169 (px_gd (vp_in (0 : Int32) (K.2.2 43)) (px_let (sA s170 43 (0 : Int32).toNatClampNeg (s170.1 34)) (fun s176 => (px_gd (vp_in (1 : Int32) (K.2.2 43)) (px_let (sA s176 43 (1 : Int32).toNatClampNeg u1) (fun s179 => (if (1 : Int32) = 0 then (px_gd (vp_in (2 : Int32) (K.2.2 43)) (px_let (sA s179 43 (2 : Int32).toNatClampNeg (0 : Int32)) (fun s183 => (px_gd (vp_in (3 : Int32) (K.2.2 43)) (px_let (sA s183 43 (3 : Int32).toNatClampNeg (6 : Int32)) (fun s186 => (px_lp (l_M_records_28_70 K N N u1 u2 u3 m4 (6 : Int32) (1 : Int32) m5 (0 : Int32) s186 t171) (fun i188 vs189 s190 t191 => (if i188 = 105 then (px_v1 vs189 (fun y194 => (if (1 : Int32) = 0 then (px_bv (f_M_write_28_43 K N (1 : Int32) ((((25 : Int32) * (s190.1 33)) + (1 : Int32)) + (s190.1 35)) (0 : Int32) s190 t191) (fun s197 t198 => (if (1 : Int32) = 0 then (px_let (sR s197 35 ((s197.1 35) + (1 : Int32))) (fun s203 => (l_M_records_28_8 K N n u1 u2 u3 (m4 + (6 : Int32)) y194 s203 t198))) else (if u2 = 0 then (px_let (sR s197 35 ((s197.1 35) + (1 : Int32))) (fun s206 => (l_M_records_28_8 K N n u1 u2 u3 (m4 + (6 : Int32)) y194 s206 t198))) else (px_bv (f_M_flush_28 K N (1 : Int32) s197 t198) (fun s208 t209 => (px_let (sR s208 35 ((s208.1 35) + (1 : Int32))) (fun s213 => (l_M_records_28_8 K N n u1 u2 u3 (m4 + (6 : Int32)) y194 s213 t209)))) (fun x212 s208 t209 => none))))) (fun x201 s197 t198 => none)) else (if u2 = 0 then (px_bv (f_M_write_28_43 K N (1 : Int32) ((((25 : Int32) * (s190.1 33)) + (1 : Int32)) + (s190.1 35)) (0 : Int32) s190 t191) (fun s216 t217 => (if (1 : Int32) = 0 then (px_let (sR s216 35 ((s216.1 35) + (1 : Int32))) (fun s222 => (l_M_records_28_8 K N n u1 u2 u3 (m4 + (6 : Int32)) y194 s222 t217))) else (if u2 = 0 then (px_let (sR s216 35 ((s216.1 35) + (1 : Int32))) (fun s225 => (l_M_records_28_8 K N n u1 u2 u3 (m4 + (6 : Int32)) y194 s225 t217))) else (px_bv (f_M_flush_28 K N (1 : Int32) s216 t217) (fun s227 t228 => (px_let (sR s227 35 ((s227.1 35) + (1 : Int32))) (fun s232 => (l_M_records_28_8 K N n u1 u2 u3 (m4 + (6 : Int32)) y194 s232 t228)))) (fun x231 s227 t228 => none))))) (fun x220 s216 t217 => none)) else (px_bv (f_M_flush_28 K N (1 : Int32) s190 t191) (fun s234 t235 => (px_bv (f_M_write_28_43 K N (1 : Int32) ((((25 : Int32) * (s234.1 33)) + (1 : Int32)) + (s234.1 35)) (0 : Int32) s234 t235) (fun s239 t240 => (if (1 : Int32) = 0 then (px_let (sR s239 35 ((s239.1 35) + (1 : Int32))) (fun s245 => (l_M_records_28_8 K N n u1 u2 u3 (m4 + (6 : Int32)) y194 s245 t240))) else (if u2 = 0 then (px_let (sR s239 35 ((s239.1 35) + (1 : Int32))) (fun s248 => (l_M_records_28_8 K N n u1 u2 u3 (m4 + (6 : Int32)) y194 s248 t240))) else (px_bv (f_M_flush_28 K N (1 : Int32) s239 t240) (fun s250 t251 => (px_let (sR s250 35 ((s250.1 35) + (1 : Int32))) (fun s255 => (l_M_records_28_8 K N n u1 u2 u3 (m4 + (6 : Int32)) y194 s255 t251)))) (fun x254 s250 t251 => none))))) (fun x243 s239 t240 => none))) (fun x238 s234 t235 => none)))))) else none)) (fun z193 => some (.inr z193))))))))) else (px_gd (vp_in (2 : Int32) (K.2.2 43)) (px_let (sA s179 43 (2 : Int32).toNatClampNeg (1 : Int32)) (fun s258 => (px_gd (vp_in (3 : Int32) (K.2.2 43)) (px_let (sA s258 43 (3 : Int32).toNatClampNeg (6 : Int32)) (fun s261 => (px_lp (l_M_records_28_70 K N N u1 u2 u3 m4 (6 : Int32) (1 : Int32) m5 (0 : Int32) s261 t171) (fun i263 vs264 s265 t266 => (if i263 = 105 then (px_v1 vs264 (fun y269 => (if (1 : Int32) = 0 then (px_bv (f_M_write_28_43 K N (1 : Int32) ((((25 : Int32) * (s265.1 33)) + (1 : Int32)) + (s265.1 35)) (0 : Int32) s265 t266) (fun s272 t273 => (if (1 : Int32) = 0 then (px_let (sR s272 35 ((s272.1 35) + (1 : Int32))) (fun s278 => (l_M_records_28_8 K N n u1 u2 u3 (m4 + (6 : Int32)) y269 s278 t273))) else (if u2 = 0 then (px_let (sR s272 35 ((s272.1 35) + (1 : Int32))) (fun s281 => (l_M_records_28_8 K N n u1 u2 u3 (m4 + (6 : Int32)) y269 s281 t273))) else (px_bv (f_M_flush_28 K N (1 : Int32) s272 t273) (fun s283 t284 => (px_let (sR s283 35 ((s283.1 35) + (1 : Int32))) (fun s288 => (l_M_records_28_8 K N n u1 u2 u3 (m4 + (6 : Int32)) y269 s288 t284)))) (fun x287 s283 t284 => none))))) (fun x276 s272 t273 => none)) else (if u2 = 0 then (px_bv (f_M_write_28_43 K N (1 : Int32) ((((25 : Int32) * (s265.1 33)) + (1 : Int32)) + (s265.1 35)) (0 : Int32) s265 t266) (fun s291 t292 => (if (1 : Int32) = 0 then (px_let (sR s291 35 ((s291.1 35) + (1 : Int32))) (fun s297 => (l_M_records_28_8 K N n u1 u2 u3 (m4 + (6 : Int32)) y269 s297 t292))) else (if u2 = 0 then (px_let (sR s291 35 ((s291.1 35) + (1 : Int32))) (fun s300 => (l_M_records_28_8 K N n u1 u2 u3 (m4 + (6 : Int32)) y269 s300 t292))) else (px_bv (f_M_flush_28 K N (1 : Int32) s291 t292) (fun s302 t303 => (px_let (sR s302 35 ((s302.1 35) + (1 : Int32))) (fun s307 => (l_M_records_28_8 K N n u1 u2 u3 (m4 + (6 : Int32)) y269 s307 t303)))) (fun x306 s302 t303 => none))))) (fun x295 s291 t292 => none)) else (px_bv (f_M_flush_28 K N (1 : Int32) s265 t266) (fun s309 t310 => (px_bv (f_M_write_28_43 K N (1 : Int32) ((((25 : Int32) * (s309.1 33)) + (1 : Int32)) + (s309.1 35)) (0 : Int32) s309 t310) (fun s314 t315 => (if (1 : Int32) = 0 then (px_let (sR s314 35 ((s314.1 35) + (1 : Int32))) (fun s320 => (l_M_records_28_8 K N n u1 u2 u3 (m4 + (6 : Int32)) y269 s320 t315))) else (if u2 = 0 then (px_let (sR s314 35 ((s314.1 35) + (1 : Int32))) (fun s323 => (l_M_records_28_8 K N n u1 u2 u3 (m4 + (6 : Int32)) y269 s323 t315))) else (px_bv (f_M_flush_28 K N (1 : Int32) s314 t315) (fun s325 t326 => (px_let (sR s325 35 ((s325.1 35) + (1 : Int32))) (fun s330 => (l_M_records_28_8 K N n u1 u2 u3 (m4 + (6 : Int32)) y269 s330 t326)))) (fun x329 s325 t326 => none))))) (fun x318 s314 t315 => none))) (fun x313 s309 t310 => none)))))) else none)) (fun z268 => some (.inr z268))))))))))))))))) else none)) (fun z173 => some (.inr z173)))) else (if ¬ (m4 + (u3 - m4)) = u3 then (px_lp (l_M_records_28_33 K N N u1 u2 u3 m4 m5 (u3 - m4) (0 : Int32) (4 : Int32) s t) (fun i333 vs334 s335 t336 => (if i333 = 43 then (px_v0 vs334 (px_gd (vp_in (0 : Int32) (K.2.2 43)) (px_let (sA s335 43 (0 : Int32).toNatClampNeg (s335.1 34)) (fun s341 => (px_gd (vp_in (1 : Int32) (K.2.2 43)) (px_let (sA s341 43 (1 : Int32).toNatClampNeg u1) (fun s344 => (if (0 : Int32) = 0 then (px_gd (vp_in (2 : Int32) (K.2.2 43)) (px_let (sA s344 43 (2 : Int32).toNatClampNeg (0 : Int32)) (fun s348 => (px_gd (vp_in (3 : Int32) (K.2.2 43)) (px_let (sA s348 43 (3 : Int32).toNatClampNeg (u3 - m4)) (fun s351 => (px_lp (l_M_records_28_70 K N N u1 u2 u3 m4 (u3 - m4) (0 : Int32) m5 (0 : Int32) s351 t336) (fun i353 vs354 s355 t356 => (if i353 = 105 then (px_v1 vs354 (fun y359 => (if (0 : Int32) = 0 then (px_bv (f_M_write_28_43 K N (1 : Int32) ((((25 : Int32) * (s355.1 33)) + (1 : Int32)) + (s355.1 35)) (0 : Int32) s355 t356) (fun s362 t363 => (if (0 : Int32) = 0 then (px_let (sR s362 35 ((s362.1 35) + (1 : Int32))) (fun s368 => (l_M_records_28_8 K N n u1 u2 u3 (m4 + (u3 - m4)) y359 s368 t363))) else (if u2 = 0 then (px_let (sR s362 35 ((s362.1 35) + (1 : Int32))) (fun s371 => (l_M_records_28_8 K N n u1 u2 u3 (m4 + (u3 - m4)) y359 s371 t363))) else (px_bv (f_M_flush_28 K N (1 : Int32) s362 t363) (fun s373 t374 => (px_let (sR s373 35 ((s373.1 35) + (1 : Int32))) (fun s378 => (l_M_records_28_8 K N n u1 u2 u3 (m4 + (u3 - m4)) y359 s378 t374)))) (fun x377 s373 t374 => none))))) (fun x366 s362 t363 => none)) else (if u2 = 0 then (px_bv (f_M_write_28_43 K N (1 : Int32) ((((25 : Int32) * (s355.1 33)) + (1 : Int32)) + (s355.1 35)) (0 : Int32) s355 t356) (fun s381 t382 => (if (0 : Int32) = 0 then (px_let (sR s381 35 ((s381.1 35) + (1 : Int32))) (fun s387 => (l_M_records_28_8 K N n u1 u2 u3 (m4 + (u3 - m4)) y359 s387 t382))) else (if u2 = 0 then (px_let (sR s381 35 ((s381.1 35) + (1 : Int32))) (fun s390 => (l_M_records_28_8 K N n u1 u2 u3 (m4 + (u3 - m4)) y359 s390 t382))) else (px_bv (f_M_flush_28 K N (1 : Int32) s381 t382) (fun s392 t393 => (px_let (sR s392 35 ((s392.1 35) + (1 : Int32))) (fun s397 => (l_M_records_28_8 K N n u1 u2 u3 (m4 + (u3 - m4)) y359 s397 t393)))) (fun x396 s392 t393 => none))))) (fun x385 s381 t382 => none)) else (px_bv (f_M_flush_28 K N (1 : Int32) s355 t356) (fun s399 t400 => (px_bv (f_M_write_28_43 K N (1 : Int32) ((((25 : Int32) * (s399.1 33)) + (1 : Int32)) + (s399.1 35)) (0 : Int32) s399 t400) (fun s404 t405 => (if (0 : Int32) = 0 then (px_let (sR s404 35 ((s404.1 35) + (1 : Int32))) (fun s410 => (l_M_records_28_8 K N n u1 u2 u3 (m4 + (u3 - m4)) y359 s410 t405))) else (if u2 = 0 then (px_let (sR s404 35 ((s404.1 35) + (1 : Int32))) (fun s413 => (l_M_records_28_8 K N n u1 u2 u3 (m4 + (u3 - m4)) y359 s413 t405))) else (px_bv (f_M_flush_28 K N (1 : Int32) s404 t405) (fun s415 t416 => (px_let (sR s415 35 ((s415.1 35) + (1 : Int32))) (fun s420 => (l_M_records_28_8 K N n u1 u2 u3 (m4 + (u3 - m4)) y359 s420 t416)))) (fun x419 s415 t416 => none))))) (fun x408 s404 t405 => none))) (fun x403 s399 t400 => none)))))) else none)) (fun z358 => some (.inr z358))))))))) else (px_gd (vp_in (2 : Int32) (K.2.2 43)) (px_let (sA s344 43 (2 : Int32).toNatClampNeg (1 : Int32)) (fun s423 => (px_gd (vp_in (3 : Int32) (K.2.2 43)) (px_let (sA s423 43 (3 : Int32).toNatClampNeg (u3 - m4)) (fun s426 => (px_lp (l_M_records_28_70 K N N u1 u2 u3 m4 (u3 - m4) (0 : Int32) m5 (0 : Int32) s426 t336) (fun i428 vs429 s430 t431 => (if i428 = 105 then (px_v1 vs429 (fun y434 => (if (0 : Int32) = 0 then (px_bv (f_M_write_28_43 K N (1 : Int32) ((((25 : Int32) * (s430.1 33)) + (1 : Int32)) + (s430.1 35)) (0 : Int32) s430 t431) (fun s437 t438 => (if (0 : Int32) = 0 then (px_let (sR s437 35 ((s437.1 35) + (1 : Int32))) (fun s443 => (l_M_records_28_8 K N n u1 u2 u3 (m4 + (u3 - m4)) y434 s443 t438))) else (if u2 = 0 then (px_let (sR s437 35 ((s437.1 35) + (1 : Int32))) (fun s446 => (l_M_records_28_8 K N n u1 u2 u3 (m4 + (u3 - m4)) y434 s446 t438))) else (px_bv (f_M_flush_28 K N (1 : Int32) s437 t438) (fun s448 t449 => (px_let (sR s448 35 ((s448.1 35) + (1 : Int32))) (fun s453 => (l_M_records_28_8 K N n u1 u2 u3 (m4 + (u3 - m4)) y434 s453 t449)))) (fun x452 s448 t449 => none))))) (fun x441 s437 t438 => none)) else (if u2 = 0 then (px_bv (f_M_write_28_43 K N (1 : Int32) ((((25 : Int32) * (s430.1 33)) + (1 : Int32)) + (s430.1 35)) (0 : Int32) s430 t431) (fun s456 t457 => (if (0 : Int32) = 0 then (px_let (sR s456 35 ((s456.1 35) + (1 : Int32))) (fun s462 => (l_M_records_28_8 K N n u1 u2 u3 (m4 + (u3 - m4)) y434 s462 t457))) else (if u2 = 0 then (px_let (sR s456 35 ((s456.1 35) + (1 : Int32))) (fun s465 => (l_M_records_28_8 K N n u1 u2 u3 (m4 + (u3 - m4)) y434 s465 t457))) else (px_bv (f_M_flush_28 K N (1 : Int32) s456 t457) (fun s467 t468 => (px_let (sR s467 35 ((s467.1 35) + (1 : Int32))) (fun s472 => (l_M_records_28_8 K N n u1 u2 u3 (m4 + (u3 - m4)) y434 s472 t468)))) (fun x471 s467 t468 => none))))) (fun x460 s456 t457 => none)) else (px_bv (f_M_flush_28 K N (1 : Int32) s430 t431) (fun s474 t475 => (px_bv (f_M_write_28_43 K N (1 : Int32) ((((25 : Int32) * (s474.1 33)) + (1 : Int32)) + (s474.1 35)) (0 : Int32) s474 t475) (fun s479 t480 => (if (0 : Int32) = 0 then (px_let (sR s479 35 ((s479.1 35) + (1 : Int32))) (fun s485 => (l_M_records_28_8 K N n u1 u2 u3 (m4 + (u3 - m4)) y434 s485 t480))) else (if u2 = 0 then (px_let (sR s479 35 ((s479.1 35) + (1 : Int32))) (fun s488 => (l_M_records_28_8 K N n u1 u2 u3 (m4 + (u3 - m4)) y434 s488 t480))) else (px_bv (f_M_flush_28 K N (1 : Int32) s479 t480) (fun s490 t491 => (px_let (sR s490 35 ((s490.1 35) + (1 : Int32))) (fun s495 => (l_M_records_28_8 K N n u1 u2 u3 (m4 + (u3 - m4)) y434 s495 t491)))) (fun x494 s490 t491 => none))))) (fun x483 s479 t480 => none))) (fun x478 s474 t475 => none)))))) else none)) (fun z433 => some (.inr z433))))))))))))))))) else none)) (fun z338 => some (.inr z338))) else (px_lp (l_M_records_28_33 K N N u1 u2 u3 m4 m5 (u3 - m4) (1 : Int32) (4 : Int32) s t) (fun i497 vs498 s499 t500 => (if i497 = 43 then (px_v0 vs498 (px_gd (vp_in (0 : Int32) (K.2.2 43)) (px_let (sA s499 43 (0 : Int32).toNatClampNeg (s499.1 34)) (fun s505 => (px_gd (vp_in (1 : Int32) (K.2.2 43)) (px_let (sA s505 43 (1 : Int32).toNatClampNeg u1) (fun s508 => (if (1 : Int32) = 0 then (px_gd (vp_in (2 : Int32) (K.2.2 43)) (px_let (sA s508 43 (2 : Int32).toNatClampNeg (0 : Int32)) (fun s512 => (px_gd (vp_in (3 : Int32) (K.2.2 43)) (px_let (sA s512 43 (3 : Int32).toNatClampNeg (u3 - m4)) (fun s515 => (px_lp (l_M_records_28_70 K N N u1 u2 u3 m4 (u3 - m4) (1 : Int32) m5 (0 : Int32) s515 t500) (fun i517 vs518 s519 t520 => (if i517 = 105 then (px_v1 vs518 (fun y523 => (if (1 : Int32) = 0 then (px_bv (f_M_write_28_43 K N (1 : Int32) ((((25 : Int32) * (s519.1 33)) + (1 : Int32)) + (s519.1 35)) (0 : Int32) s519 t520) (fun s526 t527 => (if (1 : Int32) = 0 then (px_let (sR s526 35 ((s526.1 35) + (1 : Int32))) (fun s532 => (l_M_records_28_8 K N n u1 u2 u3 (m4 + (u3 - m4)) y523 s532 t527))) else (if u2 = 0 then (px_let (sR s526 35 ((s526.1 35) + (1 : Int32))) (fun s535 => (l_M_records_28_8 K N n u1 u2 u3 (m4 + (u3 - m4)) y523 s535 t527))) else (px_bv (f_M_flush_28 K N (1 : Int32) s526 t527) (fun s537 t538 => (px_let (sR s537 35 ((s537.1 35) + (1 : Int32))) (fun s542 => (l_M_records_28_8 K N n u1 u2 u3 (m4 + (u3 - m4)) y523 s542 t538)))) (fun x541 s537 t538 => none))))) (fun x530 s526 t527 => none)) else (if u2 = 0 then (px_bv (f_M_write_28_43 K N (1 : Int32) ((((25 : Int32) * (s519.1 33)) + (1 : Int32)) + (s519.1 35)) (0 : Int32) s519 t520) (fun s545 t546 => (if (1 : Int32) = 0 then (px_let (sR s545 35 ((s545.1 35) + (1 : Int32))) (fun s551 => (l_M_records_28_8 K N n u1 u2 u3 (m4 + (u3 - m4)) y523 s551 t546))) else (if u2 = 0 then (px_let (sR s545 35 ((s545.1 35) + (1 : Int32))) (fun s554 => (l_M_records_28_8 K N n u1 u2 u3 (m4 + (u3 - m4)) y523 s554 t546))) else (px_bv (f_M_flush_28 K N (1 : Int32) s545 t546) (fun s556 t557 => (px_let (sR s556 35 ((s556.1 35) + (1 : Int32))) (fun s561 => (l_M_records_28_8 K N n u1 u2 u3 (m4 + (u3 - m4)) y523 s561 t557)))) (fun x560 s556 t557 => none))))) (fun x549 s545 t546 => none)) else (px_bv (f_M_flush_28 K N (1 : Int32) s519 t520) (fun s563 t564 => (px_bv (f_M_write_28_43 K N (1 : Int32) ((((25 : Int32) * (s563.1 33)) + (1 : Int32)) + (s563.1 35)) (0 : Int32) s563 t564) (fun s568 t569 => (if (1 : Int32) = 0 then (px_let (sR s568 35 ((s568.1 35) + (1 : Int32))) (fun s574 => (l_M_records_28_8 K N n u1 u2 u3 (m4 + (u3 - m4)) y523 s574 t569))) else (if u2 = 0 then (px_let (sR s568 35 ((s568.1 35) + (1 : Int32))) (fun s577 => (l_M_records_28_8 K N n u1 u2 u3 (m4 + (u3 - m4)) y523 s577 t569))) else (px_bv (f_M_flush_28 K N (1 : Int32) s568 t569) (fun s579 t580 => (px_let (sR s579 35 ((s579.1 35) + (1 : Int32))) (fun s584 => (l_M_records_28_8 K N n u1 u2 u3 (m4 + (u3 - m4)) y523 s584 t580)))) (fun x583 s579 t580 => none))))) (fun x572 s568 t569 => none))) (fun x567 s563 t564 => none)))))) else none)) (fun z522 => some (.inr z522))))))))) else (px_gd (vp_in (2 : Int32) (K.2.2 43)) (px_let (sA s508 43 (2 : Int32).toNatClampNeg (1 : Int32)) (fun s587 => (px_gd (vp_in (3 : Int32) (K.2.2 43)) (px_let (sA s587 43 (3 : Int32).toNatClampNeg (u3 - m4)) (fun s590 => (px_lp (l_M_records_28_70 K N N u1 u2 u3 m4 (u3 - m4) (1 : Int32) m5 (0 : Int32) s590 t500) (fun i592 vs593 s594 t595 => (if i592 = 105 then (px_v1 vs593 (fun y598 => (if (1 : Int32) = 0 then (px_bv (f_M_write_28_43 K N (1 : Int32) ((((25 : Int32) * (s594.1 33)) + (1 : Int32)) + (s594.1 35)) (0 : Int32) s594 t595) (fun s601 t602 => (if (1 : Int32) = 0 then (px_let (sR s601 35 ((s601.1 35) + (1 : Int32))) (fun s607 => (l_M_records_28_8 K N n u1 u2 u3 (m4 + (u3 - m4)) y598 s607 t602))) else (if u2 = 0 then (px_let (sR s601 35 ((s601.1 35) + (1 : Int32))) (fun s610 => (l_M_records_28_8 K N n u1 u2 u3 (m4 + (u3 - m4)) y598 s610 t602))) else (px_bv (f_M_flush_28 K N (1 : Int32) s601 t602) (fun s612 t613 => (px_let (sR s612 35 ((s612.1 35) + (1 : Int32))) (fun s617 => (l_M_records_28_8 K N n u1 u2 u3 (m4 + (u3 - m4)) y598 s617 t613)))) (fun x616 s612 t613 => none))))) (fun x605 s601 t602 => none)) else (if u2 = 0 then (px_bv (f_M_write_28_43 K N (1 : Int32) ((((25 : Int32) * (s594.1 33)) + (1 : Int32)) + (s594.1 35)) (0 : Int32) s594 t595) (fun s620 t621 => (if (1 : Int32) = 0 then (px_let (sR s620 35 ((s620.1 35) + (1 : Int32))) (fun s626 => (l_M_records_28_8 K N n u1 u2 u3 (m4 + (u3 - m4)) y598 s626 t621))) else (if u2 = 0 then (px_let (sR s620 35 ((s620.1 35) + (1 : Int32))) (fun s629 => (l_M_records_28_8 K N n u1 u2 u3 (m4 + (u3 - m4)) y598 s629 t621))) else (px_bv (f_M_flush_28 K N (1 : Int32) s620 t621) (fun s631 t632 => (px_let (sR s631 35 ((s631.1 35) + (1 : Int32))) (fun s636 => (l_M_records_28_8 K N n u1 u2 u3 (m4 + (u3 - m4)) y598 s636 t632)))) (fun x635 s631 t632 => none))))) (fun x624 s620 t621 => none)) else (px_bv (f_M_flush_28 K N (1 : Int32) s594 t595) (fun s638 t639 => (px_bv (f_M_write_28_43 K N (1 : Int32) ((((25 : Int32) * (s638.1 33)) + (1 : Int32)) + (s638.1 35)) (0 : Int32) s638 t639) (fun s643 t644 => (if (1 : Int32) = 0 then (px_let (sR s643 35 ((s643.1 35) + (1 : Int32))) (fun s649 => (l_M_records_28_8 K N n u1 u2 u3 (m4 + (u3 - m4)) y598 s649 t644))) else (if u2 = 0 then (px_let (sR s643 35 ((s643.1 35) + (1 : Int32))) (fun s652 => (l_M_records_28_8 K N n u1 u2 u3 (m4 + (u3 - m4)) y598 s652 t644))) else (px_bv (f_M_flush_28 K N (1 : Int32) s643 t644) (fun s654 t655 => (px_let (sR s654 35 ((s654.1 35) + (1 : Int32))) (fun s659 => (l_M_records_28_8 K N n u1 u2 u3 (m4 + (u3 - m4)) y598 s659 t655)))) (fun x658 s654 t655 => none))))) (fun x647 s643 t644 => none))) (fun x642 s638 t639 => none)))))) else none)) (fun z597 => some (.inr z597))))))))))))))))) else none)) (fun z502 => some (.inr z502))))))
def a_l_M_records_28_8 (K : px_K) (u1 : Int32) (u2 : Int32) (u3 : Int32) (z : px_LO) (o : Option Value ⊕ Nat) (w2 : px_W) : Prop := match z with
  | .inr (o', s', t') => o = o' ∧ w2 = px_w K s' t'
  | .inl (145, [], s', t') => px_E px_ET px_P 6 44 145 [none, none, none, none, none, none, none, none, none] [] (px_w K s' t') o w2
  | _ => False
set_option maxRecDepth 100000 in
theorem e_l_M_records_28_33 (K : px_K) (N : Nat) (u1 : Int32) (u2 : Int32) (u3 : Int32) (u4 : Int32) (u5 : Int32) (u6 : Int32) (u7 : Int32) : ∀ (n : Nat) (m8 : Int32) (s : px_S) (t : px_W) (z : px_LO), l_M_records_28_33 K N n u1 u2 u3 u4 u5 u6 u7 m8 s t = some z → ∀ (o : Option Value ⊕ Nat) (w2 : px_W), a_l_M_records_28_33 K u1 u2 u3 u4 u5 u6 u7 z o w2 → px_E px_ET px_P 6 44 33 [some (.ref 28), some (.int u1), some (.int u2), some (.int u3), some (.int u4), some (.int u5), some (.int u6), some (.int u7), some (.int m8)] [] (px_w K s t) o w2 := by
  have hM : px_P[44]? = some pm_M_records := rfl
  intro n
  induction n with
  | zero => intro m8 s t z h; cases h
  | succ n ih =>
    intro m8 s t z h o w2 ha
    unfold l_M_records_28_33 at h
    refine px_blkif (c := (16 : Int32) ≤ m8) (t := 43) (e := 36) (L' := [some (.ref 28), some (.int u1), some (.int u2), some (.int u3), some (.int u4), some (.int u5), some (.int u6), some (.int u7), some (.int m8)]) (S' := []) (w' := px_w K s t) (q := []) 3 hM rfl trivial (fun hc1 => ?_) (fun hc1 => ?_)
    · rw [if_pos hc1] at h
      cases h
      exact px_E_le (px_leC_L _ _ (by simp [px_leC, px_le1, Value.category])) ha
    · rw [if_neg hc1] at h
      obtain ⟨hq2, h⟩ := px_gd_some h
      refine px_blk (i' := 41) (L' := [some (.ref 28), some (.int u1), some (.int u2), some (.int u3), some (.int u4), some (.int u5), some (.int u6), some (.int u7), some (.int m8)]) (S' := []) (w' := px_w K (sA s 43 m8.toNatClampNeg (0 : Int32)) t) (q := [vp_in m8 (K.2.2 43)]) 5 hM rfl (show vp_in m8 (K.2.2 43) from hq2) ?_
      obtain ⟨s3, hs4, h⟩ := px_let_some h
      rw [← hs4]
      refine px_blk (i' := 33) (L' := [some (.ref 28), some (.int u1), some (.int u2), some (.int u3), some (.int u4), some (.int u5), some (.int u6), some (.int u7), some (.int (m8 + (1 : Int32)))]) (S' := []) (w' := px_w K s3 t) (q := []) 2 hM rfl trivial ?_
      exact ih (m8 + (1 : Int32)) s3 t z h o w2 ha
set_option maxRecDepth 100000 in
theorem e_l_M_records_28_73 (K : px_K) (N : Nat) (u1 : Int32) (u2 : Int32) (u3 : Int32) (u4 : Int32) (u6 : Int32) (u7 : Int32) (u8 : Int32) : ∀ (n : Nat) (m5 : Int32) (s : px_S) (t : px_W) (z : px_LO), l_M_records_28_73 K N n u1 u2 u3 u4 u6 u7 u8 m5 s t = some z → ∀ (o : Option Value ⊕ Nat) (w2 : px_W), a_l_M_records_28_73 K u1 u2 u3 u4 u6 u7 u8 z o w2 → px_E px_ET px_P 6 44 73 [some (.ref 28), some (.int u1), some (.int u2), some (.int u3), some (.int u4), some (.int m5), some (.int u6), some (.int u7), some (.int u8)] [] (px_w K s t) o w2 := by
  have hM : px_P[44]? = some pm_M_records := rfl
  intro n
  induction n with
  | zero => intro m5 s t z h; cases h
  | succ n ih =>
    intro m5 s t z h o w2 ha
    unfold l_M_records_28_73 at h
    obtain ⟨hq1, h⟩ := px_gd_some h
    refine px_blkif (c := ((s.2.2.1 36) m5.toNatClampNeg) = u1) (t := 81) (e := 79) (L' := [some (.ref 28), some (.int u1), some (.int u2), some (.int u3), some (.int u4), some (.int m5), some (.int u6), some (.int u7), some (.int u8)]) (S' := []) (w' := px_w K s t) (q := [vp_in m5 (K.2.2 36)]) 6 hM rfl (show vp_in m5 (K.2.2 36) from hq1) (fun hc2 => ?_) (fun hc2 => ?_)
    · rw [if_pos hc2] at h
      cases h
      exact px_E_le (px_leC_L _ _ (by simp [px_leC, px_le1, Value.category])) ha
    · rw [if_neg hc2] at h
      refine px_blk (i' := 73) (L' := [some (.ref 28), some (.int u1), some (.int u2), some (.int u3), some (.int u4), some (.int (m5 + (1 : Int32))), some (.int u6), some (.int u7), some (.int u8)]) (S' := []) (w' := px_w K s t) (q := []) 2 hM rfl trivial ?_
      exact ih (m5 + (1 : Int32)) s t z h o w2 ha
set_option maxRecDepth 100000 in
theorem e_l_M_records_28_70 (K : px_K) (N : Nat) (u1 : Int32) (u2 : Int32) (u3 : Int32) (u4 : Int32) (u6 : Int32) (u7 : Int32) : ∀ (n : Nat) (m5 : Int32) (m8 : Int32) (s : px_S) (t : px_W) (z : px_LO), l_M_records_28_70 K N n u1 u2 u3 u4 u6 u7 m5 m8 s t = some z → ∀ (o : Option Value ⊕ Nat) (w2 : px_W), a_l_M_records_28_70 K u1 u2 u3 u4 u6 u7 z o w2 → px_E px_ET px_P 6 44 70 [some (.ref 28), some (.int u1), some (.int u2), some (.int u3), some (.int u4), some (.int m5), some (.int u6), some (.int u7), some (.int m8)] [] (px_w K s t) o w2 := by
  have hM : px_P[44]? = some pm_M_records := rfl
  intro n
  induction n with
  | zero => intro m5 m8 s t z h; cases h
  | succ n ih =>
    intro m5 m8 s t z h o w2 ha
    unfold l_M_records_28_70 at h
    refine px_blkif (c := u6 ≤ m8) (t := 105) (e := 73) (L' := [some (.ref 28), some (.int u1), some (.int u2), some (.int u3), some (.int u4), some (.int m5), some (.int u6), some (.int u7), some (.int m8)]) (S' := []) (w' := px_w K s t) (q := []) 3 hM rfl trivial (fun hc1 => ?_) (fun hc1 => ?_)
    · rw [if_pos hc1] at h
      cases h
      exact px_E_le (px_leC_L _ _ (by simp [px_leC, px_le1, Value.category])) ha
    · rw [if_neg hc1] at h
      rcases px_lp_some h with ⟨i2, vs3, s4, t5, hl6, h⟩ | ⟨z7, hl6, h⟩
      · by_cases hi9 : i2 = 81
        · subst hi9
          rw [if_pos rfl] at h
          have h9 := px_v1_some h
          clear h
          obtain ⟨y8, rfl, h⟩ := h9
          refine e_l_M_records_28_73 K N u1 u2 u3 u4 u6 u7 m8 N m5 s t _ hl6 _ _ ?_
          show px_E px_ET px_P 6 44 81 [some (.ref 28), some (.int u1), some (.int u2), some (.int u3), some (.int u4), some (.int y8), some (.int u6), some (.int u7), some (.int m8)] [] (px_w K s4 t5) _ _
          obtain ⟨hq10, h⟩ := px_gd_some h
          refine px_blk (i' := 90) (L' := [some (.ref 28), some (.int u1), some (.int u2), some (.int u3), some (.int u4), some (.int y8), some (.int u6), some (.int u7), some (.int m8)]) (S' := []) (w' := px_w K (sA s4 43 ((4 : Int32) + ((2 : Int32) * m8)).toNatClampNeg y8) t5) (q := [vp_in ((4 : Int32) + ((2 : Int32) * m8)) (K.2.2 43)]) 9 hM rfl (show vp_in ((4 : Int32) + ((2 : Int32) * m8)) (K.2.2 43) from hq10) ?_
          obtain ⟨s11, hs12, h⟩ := px_let_some h
          rw [← hs12]
          obtain ⟨⟨hq13, hq14⟩, h⟩ := px_gd_some h
          refine px_blk (i' := 102) (L' := [some (.ref 28), some (.int u1), some (.int u2), some (.int u3), some (.int u4), some (.int y8), some (.int u6), some (.int u7), some (.int m8)]) (S' := []) (w' := px_w K (sA s11 43 ((5 : Int32) + ((2 : Int32) * m8)).toNatClampNeg ((s11.2.2.1 35) y8.toNatClampNeg)) t5) (q := [vp_in y8 (K.2.2 35), vp_in ((5 : Int32) + ((2 : Int32) * m8)) (K.2.2 43)]) 12 hM rfl (show (vp_in y8 (K.2.2 35)) ∧ (vp_in ((5 : Int32) + ((2 : Int32) * m8)) (K.2.2 43)) from ⟨hq13, hq14⟩) ?_
          obtain ⟨s15, hs16, h⟩ := px_let_some h
          rw [← hs16]
          refine px_blk (i' := 70) (L' := [some (.ref 28), some (.int u1), some (.int u2), some (.int u3), some (.int u4), some (.int (y8 + (1 : Int32))), some (.int u6), some (.int u7), some (.int (m8 + (1 : Int32)))]) (S' := []) (w' := px_w K s15 t5) (q := []) 3 hM rfl trivial ?_
          exact ih (y8 + (1 : Int32)) (m8 + (1 : Int32)) s15 t5 z h o w2 ha
        · rw [if_neg hi9] at h
          cases h
      · cases h
        obtain ⟨rfl, rfl⟩ := ha
        exact e_l_M_records_28_73 K N u1 u2 u3 u4 u6 u7 m8 N m5 s t _ hl6 _ _ ⟨rfl, rfl⟩
set_option maxRecDepth 100000 in
theorem e_l_M_records_28_8 (K : px_K) (N : Nat) (u1 : Int32) (u2 : Int32) (u3 : Int32) : ∀ (n : Nat) (m4 : Int32) (m5 : Int32) (s : px_S) (t : px_W) (z : px_LO), l_M_records_28_8 K N n u1 u2 u3 m4 m5 s t = some z → ∀ (o : Option Value ⊕ Nat) (w2 : px_W), a_l_M_records_28_8 K u1 u2 u3 z o w2 → px_E px_ET px_P 6 44 8 [some (.ref 28), some (.int u1), some (.int u2), some (.int u3), some (.int m4), some (.int m5), none, none, none] [] (px_w K s t) o w2 := by
  have hM : px_P[44]? = some pm_M_records := rfl
  intro n
  induction n with
  | zero => intro m4 m5 s t z h; cases h
  | succ n ih =>
    intro m4 m5 s t z h o w2 ha
    unfold l_M_records_28_8 at h
    refine px_blkif (c := u3 ≤ m4) (t := 145) (e := 11) (L' := [some (.ref 28), some (.int u1), some (.int u2), some (.int u3), some (.int m4), some (.int m5), none, none, none]) (S' := []) (w' := px_w K s t) (q := []) 3 hM rfl trivial (fun hc1 => ?_) (fun hc1 => ?_)
    · rw [if_pos hc1] at h
      cases h
      exact px_E_le (px_leC_L _ _ (by simp [px_leC, px_le1, Value.category])) ha
    · rw [if_neg hc1] at h
      refine px_blkif (c := (6 : Int32) ≤ (u3 - m4)) (t := 20) (e := 16) (L' := [some (.ref 28), some (.int u1), some (.int u2), some (.int u3), some (.int m4), some (.int m5), none, none, none]) (S' := []) (w' := px_w K s t) (q := []) 5 hM rfl trivial (fun hc2 => ?_) (fun hc2 => ?_)
      · rw [if_pos hc2] at h
        refine px_blkif (c := ¬ (m4 + (6 : Int32)) = u3) (t := 29) (e := 27) (L' := [some (.ref 28), some (.int u1), some (.int u2), some (.int u3), some (.int m4), some (.int m5), some (.int (6 : Int32)), none, none]) (S' := []) (w' := px_w K s t) (q := []) 7 hM rfl trivial (fun hc3 => ?_) (fun hc3 => ?_)
        · rw [if_pos hc3] at h
          refine px_blk (i' := 33) (L' := [some (.ref 28), some (.int u1), some (.int u2), some (.int u3), some (.int m4), some (.int m5), some (.int (6 : Int32)), some (.int (0 : Int32)), some (.int (4 : Int32))]) (S' := []) (w' := px_w K s t) (q := []) 4 hM rfl trivial ?_
          rcases px_lp_some h with ⟨i4, vs5, s6, t7, hl8, h⟩ | ⟨z9, hl8, h⟩
          · by_cases hi10 : i4 = 43
            · subst hi10
              rw [if_pos rfl] at h
              have h9 := px_v0_some h
              clear h
              obtain ⟨rfl, h⟩ := h9
              refine e_l_M_records_28_33 K N u1 u2 u3 m4 m5 (6 : Int32) (0 : Int32) N (4 : Int32) s t _ hl8 _ _ ?_
              show px_E px_ET px_P 6 44 43 [some (.ref 28), some (.int u1), some (.int u2), some (.int u3), some (.int m4), some (.int m5), some (.int (6 : Int32)), some (.int (0 : Int32)), none] [] (px_w K s6 t7) _ _
              obtain ⟨hq11, h⟩ := px_gd_some h
              refine px_blk (i' := 49) (L' := [some (.ref 28), some (.int u1), some (.int u2), some (.int u3), some (.int m4), some (.int m5), some (.int (6 : Int32)), some (.int (0 : Int32)), none]) (S' := []) (w' := px_w K (sA s6 43 (0 : Int32).toNatClampNeg (s6.1 34)) t7) (q := [vp_in (0 : Int32) (K.2.2 43)]) 6 hM rfl (show vp_in (0 : Int32) (K.2.2 43) from hq11) ?_
              obtain ⟨s12, hs13, h⟩ := px_let_some h
              rw [← hs13]
              obtain ⟨hq14, h⟩ := px_gd_some h
              refine px_blk (i' := 54) (L' := [some (.ref 28), some (.int u1), some (.int u2), some (.int u3), some (.int m4), some (.int m5), some (.int (6 : Int32)), some (.int (0 : Int32)), none]) (S' := []) (w' := px_w K (sA s12 43 (1 : Int32).toNatClampNeg u1) t7) (q := [vp_in (1 : Int32) (K.2.2 43)]) 5 hM rfl (show vp_in (1 : Int32) (K.2.2 43) from hq14) ?_
              obtain ⟨s15, hs16, h⟩ := px_let_some h
              rw [← hs16]
              refine px_blkif (c := (0 : Int32) = 0) (t := 61) (e := 59) (L' := [some (.ref 28), some (.int u1), some (.int u2), some (.int u3), some (.int m4), some (.int m5), some (.int (6 : Int32)), some (.int (0 : Int32)), none]) (S' := [.int (2 : Int32), .ref 43]) (w' := px_w K s15 t7) (q := []) 5 hM rfl trivial (fun hc17 => ?_) (fun hc17 => ?_)
              · rw [if_pos hc17] at h
                obtain ⟨hq18, h⟩ := px_gd_some h
                refine px_blk (i' := 63) (L' := [some (.ref 28), some (.int u1), some (.int u2), some (.int u3), some (.int m4), some (.int m5), some (.int (6 : Int32)), some (.int (0 : Int32)), none]) (S' := []) (w' := px_w K (sA s15 43 (2 : Int32).toNatClampNeg (0 : Int32)) t7) (q := [vp_in (2 : Int32) (K.2.2 43)]) 2 hM rfl (show vp_in (2 : Int32) (K.2.2 43) from hq18) ?_
                obtain ⟨s19, hs20, h⟩ := px_let_some h
                rw [← hs20]
                obtain ⟨hq21, h⟩ := px_gd_some h
                refine px_blk (i' := 68) (L' := [some (.ref 28), some (.int u1), some (.int u2), some (.int u3), some (.int m4), some (.int m5), some (.int (6 : Int32)), some (.int (0 : Int32)), none]) (S' := []) (w' := px_w K (sA s19 43 (3 : Int32).toNatClampNeg (6 : Int32)) t7) (q := [vp_in (3 : Int32) (K.2.2 43)]) 5 hM rfl (show vp_in (3 : Int32) (K.2.2 43) from hq21) ?_
                obtain ⟨s22, hs23, h⟩ := px_let_some h
                rw [← hs23]
                refine px_blk (i' := 70) (L' := [some (.ref 28), some (.int u1), some (.int u2), some (.int u3), some (.int m4), some (.int m5), some (.int (6 : Int32)), some (.int (0 : Int32)), some (.int (0 : Int32))]) (S' := []) (w' := px_w K s22 t7) (q := []) 2 hM rfl trivial ?_
                rcases px_lp_some h with ⟨i24, vs25, s26, t27, hl28, h⟩ | ⟨z29, hl28, h⟩
                · by_cases hi31 : i24 = 105
                  · subst hi31
                    rw [if_pos rfl] at h
                    have h9 := px_v1_some h
                    clear h
                    obtain ⟨y30, rfl, h⟩ := h9
                    refine e_l_M_records_28_70 K N u1 u2 u3 m4 (6 : Int32) (0 : Int32) N m5 (0 : Int32) s22 t7 _ hl28 _ _ ?_
                    show px_E px_ET px_P 6 44 105 [some (.ref 28), some (.int u1), some (.int u2), some (.int u3), some (.int m4), some (.int y30), some (.int (6 : Int32)), some (.int (0 : Int32)), none] [] (px_w K s26 t27) _ _
                    refine px_blkif (c := (0 : Int32) = 0) (t := 112) (e := 107) (L' := [some (.ref 28), some (.int u1), some (.int u2), some (.int u3), some (.int m4), some (.int y30), some (.int (6 : Int32)), some (.int (0 : Int32)), none]) (S' := []) (w' := px_w K s26 t27) (q := []) 2 hM rfl trivial (fun hc32 => ?_) (fun hc32 => ?_)
                    · rw [if_pos hc32] at h
                      refine px_blk (i' := 124) (L' := [some (.ref 28), some (.int u1), some (.int u2), some (.int u3), some (.int m4), some (.int y30), some (.int (6 : Int32)), some (.int (0 : Int32)), none]) (S' := [.ref 28, .int ((((25 : Int32) * (s26.1 33)) + (1 : Int32)) + (s26.1 35)), .int (1 : Int32), .ref 28]) (w' := px_w K s26 t27) (q := []) 12 hM rfl trivial ?_
                      refine px_blk (i' := 126) (L' := [some (.ref 28), some (.int u1), some (.int u2), some (.int u3), some (.int m4), some (.int y30), some (.int (6 : Int32)), some (.int (0 : Int32)), none]) (S' := [.int (0 : Int32), .ref 43, .int ((((25 : Int32) * (s26.1 33)) + (1 : Int32)) + (s26.1 35)), .int (1 : Int32), .ref 28]) (w' := px_w K s26 t27) (q := []) 2 hM rfl trivial ?_
                      rcases px_bv_some h with ⟨s33, t34, hk35, h⟩ | ⟨x37, s33, t34, hk35, h⟩
                      · refine px_E_call hM rfl rfl rfl rfl (px_E_mono (by decide) (e_M_write_28_43 K N (1 : Int32) ((((25 : Int32) * (s26.1 33)) + (1 : Int32)) + (s26.1 35)) (0 : Int32) s26 t27 _ hk35)) ?_
                        refine px_blkif (c := (0 : Int32) = 0) (t := 134) (e := 129) (L' := [some (.ref 28), some (.int u1), some (.int u2), some (.int u3), some (.int m4), some (.int y30), some (.int (6 : Int32)), some (.int (0 : Int32)), none]) (S' := []) (w' := px_w K s33 t34) (q := []) 2 hM rfl trivial (fun hc38 => ?_) (fun hc38 => ?_)
                        · rw [if_pos hc38] at h
                          refine px_blk (i' := 140) (L' := [some (.ref 28), some (.int u1), some (.int u2), some (.int u3), some (.int m4), some (.int y30), some (.int (6 : Int32)), some (.int (0 : Int32)), none]) (S' := []) (w' := px_w K (sR s33 35 ((s33.1 35) + (1 : Int32))) t34) (q := []) 6 hM rfl trivial ?_
                          obtain ⟨s39, hs40, h⟩ := px_let_some h
                          rw [← hs40]
                          refine px_blk (i' := 8) (L' := [some (.ref 28), some (.int u1), some (.int u2), some (.int u3), some (.int (m4 + (6 : Int32))), some (.int y30), some (.int (6 : Int32)), some (.int (0 : Int32)), none]) (S' := []) (w' := px_w K s39 t34) (q := []) 5 hM rfl trivial ?_
                          exact px_E_le (px_leC_L _ _ (by simp [px_leC, px_le1, Value.category])) (ih (m4 + (6 : Int32)) y30 s39 t34 z h o w2 ha)
                        · rw [if_neg hc38] at h
                          refine px_blkif (c := u2 = 0) (t := 134) (e := 131) (L' := [some (.ref 28), some (.int u1), some (.int u2), some (.int u3), some (.int m4), some (.int y30), some (.int (6 : Int32)), some (.int (0 : Int32)), none]) (S' := []) (w' := px_w K s33 t34) (q := []) 2 hM rfl trivial (fun hc41 => ?_) (fun hc41 => ?_)
                          · rw [if_pos hc41] at h
                            refine px_blk (i' := 140) (L' := [some (.ref 28), some (.int u1), some (.int u2), some (.int u3), some (.int m4), some (.int y30), some (.int (6 : Int32)), some (.int (0 : Int32)), none]) (S' := []) (w' := px_w K (sR s33 35 ((s33.1 35) + (1 : Int32))) t34) (q := []) 6 hM rfl trivial ?_
                            obtain ⟨s42, hs43, h⟩ := px_let_some h
                            rw [← hs43]
                            refine px_blk (i' := 8) (L' := [some (.ref 28), some (.int u1), some (.int u2), some (.int u3), some (.int (m4 + (6 : Int32))), some (.int y30), some (.int (6 : Int32)), some (.int (0 : Int32)), none]) (S' := []) (w' := px_w K s42 t34) (q := []) 5 hM rfl trivial ?_
                            exact px_E_le (px_leC_L _ _ (by simp [px_leC, px_le1, Value.category])) (ih (m4 + (6 : Int32)) y30 s42 t34 z h o w2 ha)
                          · rw [if_neg hc41] at h
                            refine px_blk (i' := 133) (L' := [some (.ref 28), some (.int u1), some (.int u2), some (.int u3), some (.int m4), some (.int y30), some (.int (6 : Int32)), some (.int (0 : Int32)), none]) (S' := [.int (1 : Int32), .ref 28]) (w' := px_w K s33 t34) (q := []) 2 hM rfl trivial ?_
                            rcases px_bv_some h with ⟨s44, t45, hk46, h⟩ | ⟨x48, s44, t45, hk46, h⟩
                            · refine px_E_call hM rfl rfl rfl rfl (px_E_mono (by decide) (e_M_flush_28 K N (1 : Int32) s33 t34 _ hk46)) ?_
                              refine px_blk (i' := 140) (L' := [some (.ref 28), some (.int u1), some (.int u2), some (.int u3), some (.int m4), some (.int y30), some (.int (6 : Int32)), some (.int (0 : Int32)), none]) (S' := []) (w' := px_w K (sR s44 35 ((s44.1 35) + (1 : Int32))) t45) (q := []) 6 hM rfl trivial ?_
                              obtain ⟨s49, hs50, h⟩ := px_let_some h
                              rw [← hs50]
                              refine px_blk (i' := 8) (L' := [some (.ref 28), some (.int u1), some (.int u2), some (.int u3), some (.int (m4 + (6 : Int32))), some (.int y30), some (.int (6 : Int32)), some (.int (0 : Int32)), none]) (S' := []) (w' := px_w K s49 t45) (q := []) 5 hM rfl trivial ?_
                              exact px_E_le (px_leC_L _ _ (by simp [px_leC, px_le1, Value.category])) (ih (m4 + (6 : Int32)) y30 s49 t45 z h o w2 ha)
                            · cases h
                      · cases h
                    · rw [if_neg hc32] at h
                      refine px_blkif (c := u2 = 0) (t := 112) (e := 109) (L' := [some (.ref 28), some (.int u1), some (.int u2), some (.int u3), some (.int m4), some (.int y30), some (.int (6 : Int32)), some (.int (0 : Int32)), none]) (S' := []) (w' := px_w K s26 t27) (q := []) 2 hM rfl trivial (fun hc51 => ?_) (fun hc51 => ?_)
                      · rw [if_pos hc51] at h
                        refine px_blk (i' := 124) (L' := [some (.ref 28), some (.int u1), some (.int u2), some (.int u3), some (.int m4), some (.int y30), some (.int (6 : Int32)), some (.int (0 : Int32)), none]) (S' := [.ref 28, .int ((((25 : Int32) * (s26.1 33)) + (1 : Int32)) + (s26.1 35)), .int (1 : Int32), .ref 28]) (w' := px_w K s26 t27) (q := []) 12 hM rfl trivial ?_
                        refine px_blk (i' := 126) (L' := [some (.ref 28), some (.int u1), some (.int u2), some (.int u3), some (.int m4), some (.int y30), some (.int (6 : Int32)), some (.int (0 : Int32)), none]) (S' := [.int (0 : Int32), .ref 43, .int ((((25 : Int32) * (s26.1 33)) + (1 : Int32)) + (s26.1 35)), .int (1 : Int32), .ref 28]) (w' := px_w K s26 t27) (q := []) 2 hM rfl trivial ?_
                        rcases px_bv_some h with ⟨s52, t53, hk54, h⟩ | ⟨x56, s52, t53, hk54, h⟩
                        · refine px_E_call hM rfl rfl rfl rfl (px_E_mono (by decide) (e_M_write_28_43 K N (1 : Int32) ((((25 : Int32) * (s26.1 33)) + (1 : Int32)) + (s26.1 35)) (0 : Int32) s26 t27 _ hk54)) ?_
                          refine px_blkif (c := (0 : Int32) = 0) (t := 134) (e := 129) (L' := [some (.ref 28), some (.int u1), some (.int u2), some (.int u3), some (.int m4), some (.int y30), some (.int (6 : Int32)), some (.int (0 : Int32)), none]) (S' := []) (w' := px_w K s52 t53) (q := []) 2 hM rfl trivial (fun hc57 => ?_) (fun hc57 => ?_)
                          · rw [if_pos hc57] at h
                            refine px_blk (i' := 140) (L' := [some (.ref 28), some (.int u1), some (.int u2), some (.int u3), some (.int m4), some (.int y30), some (.int (6 : Int32)), some (.int (0 : Int32)), none]) (S' := []) (w' := px_w K (sR s52 35 ((s52.1 35) + (1 : Int32))) t53) (q := []) 6 hM rfl trivial ?_
                            obtain ⟨s58, hs59, h⟩ := px_let_some h
                            rw [← hs59]
                            refine px_blk (i' := 8) (L' := [some (.ref 28), some (.int u1), some (.int u2), some (.int u3), some (.int (m4 + (6 : Int32))), some (.int y30), some (.int (6 : Int32)), some (.int (0 : Int32)), none]) (S' := []) (w' := px_w K s58 t53) (q := []) 5 hM rfl trivial ?_
                            exact px_E_le (px_leC_L _ _ (by simp [px_leC, px_le1, Value.category])) (ih (m4 + (6 : Int32)) y30 s58 t53 z h o w2 ha)
                          · rw [if_neg hc57] at h
                            refine px_blkif (c := u2 = 0) (t := 134) (e := 131) (L' := [some (.ref 28), some (.int u1), some (.int u2), some (.int u3), some (.int m4), some (.int y30), some (.int (6 : Int32)), some (.int (0 : Int32)), none]) (S' := []) (w' := px_w K s52 t53) (q := []) 2 hM rfl trivial (fun hc60 => ?_) (fun hc60 => ?_)
                            · rw [if_pos hc60] at h
                              refine px_blk (i' := 140) (L' := [some (.ref 28), some (.int u1), some (.int u2), some (.int u3), some (.int m4), some (.int y30), some (.int (6 : Int32)), some (.int (0 : Int32)), none]) (S' := []) (w' := px_w K (sR s52 35 ((s52.1 35) + (1 : Int32))) t53) (q := []) 6 hM rfl trivial ?_
                              obtain ⟨s61, hs62, h⟩ := px_let_some h
                              rw [← hs62]
                              refine px_blk (i' := 8) (L' := [some (.ref 28), some (.int u1), some (.int u2), some (.int u3), some (.int (m4 + (6 : Int32))), some (.int y30), some (.int (6 : Int32)), some (.int (0 : Int32)), none]) (S' := []) (w' := px_w K s61 t53) (q := []) 5 hM rfl trivial ?_
                              exact px_E_le (px_leC_L _ _ (by simp [px_leC, px_le1, Value.category])) (ih (m4 + (6 : Int32)) y30 s61 t53 z h o w2 ha)
                            · rw [if_neg hc60] at h
                              refine px_blk (i' := 133) (L' := [some (.ref 28), some (.int u1), some (.int u2), some (.int u3), some (.int m4), some (.int y30), some (.int (6 : Int32)), some (.int (0 : Int32)), none]) (S' := [.int (1 : Int32), .ref 28]) (w' := px_w K s52 t53) (q := []) 2 hM rfl trivial ?_
                              rcases px_bv_some h with ⟨s63, t64, hk65, h⟩ | ⟨x67, s63, t64, hk65, h⟩
                              · refine px_E_call hM rfl rfl rfl rfl (px_E_mono (by decide) (e_M_flush_28 K N (1 : Int32) s52 t53 _ hk65)) ?_
                                refine px_blk (i' := 140) (L' := [some (.ref 28), some (.int u1), some (.int u2), some (.int u3), some (.int m4), some (.int y30), some (.int (6 : Int32)), some (.int (0 : Int32)), none]) (S' := []) (w' := px_w K (sR s63 35 ((s63.1 35) + (1 : Int32))) t64) (q := []) 6 hM rfl trivial ?_
                                obtain ⟨s68, hs69, h⟩ := px_let_some h
                                rw [← hs69]
                                refine px_blk (i' := 8) (L' := [some (.ref 28), some (.int u1), some (.int u2), some (.int u3), some (.int (m4 + (6 : Int32))), some (.int y30), some (.int (6 : Int32)), some (.int (0 : Int32)), none]) (S' := []) (w' := px_w K s68 t64) (q := []) 5 hM rfl trivial ?_
                                exact px_E_le (px_leC_L _ _ (by simp [px_leC, px_le1, Value.category])) (ih (m4 + (6 : Int32)) y30 s68 t64 z h o w2 ha)
                              · cases h
                        · cases h
                      · rw [if_neg hc51] at h
                        refine px_blk (i' := 111) (L' := [some (.ref 28), some (.int u1), some (.int u2), some (.int u3), some (.int m4), some (.int y30), some (.int (6 : Int32)), some (.int (0 : Int32)), none]) (S' := [.int (1 : Int32), .ref 28]) (w' := px_w K s26 t27) (q := []) 2 hM rfl trivial ?_
                        rcases px_bv_some h with ⟨s70, t71, hk72, h⟩ | ⟨x74, s70, t71, hk72, h⟩
                        · refine px_E_call hM rfl rfl rfl rfl (px_E_mono (by decide) (e_M_flush_28 K N (1 : Int32) s26 t27 _ hk72)) ?_
                          refine px_blk (i' := 124) (L' := [some (.ref 28), some (.int u1), some (.int u2), some (.int u3), some (.int m4), some (.int y30), some (.int (6 : Int32)), some (.int (0 : Int32)), none]) (S' := [.ref 28, .int ((((25 : Int32) * (s70.1 33)) + (1 : Int32)) + (s70.1 35)), .int (1 : Int32), .ref 28]) (w' := px_w K s70 t71) (q := []) 12 hM rfl trivial ?_
                          refine px_blk (i' := 126) (L' := [some (.ref 28), some (.int u1), some (.int u2), some (.int u3), some (.int m4), some (.int y30), some (.int (6 : Int32)), some (.int (0 : Int32)), none]) (S' := [.int (0 : Int32), .ref 43, .int ((((25 : Int32) * (s70.1 33)) + (1 : Int32)) + (s70.1 35)), .int (1 : Int32), .ref 28]) (w' := px_w K s70 t71) (q := []) 2 hM rfl trivial ?_
                          rcases px_bv_some h with ⟨s75, t76, hk77, h⟩ | ⟨x79, s75, t76, hk77, h⟩
                          · refine px_E_call hM rfl rfl rfl rfl (px_E_mono (by decide) (e_M_write_28_43 K N (1 : Int32) ((((25 : Int32) * (s70.1 33)) + (1 : Int32)) + (s70.1 35)) (0 : Int32) s70 t71 _ hk77)) ?_
                            refine px_blkif (c := (0 : Int32) = 0) (t := 134) (e := 129) (L' := [some (.ref 28), some (.int u1), some (.int u2), some (.int u3), some (.int m4), some (.int y30), some (.int (6 : Int32)), some (.int (0 : Int32)), none]) (S' := []) (w' := px_w K s75 t76) (q := []) 2 hM rfl trivial (fun hc80 => ?_) (fun hc80 => ?_)
                            · rw [if_pos hc80] at h
                              refine px_blk (i' := 140) (L' := [some (.ref 28), some (.int u1), some (.int u2), some (.int u3), some (.int m4), some (.int y30), some (.int (6 : Int32)), some (.int (0 : Int32)), none]) (S' := []) (w' := px_w K (sR s75 35 ((s75.1 35) + (1 : Int32))) t76) (q := []) 6 hM rfl trivial ?_
                              obtain ⟨s81, hs82, h⟩ := px_let_some h
                              rw [← hs82]
                              refine px_blk (i' := 8) (L' := [some (.ref 28), some (.int u1), some (.int u2), some (.int u3), some (.int (m4 + (6 : Int32))), some (.int y30), some (.int (6 : Int32)), some (.int (0 : Int32)), none]) (S' := []) (w' := px_w K s81 t76) (q := []) 5 hM rfl trivial ?_
                              exact px_E_le (px_leC_L _ _ (by simp [px_leC, px_le1, Value.category])) (ih (m4 + (6 : Int32)) y30 s81 t76 z h o w2 ha)
                            · rw [if_neg hc80] at h
                              refine px_blkif (c := u2 = 0) (t := 134) (e := 131) (L' := [some (.ref 28), some (.int u1), some (.int u2), some (.int u3), some (.int m4), some (.int y30), some (.int (6 : Int32)), some (.int (0 : Int32)), none]) (S' := []) (w' := px_w K s75 t76) (q := []) 2 hM rfl trivial (fun hc83 => ?_) (fun hc83 => ?_)
                              · rw [if_pos hc83] at h
                                refine px_blk (i' := 140) (L' := [some (.ref 28), some (.int u1), some (.int u2), some (.int u3), some (.int m4), some (.int y30), some (.int (6 : Int32)), some (.int (0 : Int32)), none]) (S' := []) (w' := px_w K (sR s75 35 ((s75.1 35) + (1 : Int32))) t76) (q := []) 6 hM rfl trivial ?_
                                obtain ⟨s84, hs85, h⟩ := px_let_some h
                                rw [← hs85]
                                refine px_blk (i' := 8) (L' := [some (.ref 28), some (.int u1), some (.int u2), some (.int u3), some (.int (m4 + (6 : Int32))), some (.int y30), some (.int (6 : Int32)), some (.int (0 : Int32)), none]) (S' := []) (w' := px_w K s84 t76) (q := []) 5 hM rfl trivial ?_
                                exact px_E_le (px_leC_L _ _ (by simp [px_leC, px_le1, Value.category])) (ih (m4 + (6 : Int32)) y30 s84 t76 z h o w2 ha)
                              · rw [if_neg hc83] at h
                                refine px_blk (i' := 133) (L' := [some (.ref 28), some (.int u1), some (.int u2), some (.int u3), some (.int m4), some (.int y30), some (.int (6 : Int32)), some (.int (0 : Int32)), none]) (S' := [.int (1 : Int32), .ref 28]) (w' := px_w K s75 t76) (q := []) 2 hM rfl trivial ?_
                                rcases px_bv_some h with ⟨s86, t87, hk88, h⟩ | ⟨x90, s86, t87, hk88, h⟩
                                · refine px_E_call hM rfl rfl rfl rfl (px_E_mono (by decide) (e_M_flush_28 K N (1 : Int32) s75 t76 _ hk88)) ?_
                                  refine px_blk (i' := 140) (L' := [some (.ref 28), some (.int u1), some (.int u2), some (.int u3), some (.int m4), some (.int y30), some (.int (6 : Int32)), some (.int (0 : Int32)), none]) (S' := []) (w' := px_w K (sR s86 35 ((s86.1 35) + (1 : Int32))) t87) (q := []) 6 hM rfl trivial ?_
                                  obtain ⟨s91, hs92, h⟩ := px_let_some h
                                  rw [← hs92]
                                  refine px_blk (i' := 8) (L' := [some (.ref 28), some (.int u1), some (.int u2), some (.int u3), some (.int (m4 + (6 : Int32))), some (.int y30), some (.int (6 : Int32)), some (.int (0 : Int32)), none]) (S' := []) (w' := px_w K s91 t87) (q := []) 5 hM rfl trivial ?_
                                  exact px_E_le (px_leC_L _ _ (by simp [px_leC, px_le1, Value.category])) (ih (m4 + (6 : Int32)) y30 s91 t87 z h o w2 ha)
                                · cases h
                          · cases h
                        · cases h
                  · rw [if_neg hi31] at h
                    cases h
                · cases h
                  obtain ⟨rfl, rfl⟩ := ha
                  exact e_l_M_records_28_70 K N u1 u2 u3 m4 (6 : Int32) (0 : Int32) N m5 (0 : Int32) s22 t7 _ hl28 _ _ ⟨rfl, rfl⟩
              · rw [if_neg hc17] at h
                obtain ⟨hq93, h⟩ := px_gd_some h
                refine px_blk (i' := 63) (L' := [some (.ref 28), some (.int u1), some (.int u2), some (.int u3), some (.int m4), some (.int m5), some (.int (6 : Int32)), some (.int (0 : Int32)), none]) (S' := []) (w' := px_w K (sA s15 43 (2 : Int32).toNatClampNeg (1 : Int32)) t7) (q := [vp_in (2 : Int32) (K.2.2 43)]) 3 hM rfl (show vp_in (2 : Int32) (K.2.2 43) from hq93) ?_
                obtain ⟨s94, hs95, h⟩ := px_let_some h
                rw [← hs95]
                obtain ⟨hq96, h⟩ := px_gd_some h
                refine px_blk (i' := 68) (L' := [some (.ref 28), some (.int u1), some (.int u2), some (.int u3), some (.int m4), some (.int m5), some (.int (6 : Int32)), some (.int (0 : Int32)), none]) (S' := []) (w' := px_w K (sA s94 43 (3 : Int32).toNatClampNeg (6 : Int32)) t7) (q := [vp_in (3 : Int32) (K.2.2 43)]) 5 hM rfl (show vp_in (3 : Int32) (K.2.2 43) from hq96) ?_
                obtain ⟨s97, hs98, h⟩ := px_let_some h
                rw [← hs98]
                refine px_blk (i' := 70) (L' := [some (.ref 28), some (.int u1), some (.int u2), some (.int u3), some (.int m4), some (.int m5), some (.int (6 : Int32)), some (.int (0 : Int32)), some (.int (0 : Int32))]) (S' := []) (w' := px_w K s97 t7) (q := []) 2 hM rfl trivial ?_
                rcases px_lp_some h with ⟨i99, vs100, s101, t102, hl103, h⟩ | ⟨z104, hl103, h⟩
                · by_cases hi106 : i99 = 105
                  · subst hi106
                    rw [if_pos rfl] at h
                    have h9 := px_v1_some h
                    clear h
                    obtain ⟨y105, rfl, h⟩ := h9
                    refine e_l_M_records_28_70 K N u1 u2 u3 m4 (6 : Int32) (0 : Int32) N m5 (0 : Int32) s97 t7 _ hl103 _ _ ?_
                    show px_E px_ET px_P 6 44 105 [some (.ref 28), some (.int u1), some (.int u2), some (.int u3), some (.int m4), some (.int y105), some (.int (6 : Int32)), some (.int (0 : Int32)), none] [] (px_w K s101 t102) _ _
                    refine px_blkif (c := (0 : Int32) = 0) (t := 112) (e := 107) (L' := [some (.ref 28), some (.int u1), some (.int u2), some (.int u3), some (.int m4), some (.int y105), some (.int (6 : Int32)), some (.int (0 : Int32)), none]) (S' := []) (w' := px_w K s101 t102) (q := []) 2 hM rfl trivial (fun hc107 => ?_) (fun hc107 => ?_)
                    · rw [if_pos hc107] at h
                      refine px_blk (i' := 124) (L' := [some (.ref 28), some (.int u1), some (.int u2), some (.int u3), some (.int m4), some (.int y105), some (.int (6 : Int32)), some (.int (0 : Int32)), none]) (S' := [.ref 28, .int ((((25 : Int32) * (s101.1 33)) + (1 : Int32)) + (s101.1 35)), .int (1 : Int32), .ref 28]) (w' := px_w K s101 t102) (q := []) 12 hM rfl trivial ?_
                      refine px_blk (i' := 126) (L' := [some (.ref 28), some (.int u1), some (.int u2), some (.int u3), some (.int m4), some (.int y105), some (.int (6 : Int32)), some (.int (0 : Int32)), none]) (S' := [.int (0 : Int32), .ref 43, .int ((((25 : Int32) * (s101.1 33)) + (1 : Int32)) + (s101.1 35)), .int (1 : Int32), .ref 28]) (w' := px_w K s101 t102) (q := []) 2 hM rfl trivial ?_
                      rcases px_bv_some h with ⟨s108, t109, hk110, h⟩ | ⟨x112, s108, t109, hk110, h⟩
                      · refine px_E_call hM rfl rfl rfl rfl (px_E_mono (by decide) (e_M_write_28_43 K N (1 : Int32) ((((25 : Int32) * (s101.1 33)) + (1 : Int32)) + (s101.1 35)) (0 : Int32) s101 t102 _ hk110)) ?_
                        refine px_blkif (c := (0 : Int32) = 0) (t := 134) (e := 129) (L' := [some (.ref 28), some (.int u1), some (.int u2), some (.int u3), some (.int m4), some (.int y105), some (.int (6 : Int32)), some (.int (0 : Int32)), none]) (S' := []) (w' := px_w K s108 t109) (q := []) 2 hM rfl trivial (fun hc113 => ?_) (fun hc113 => ?_)
                        · rw [if_pos hc113] at h
                          refine px_blk (i' := 140) (L' := [some (.ref 28), some (.int u1), some (.int u2), some (.int u3), some (.int m4), some (.int y105), some (.int (6 : Int32)), some (.int (0 : Int32)), none]) (S' := []) (w' := px_w K (sR s108 35 ((s108.1 35) + (1 : Int32))) t109) (q := []) 6 hM rfl trivial ?_
                          obtain ⟨s114, hs115, h⟩ := px_let_some h
                          rw [← hs115]
                          refine px_blk (i' := 8) (L' := [some (.ref 28), some (.int u1), some (.int u2), some (.int u3), some (.int (m4 + (6 : Int32))), some (.int y105), some (.int (6 : Int32)), some (.int (0 : Int32)), none]) (S' := []) (w' := px_w K s114 t109) (q := []) 5 hM rfl trivial ?_
                          exact px_E_le (px_leC_L _ _ (by simp [px_leC, px_le1, Value.category])) (ih (m4 + (6 : Int32)) y105 s114 t109 z h o w2 ha)
                        · rw [if_neg hc113] at h
                          refine px_blkif (c := u2 = 0) (t := 134) (e := 131) (L' := [some (.ref 28), some (.int u1), some (.int u2), some (.int u3), some (.int m4), some (.int y105), some (.int (6 : Int32)), some (.int (0 : Int32)), none]) (S' := []) (w' := px_w K s108 t109) (q := []) 2 hM rfl trivial (fun hc116 => ?_) (fun hc116 => ?_)
                          · rw [if_pos hc116] at h
                            refine px_blk (i' := 140) (L' := [some (.ref 28), some (.int u1), some (.int u2), some (.int u3), some (.int m4), some (.int y105), some (.int (6 : Int32)), some (.int (0 : Int32)), none]) (S' := []) (w' := px_w K (sR s108 35 ((s108.1 35) + (1 : Int32))) t109) (q := []) 6 hM rfl trivial ?_
                            obtain ⟨s117, hs118, h⟩ := px_let_some h
                            rw [← hs118]
                            refine px_blk (i' := 8) (L' := [some (.ref 28), some (.int u1), some (.int u2), some (.int u3), some (.int (m4 + (6 : Int32))), some (.int y105), some (.int (6 : Int32)), some (.int (0 : Int32)), none]) (S' := []) (w' := px_w K s117 t109) (q := []) 5 hM rfl trivial ?_
                            exact px_E_le (px_leC_L _ _ (by simp [px_leC, px_le1, Value.category])) (ih (m4 + (6 : Int32)) y105 s117 t109 z h o w2 ha)
                          · rw [if_neg hc116] at h
                            refine px_blk (i' := 133) (L' := [some (.ref 28), some (.int u1), some (.int u2), some (.int u3), some (.int m4), some (.int y105), some (.int (6 : Int32)), some (.int (0 : Int32)), none]) (S' := [.int (1 : Int32), .ref 28]) (w' := px_w K s108 t109) (q := []) 2 hM rfl trivial ?_
                            rcases px_bv_some h with ⟨s119, t120, hk121, h⟩ | ⟨x123, s119, t120, hk121, h⟩
                            · refine px_E_call hM rfl rfl rfl rfl (px_E_mono (by decide) (e_M_flush_28 K N (1 : Int32) s108 t109 _ hk121)) ?_
                              refine px_blk (i' := 140) (L' := [some (.ref 28), some (.int u1), some (.int u2), some (.int u3), some (.int m4), some (.int y105), some (.int (6 : Int32)), some (.int (0 : Int32)), none]) (S' := []) (w' := px_w K (sR s119 35 ((s119.1 35) + (1 : Int32))) t120) (q := []) 6 hM rfl trivial ?_
                              obtain ⟨s124, hs125, h⟩ := px_let_some h
                              rw [← hs125]
                              refine px_blk (i' := 8) (L' := [some (.ref 28), some (.int u1), some (.int u2), some (.int u3), some (.int (m4 + (6 : Int32))), some (.int y105), some (.int (6 : Int32)), some (.int (0 : Int32)), none]) (S' := []) (w' := px_w K s124 t120) (q := []) 5 hM rfl trivial ?_
                              exact px_E_le (px_leC_L _ _ (by simp [px_leC, px_le1, Value.category])) (ih (m4 + (6 : Int32)) y105 s124 t120 z h o w2 ha)
                            · cases h
                      · cases h
                    · rw [if_neg hc107] at h
                      refine px_blkif (c := u2 = 0) (t := 112) (e := 109) (L' := [some (.ref 28), some (.int u1), some (.int u2), some (.int u3), some (.int m4), some (.int y105), some (.int (6 : Int32)), some (.int (0 : Int32)), none]) (S' := []) (w' := px_w K s101 t102) (q := []) 2 hM rfl trivial (fun hc126 => ?_) (fun hc126 => ?_)
                      · rw [if_pos hc126] at h
                        refine px_blk (i' := 124) (L' := [some (.ref 28), some (.int u1), some (.int u2), some (.int u3), some (.int m4), some (.int y105), some (.int (6 : Int32)), some (.int (0 : Int32)), none]) (S' := [.ref 28, .int ((((25 : Int32) * (s101.1 33)) + (1 : Int32)) + (s101.1 35)), .int (1 : Int32), .ref 28]) (w' := px_w K s101 t102) (q := []) 12 hM rfl trivial ?_
                        refine px_blk (i' := 126) (L' := [some (.ref 28), some (.int u1), some (.int u2), some (.int u3), some (.int m4), some (.int y105), some (.int (6 : Int32)), some (.int (0 : Int32)), none]) (S' := [.int (0 : Int32), .ref 43, .int ((((25 : Int32) * (s101.1 33)) + (1 : Int32)) + (s101.1 35)), .int (1 : Int32), .ref 28]) (w' := px_w K s101 t102) (q := []) 2 hM rfl trivial ?_
                        rcases px_bv_some h with ⟨s127, t128, hk129, h⟩ | ⟨x131, s127, t128, hk129, h⟩
                        · refine px_E_call hM rfl rfl rfl rfl (px_E_mono (by decide) (e_M_write_28_43 K N (1 : Int32) ((((25 : Int32) * (s101.1 33)) + (1 : Int32)) + (s101.1 35)) (0 : Int32) s101 t102 _ hk129)) ?_
                          refine px_blkif (c := (0 : Int32) = 0) (t := 134) (e := 129) (L' := [some (.ref 28), some (.int u1), some (.int u2), some (.int u3), some (.int m4), some (.int y105), some (.int (6 : Int32)), some (.int (0 : Int32)), none]) (S' := []) (w' := px_w K s127 t128) (q := []) 2 hM rfl trivial (fun hc132 => ?_) (fun hc132 => ?_)
                          · rw [if_pos hc132] at h
                            refine px_blk (i' := 140) (L' := [some (.ref 28), some (.int u1), some (.int u2), some (.int u3), some (.int m4), some (.int y105), some (.int (6 : Int32)), some (.int (0 : Int32)), none]) (S' := []) (w' := px_w K (sR s127 35 ((s127.1 35) + (1 : Int32))) t128) (q := []) 6 hM rfl trivial ?_
                            obtain ⟨s133, hs134, h⟩ := px_let_some h
                            rw [← hs134]
                            refine px_blk (i' := 8) (L' := [some (.ref 28), some (.int u1), some (.int u2), some (.int u3), some (.int (m4 + (6 : Int32))), some (.int y105), some (.int (6 : Int32)), some (.int (0 : Int32)), none]) (S' := []) (w' := px_w K s133 t128) (q := []) 5 hM rfl trivial ?_
                            exact px_E_le (px_leC_L _ _ (by simp [px_leC, px_le1, Value.category])) (ih (m4 + (6 : Int32)) y105 s133 t128 z h o w2 ha)
                          · rw [if_neg hc132] at h
                            refine px_blkif (c := u2 = 0) (t := 134) (e := 131) (L' := [some (.ref 28), some (.int u1), some (.int u2), some (.int u3), some (.int m4), some (.int y105), some (.int (6 : Int32)), some (.int (0 : Int32)), none]) (S' := []) (w' := px_w K s127 t128) (q := []) 2 hM rfl trivial (fun hc135 => ?_) (fun hc135 => ?_)
                            · rw [if_pos hc135] at h
                              refine px_blk (i' := 140) (L' := [some (.ref 28), some (.int u1), some (.int u2), some (.int u3), some (.int m4), some (.int y105), some (.int (6 : Int32)), some (.int (0 : Int32)), none]) (S' := []) (w' := px_w K (sR s127 35 ((s127.1 35) + (1 : Int32))) t128) (q := []) 6 hM rfl trivial ?_
                              obtain ⟨s136, hs137, h⟩ := px_let_some h
                              rw [← hs137]
                              refine px_blk (i' := 8) (L' := [some (.ref 28), some (.int u1), some (.int u2), some (.int u3), some (.int (m4 + (6 : Int32))), some (.int y105), some (.int (6 : Int32)), some (.int (0 : Int32)), none]) (S' := []) (w' := px_w K s136 t128) (q := []) 5 hM rfl trivial ?_
                              exact px_E_le (px_leC_L _ _ (by simp [px_leC, px_le1, Value.category])) (ih (m4 + (6 : Int32)) y105 s136 t128 z h o w2 ha)
                            · rw [if_neg hc135] at h
                              refine px_blk (i' := 133) (L' := [some (.ref 28), some (.int u1), some (.int u2), some (.int u3), some (.int m4), some (.int y105), some (.int (6 : Int32)), some (.int (0 : Int32)), none]) (S' := [.int (1 : Int32), .ref 28]) (w' := px_w K s127 t128) (q := []) 2 hM rfl trivial ?_
                              rcases px_bv_some h with ⟨s138, t139, hk140, h⟩ | ⟨x142, s138, t139, hk140, h⟩
                              · refine px_E_call hM rfl rfl rfl rfl (px_E_mono (by decide) (e_M_flush_28 K N (1 : Int32) s127 t128 _ hk140)) ?_
                                refine px_blk (i' := 140) (L' := [some (.ref 28), some (.int u1), some (.int u2), some (.int u3), some (.int m4), some (.int y105), some (.int (6 : Int32)), some (.int (0 : Int32)), none]) (S' := []) (w' := px_w K (sR s138 35 ((s138.1 35) + (1 : Int32))) t139) (q := []) 6 hM rfl trivial ?_
                                obtain ⟨s143, hs144, h⟩ := px_let_some h
                                rw [← hs144]
                                refine px_blk (i' := 8) (L' := [some (.ref 28), some (.int u1), some (.int u2), some (.int u3), some (.int (m4 + (6 : Int32))), some (.int y105), some (.int (6 : Int32)), some (.int (0 : Int32)), none]) (S' := []) (w' := px_w K s143 t139) (q := []) 5 hM rfl trivial ?_
                                exact px_E_le (px_leC_L _ _ (by simp [px_leC, px_le1, Value.category])) (ih (m4 + (6 : Int32)) y105 s143 t139 z h o w2 ha)
                              · cases h
                        · cases h
                      · rw [if_neg hc126] at h
                        refine px_blk (i' := 111) (L' := [some (.ref 28), some (.int u1), some (.int u2), some (.int u3), some (.int m4), some (.int y105), some (.int (6 : Int32)), some (.int (0 : Int32)), none]) (S' := [.int (1 : Int32), .ref 28]) (w' := px_w K s101 t102) (q := []) 2 hM rfl trivial ?_
                        rcases px_bv_some h with ⟨s145, t146, hk147, h⟩ | ⟨x149, s145, t146, hk147, h⟩
                        · refine px_E_call hM rfl rfl rfl rfl (px_E_mono (by decide) (e_M_flush_28 K N (1 : Int32) s101 t102 _ hk147)) ?_
                          refine px_blk (i' := 124) (L' := [some (.ref 28), some (.int u1), some (.int u2), some (.int u3), some (.int m4), some (.int y105), some (.int (6 : Int32)), some (.int (0 : Int32)), none]) (S' := [.ref 28, .int ((((25 : Int32) * (s145.1 33)) + (1 : Int32)) + (s145.1 35)), .int (1 : Int32), .ref 28]) (w' := px_w K s145 t146) (q := []) 12 hM rfl trivial ?_
                          refine px_blk (i' := 126) (L' := [some (.ref 28), some (.int u1), some (.int u2), some (.int u3), some (.int m4), some (.int y105), some (.int (6 : Int32)), some (.int (0 : Int32)), none]) (S' := [.int (0 : Int32), .ref 43, .int ((((25 : Int32) * (s145.1 33)) + (1 : Int32)) + (s145.1 35)), .int (1 : Int32), .ref 28]) (w' := px_w K s145 t146) (q := []) 2 hM rfl trivial ?_
                          rcases px_bv_some h with ⟨s150, t151, hk152, h⟩ | ⟨x154, s150, t151, hk152, h⟩
                          · refine px_E_call hM rfl rfl rfl rfl (px_E_mono (by decide) (e_M_write_28_43 K N (1 : Int32) ((((25 : Int32) * (s145.1 33)) + (1 : Int32)) + (s145.1 35)) (0 : Int32) s145 t146 _ hk152)) ?_
                            refine px_blkif (c := (0 : Int32) = 0) (t := 134) (e := 129) (L' := [some (.ref 28), some (.int u1), some (.int u2), some (.int u3), some (.int m4), some (.int y105), some (.int (6 : Int32)), some (.int (0 : Int32)), none]) (S' := []) (w' := px_w K s150 t151) (q := []) 2 hM rfl trivial (fun hc155 => ?_) (fun hc155 => ?_)
                            · rw [if_pos hc155] at h
                              refine px_blk (i' := 140) (L' := [some (.ref 28), some (.int u1), some (.int u2), some (.int u3), some (.int m4), some (.int y105), some (.int (6 : Int32)), some (.int (0 : Int32)), none]) (S' := []) (w' := px_w K (sR s150 35 ((s150.1 35) + (1 : Int32))) t151) (q := []) 6 hM rfl trivial ?_
                              obtain ⟨s156, hs157, h⟩ := px_let_some h
                              rw [← hs157]
                              refine px_blk (i' := 8) (L' := [some (.ref 28), some (.int u1), some (.int u2), some (.int u3), some (.int (m4 + (6 : Int32))), some (.int y105), some (.int (6 : Int32)), some (.int (0 : Int32)), none]) (S' := []) (w' := px_w K s156 t151) (q := []) 5 hM rfl trivial ?_
                              exact px_E_le (px_leC_L _ _ (by simp [px_leC, px_le1, Value.category])) (ih (m4 + (6 : Int32)) y105 s156 t151 z h o w2 ha)
                            · rw [if_neg hc155] at h
                              refine px_blkif (c := u2 = 0) (t := 134) (e := 131) (L' := [some (.ref 28), some (.int u1), some (.int u2), some (.int u3), some (.int m4), some (.int y105), some (.int (6 : Int32)), some (.int (0 : Int32)), none]) (S' := []) (w' := px_w K s150 t151) (q := []) 2 hM rfl trivial (fun hc158 => ?_) (fun hc158 => ?_)
                              · rw [if_pos hc158] at h
                                refine px_blk (i' := 140) (L' := [some (.ref 28), some (.int u1), some (.int u2), some (.int u3), some (.int m4), some (.int y105), some (.int (6 : Int32)), some (.int (0 : Int32)), none]) (S' := []) (w' := px_w K (sR s150 35 ((s150.1 35) + (1 : Int32))) t151) (q := []) 6 hM rfl trivial ?_
                                obtain ⟨s159, hs160, h⟩ := px_let_some h
                                rw [← hs160]
                                refine px_blk (i' := 8) (L' := [some (.ref 28), some (.int u1), some (.int u2), some (.int u3), some (.int (m4 + (6 : Int32))), some (.int y105), some (.int (6 : Int32)), some (.int (0 : Int32)), none]) (S' := []) (w' := px_w K s159 t151) (q := []) 5 hM rfl trivial ?_
                                exact px_E_le (px_leC_L _ _ (by simp [px_leC, px_le1, Value.category])) (ih (m4 + (6 : Int32)) y105 s159 t151 z h o w2 ha)
                              · rw [if_neg hc158] at h
                                refine px_blk (i' := 133) (L' := [some (.ref 28), some (.int u1), some (.int u2), some (.int u3), some (.int m4), some (.int y105), some (.int (6 : Int32)), some (.int (0 : Int32)), none]) (S' := [.int (1 : Int32), .ref 28]) (w' := px_w K s150 t151) (q := []) 2 hM rfl trivial ?_
                                rcases px_bv_some h with ⟨s161, t162, hk163, h⟩ | ⟨x165, s161, t162, hk163, h⟩
                                · refine px_E_call hM rfl rfl rfl rfl (px_E_mono (by decide) (e_M_flush_28 K N (1 : Int32) s150 t151 _ hk163)) ?_
                                  refine px_blk (i' := 140) (L' := [some (.ref 28), some (.int u1), some (.int u2), some (.int u3), some (.int m4), some (.int y105), some (.int (6 : Int32)), some (.int (0 : Int32)), none]) (S' := []) (w' := px_w K (sR s161 35 ((s161.1 35) + (1 : Int32))) t162) (q := []) 6 hM rfl trivial ?_
                                  obtain ⟨s166, hs167, h⟩ := px_let_some h
                                  rw [← hs167]
                                  refine px_blk (i' := 8) (L' := [some (.ref 28), some (.int u1), some (.int u2), some (.int u3), some (.int (m4 + (6 : Int32))), some (.int y105), some (.int (6 : Int32)), some (.int (0 : Int32)), none]) (S' := []) (w' := px_w K s166 t162) (q := []) 5 hM rfl trivial ?_
                                  exact px_E_le (px_leC_L _ _ (by simp [px_leC, px_le1, Value.category])) (ih (m4 + (6 : Int32)) y105 s166 t162 z h o w2 ha)
                                · cases h
                          · cases h
                        · cases h
                  · rw [if_neg hi106] at h
                    cases h
                · cases h
                  obtain ⟨rfl, rfl⟩ := ha
                  exact e_l_M_records_28_70 K N u1 u2 u3 m4 (6 : Int32) (0 : Int32) N m5 (0 : Int32) s97 t7 _ hl103 _ _ ⟨rfl, rfl⟩
            · rw [if_neg hi10] at h
              cases h
          · cases h
            obtain ⟨rfl, rfl⟩ := ha
            exact e_l_M_records_28_33 K N u1 u2 u3 m4 m5 (6 : Int32) (0 : Int32) N (4 : Int32) s t _ hl8 _ _ ⟨rfl, rfl⟩
        · rw [if_neg hc3] at h
          refine px_blk (i' := 33) (L' := [some (.ref 28), some (.int u1), some (.int u2), some (.int u3), some (.int m4), some (.int m5), some (.int (6 : Int32)), some (.int (1 : Int32)), some (.int (4 : Int32))]) (S' := []) (w' := px_w K s t) (q := []) 5 hM rfl trivial ?_
          rcases px_lp_some h with ⟨i168, vs169, s170, t171, hl172, h⟩ | ⟨z173, hl172, h⟩
          · by_cases hi174 : i168 = 43
            · subst hi174
              rw [if_pos rfl] at h
              have h9 := px_v0_some h
              clear h
              obtain ⟨rfl, h⟩ := h9
              refine e_l_M_records_28_33 K N u1 u2 u3 m4 m5 (6 : Int32) (1 : Int32) N (4 : Int32) s t _ hl172 _ _ ?_
              show px_E px_ET px_P 6 44 43 [some (.ref 28), some (.int u1), some (.int u2), some (.int u3), some (.int m4), some (.int m5), some (.int (6 : Int32)), some (.int (1 : Int32)), none] [] (px_w K s170 t171) _ _
              obtain ⟨hq175, h⟩ := px_gd_some h
              refine px_blk (i' := 49) (L' := [some (.ref 28), some (.int u1), some (.int u2), some (.int u3), some (.int m4), some (.int m5), some (.int (6 : Int32)), some (.int (1 : Int32)), none]) (S' := []) (w' := px_w K (sA s170 43 (0 : Int32).toNatClampNeg (s170.1 34)) t171) (q := [vp_in (0 : Int32) (K.2.2 43)]) 6 hM rfl (show vp_in (0 : Int32) (K.2.2 43) from hq175) ?_
              obtain ⟨s176, hs177, h⟩ := px_let_some h
              rw [← hs177]
              obtain ⟨hq178, h⟩ := px_gd_some h
              refine px_blk (i' := 54) (L' := [some (.ref 28), some (.int u1), some (.int u2), some (.int u3), some (.int m4), some (.int m5), some (.int (6 : Int32)), some (.int (1 : Int32)), none]) (S' := []) (w' := px_w K (sA s176 43 (1 : Int32).toNatClampNeg u1) t171) (q := [vp_in (1 : Int32) (K.2.2 43)]) 5 hM rfl (show vp_in (1 : Int32) (K.2.2 43) from hq178) ?_
              obtain ⟨s179, hs180, h⟩ := px_let_some h
              rw [← hs180]
              refine px_blkif (c := (1 : Int32) = 0) (t := 61) (e := 59) (L' := [some (.ref 28), some (.int u1), some (.int u2), some (.int u3), some (.int m4), some (.int m5), some (.int (6 : Int32)), some (.int (1 : Int32)), none]) (S' := [.int (2 : Int32), .ref 43]) (w' := px_w K s179 t171) (q := []) 5 hM rfl trivial (fun hc181 => ?_) (fun hc181 => ?_)
              · rw [if_pos hc181] at h
                obtain ⟨hq182, h⟩ := px_gd_some h
                refine px_blk (i' := 63) (L' := [some (.ref 28), some (.int u1), some (.int u2), some (.int u3), some (.int m4), some (.int m5), some (.int (6 : Int32)), some (.int (1 : Int32)), none]) (S' := []) (w' := px_w K (sA s179 43 (2 : Int32).toNatClampNeg (0 : Int32)) t171) (q := [vp_in (2 : Int32) (K.2.2 43)]) 2 hM rfl (show vp_in (2 : Int32) (K.2.2 43) from hq182) ?_
                obtain ⟨s183, hs184, h⟩ := px_let_some h
                rw [← hs184]
                obtain ⟨hq185, h⟩ := px_gd_some h
                refine px_blk (i' := 68) (L' := [some (.ref 28), some (.int u1), some (.int u2), some (.int u3), some (.int m4), some (.int m5), some (.int (6 : Int32)), some (.int (1 : Int32)), none]) (S' := []) (w' := px_w K (sA s183 43 (3 : Int32).toNatClampNeg (6 : Int32)) t171) (q := [vp_in (3 : Int32) (K.2.2 43)]) 5 hM rfl (show vp_in (3 : Int32) (K.2.2 43) from hq185) ?_
                obtain ⟨s186, hs187, h⟩ := px_let_some h
                rw [← hs187]
                refine px_blk (i' := 70) (L' := [some (.ref 28), some (.int u1), some (.int u2), some (.int u3), some (.int m4), some (.int m5), some (.int (6 : Int32)), some (.int (1 : Int32)), some (.int (0 : Int32))]) (S' := []) (w' := px_w K s186 t171) (q := []) 2 hM rfl trivial ?_
                rcases px_lp_some h with ⟨i188, vs189, s190, t191, hl192, h⟩ | ⟨z193, hl192, h⟩
                · by_cases hi195 : i188 = 105
                  · subst hi195
                    rw [if_pos rfl] at h
                    have h9 := px_v1_some h
                    clear h
                    obtain ⟨y194, rfl, h⟩ := h9
                    refine e_l_M_records_28_70 K N u1 u2 u3 m4 (6 : Int32) (1 : Int32) N m5 (0 : Int32) s186 t171 _ hl192 _ _ ?_
                    show px_E px_ET px_P 6 44 105 [some (.ref 28), some (.int u1), some (.int u2), some (.int u3), some (.int m4), some (.int y194), some (.int (6 : Int32)), some (.int (1 : Int32)), none] [] (px_w K s190 t191) _ _
                    refine px_blkif (c := (1 : Int32) = 0) (t := 112) (e := 107) (L' := [some (.ref 28), some (.int u1), some (.int u2), some (.int u3), some (.int m4), some (.int y194), some (.int (6 : Int32)), some (.int (1 : Int32)), none]) (S' := []) (w' := px_w K s190 t191) (q := []) 2 hM rfl trivial (fun hc196 => ?_) (fun hc196 => ?_)
                    · rw [if_pos hc196] at h
                      refine px_blk (i' := 124) (L' := [some (.ref 28), some (.int u1), some (.int u2), some (.int u3), some (.int m4), some (.int y194), some (.int (6 : Int32)), some (.int (1 : Int32)), none]) (S' := [.ref 28, .int ((((25 : Int32) * (s190.1 33)) + (1 : Int32)) + (s190.1 35)), .int (1 : Int32), .ref 28]) (w' := px_w K s190 t191) (q := []) 12 hM rfl trivial ?_
                      refine px_blk (i' := 126) (L' := [some (.ref 28), some (.int u1), some (.int u2), some (.int u3), some (.int m4), some (.int y194), some (.int (6 : Int32)), some (.int (1 : Int32)), none]) (S' := [.int (0 : Int32), .ref 43, .int ((((25 : Int32) * (s190.1 33)) + (1 : Int32)) + (s190.1 35)), .int (1 : Int32), .ref 28]) (w' := px_w K s190 t191) (q := []) 2 hM rfl trivial ?_
                      rcases px_bv_some h with ⟨s197, t198, hk199, h⟩ | ⟨x201, s197, t198, hk199, h⟩
                      · refine px_E_call hM rfl rfl rfl rfl (px_E_mono (by decide) (e_M_write_28_43 K N (1 : Int32) ((((25 : Int32) * (s190.1 33)) + (1 : Int32)) + (s190.1 35)) (0 : Int32) s190 t191 _ hk199)) ?_
                        refine px_blkif (c := (1 : Int32) = 0) (t := 134) (e := 129) (L' := [some (.ref 28), some (.int u1), some (.int u2), some (.int u3), some (.int m4), some (.int y194), some (.int (6 : Int32)), some (.int (1 : Int32)), none]) (S' := []) (w' := px_w K s197 t198) (q := []) 2 hM rfl trivial (fun hc202 => ?_) (fun hc202 => ?_)
                        · rw [if_pos hc202] at h
                          refine px_blk (i' := 140) (L' := [some (.ref 28), some (.int u1), some (.int u2), some (.int u3), some (.int m4), some (.int y194), some (.int (6 : Int32)), some (.int (1 : Int32)), none]) (S' := []) (w' := px_w K (sR s197 35 ((s197.1 35) + (1 : Int32))) t198) (q := []) 6 hM rfl trivial ?_
                          obtain ⟨s203, hs204, h⟩ := px_let_some h
                          rw [← hs204]
                          refine px_blk (i' := 8) (L' := [some (.ref 28), some (.int u1), some (.int u2), some (.int u3), some (.int (m4 + (6 : Int32))), some (.int y194), some (.int (6 : Int32)), some (.int (1 : Int32)), none]) (S' := []) (w' := px_w K s203 t198) (q := []) 5 hM rfl trivial ?_
                          exact px_E_le (px_leC_L _ _ (by simp [px_leC, px_le1, Value.category])) (ih (m4 + (6 : Int32)) y194 s203 t198 z h o w2 ha)
                        · rw [if_neg hc202] at h
                          refine px_blkif (c := u2 = 0) (t := 134) (e := 131) (L' := [some (.ref 28), some (.int u1), some (.int u2), some (.int u3), some (.int m4), some (.int y194), some (.int (6 : Int32)), some (.int (1 : Int32)), none]) (S' := []) (w' := px_w K s197 t198) (q := []) 2 hM rfl trivial (fun hc205 => ?_) (fun hc205 => ?_)
                          · rw [if_pos hc205] at h
                            refine px_blk (i' := 140) (L' := [some (.ref 28), some (.int u1), some (.int u2), some (.int u3), some (.int m4), some (.int y194), some (.int (6 : Int32)), some (.int (1 : Int32)), none]) (S' := []) (w' := px_w K (sR s197 35 ((s197.1 35) + (1 : Int32))) t198) (q := []) 6 hM rfl trivial ?_
                            obtain ⟨s206, hs207, h⟩ := px_let_some h
                            rw [← hs207]
                            refine px_blk (i' := 8) (L' := [some (.ref 28), some (.int u1), some (.int u2), some (.int u3), some (.int (m4 + (6 : Int32))), some (.int y194), some (.int (6 : Int32)), some (.int (1 : Int32)), none]) (S' := []) (w' := px_w K s206 t198) (q := []) 5 hM rfl trivial ?_
                            exact px_E_le (px_leC_L _ _ (by simp [px_leC, px_le1, Value.category])) (ih (m4 + (6 : Int32)) y194 s206 t198 z h o w2 ha)
                          · rw [if_neg hc205] at h
                            refine px_blk (i' := 133) (L' := [some (.ref 28), some (.int u1), some (.int u2), some (.int u3), some (.int m4), some (.int y194), some (.int (6 : Int32)), some (.int (1 : Int32)), none]) (S' := [.int (1 : Int32), .ref 28]) (w' := px_w K s197 t198) (q := []) 2 hM rfl trivial ?_
                            rcases px_bv_some h with ⟨s208, t209, hk210, h⟩ | ⟨x212, s208, t209, hk210, h⟩
                            · refine px_E_call hM rfl rfl rfl rfl (px_E_mono (by decide) (e_M_flush_28 K N (1 : Int32) s197 t198 _ hk210)) ?_
                              refine px_blk (i' := 140) (L' := [some (.ref 28), some (.int u1), some (.int u2), some (.int u3), some (.int m4), some (.int y194), some (.int (6 : Int32)), some (.int (1 : Int32)), none]) (S' := []) (w' := px_w K (sR s208 35 ((s208.1 35) + (1 : Int32))) t209) (q := []) 6 hM rfl trivial ?_
                              obtain ⟨s213, hs214, h⟩ := px_let_some h
                              rw [← hs214]
                              refine px_blk (i' := 8) (L' := [some (.ref 28), some (.int u1), some (.int u2), some (.int u3), some (.int (m4 + (6 : Int32))), some (.int y194), some (.int (6 : Int32)), some (.int (1 : Int32)), none]) (S' := []) (w' := px_w K s213 t209) (q := []) 5 hM rfl trivial ?_
                              exact px_E_le (px_leC_L _ _ (by simp [px_leC, px_le1, Value.category])) (ih (m4 + (6 : Int32)) y194 s213 t209 z h o w2 ha)
                            · cases h
                      · cases h
                    · rw [if_neg hc196] at h
                      refine px_blkif (c := u2 = 0) (t := 112) (e := 109) (L' := [some (.ref 28), some (.int u1), some (.int u2), some (.int u3), some (.int m4), some (.int y194), some (.int (6 : Int32)), some (.int (1 : Int32)), none]) (S' := []) (w' := px_w K s190 t191) (q := []) 2 hM rfl trivial (fun hc215 => ?_) (fun hc215 => ?_)
                      · rw [if_pos hc215] at h
                        refine px_blk (i' := 124) (L' := [some (.ref 28), some (.int u1), some (.int u2), some (.int u3), some (.int m4), some (.int y194), some (.int (6 : Int32)), some (.int (1 : Int32)), none]) (S' := [.ref 28, .int ((((25 : Int32) * (s190.1 33)) + (1 : Int32)) + (s190.1 35)), .int (1 : Int32), .ref 28]) (w' := px_w K s190 t191) (q := []) 12 hM rfl trivial ?_
                        refine px_blk (i' := 126) (L' := [some (.ref 28), some (.int u1), some (.int u2), some (.int u3), some (.int m4), some (.int y194), some (.int (6 : Int32)), some (.int (1 : Int32)), none]) (S' := [.int (0 : Int32), .ref 43, .int ((((25 : Int32) * (s190.1 33)) + (1 : Int32)) + (s190.1 35)), .int (1 : Int32), .ref 28]) (w' := px_w K s190 t191) (q := []) 2 hM rfl trivial ?_
                        rcases px_bv_some h with ⟨s216, t217, hk218, h⟩ | ⟨x220, s216, t217, hk218, h⟩
                        · refine px_E_call hM rfl rfl rfl rfl (px_E_mono (by decide) (e_M_write_28_43 K N (1 : Int32) ((((25 : Int32) * (s190.1 33)) + (1 : Int32)) + (s190.1 35)) (0 : Int32) s190 t191 _ hk218)) ?_
                          refine px_blkif (c := (1 : Int32) = 0) (t := 134) (e := 129) (L' := [some (.ref 28), some (.int u1), some (.int u2), some (.int u3), some (.int m4), some (.int y194), some (.int (6 : Int32)), some (.int (1 : Int32)), none]) (S' := []) (w' := px_w K s216 t217) (q := []) 2 hM rfl trivial (fun hc221 => ?_) (fun hc221 => ?_)
                          · rw [if_pos hc221] at h
                            refine px_blk (i' := 140) (L' := [some (.ref 28), some (.int u1), some (.int u2), some (.int u3), some (.int m4), some (.int y194), some (.int (6 : Int32)), some (.int (1 : Int32)), none]) (S' := []) (w' := px_w K (sR s216 35 ((s216.1 35) + (1 : Int32))) t217) (q := []) 6 hM rfl trivial ?_
                            obtain ⟨s222, hs223, h⟩ := px_let_some h
                            rw [← hs223]
                            refine px_blk (i' := 8) (L' := [some (.ref 28), some (.int u1), some (.int u2), some (.int u3), some (.int (m4 + (6 : Int32))), some (.int y194), some (.int (6 : Int32)), some (.int (1 : Int32)), none]) (S' := []) (w' := px_w K s222 t217) (q := []) 5 hM rfl trivial ?_
                            exact px_E_le (px_leC_L _ _ (by simp [px_leC, px_le1, Value.category])) (ih (m4 + (6 : Int32)) y194 s222 t217 z h o w2 ha)
                          · rw [if_neg hc221] at h
                            refine px_blkif (c := u2 = 0) (t := 134) (e := 131) (L' := [some (.ref 28), some (.int u1), some (.int u2), some (.int u3), some (.int m4), some (.int y194), some (.int (6 : Int32)), some (.int (1 : Int32)), none]) (S' := []) (w' := px_w K s216 t217) (q := []) 2 hM rfl trivial (fun hc224 => ?_) (fun hc224 => ?_)
                            · rw [if_pos hc224] at h
                              refine px_blk (i' := 140) (L' := [some (.ref 28), some (.int u1), some (.int u2), some (.int u3), some (.int m4), some (.int y194), some (.int (6 : Int32)), some (.int (1 : Int32)), none]) (S' := []) (w' := px_w K (sR s216 35 ((s216.1 35) + (1 : Int32))) t217) (q := []) 6 hM rfl trivial ?_
                              obtain ⟨s225, hs226, h⟩ := px_let_some h
                              rw [← hs226]
                              refine px_blk (i' := 8) (L' := [some (.ref 28), some (.int u1), some (.int u2), some (.int u3), some (.int (m4 + (6 : Int32))), some (.int y194), some (.int (6 : Int32)), some (.int (1 : Int32)), none]) (S' := []) (w' := px_w K s225 t217) (q := []) 5 hM rfl trivial ?_
                              exact px_E_le (px_leC_L _ _ (by simp [px_leC, px_le1, Value.category])) (ih (m4 + (6 : Int32)) y194 s225 t217 z h o w2 ha)
                            · rw [if_neg hc224] at h
                              refine px_blk (i' := 133) (L' := [some (.ref 28), some (.int u1), some (.int u2), some (.int u3), some (.int m4), some (.int y194), some (.int (6 : Int32)), some (.int (1 : Int32)), none]) (S' := [.int (1 : Int32), .ref 28]) (w' := px_w K s216 t217) (q := []) 2 hM rfl trivial ?_
                              rcases px_bv_some h with ⟨s227, t228, hk229, h⟩ | ⟨x231, s227, t228, hk229, h⟩
                              · refine px_E_call hM rfl rfl rfl rfl (px_E_mono (by decide) (e_M_flush_28 K N (1 : Int32) s216 t217 _ hk229)) ?_
                                refine px_blk (i' := 140) (L' := [some (.ref 28), some (.int u1), some (.int u2), some (.int u3), some (.int m4), some (.int y194), some (.int (6 : Int32)), some (.int (1 : Int32)), none]) (S' := []) (w' := px_w K (sR s227 35 ((s227.1 35) + (1 : Int32))) t228) (q := []) 6 hM rfl trivial ?_
                                obtain ⟨s232, hs233, h⟩ := px_let_some h
                                rw [← hs233]
                                refine px_blk (i' := 8) (L' := [some (.ref 28), some (.int u1), some (.int u2), some (.int u3), some (.int (m4 + (6 : Int32))), some (.int y194), some (.int (6 : Int32)), some (.int (1 : Int32)), none]) (S' := []) (w' := px_w K s232 t228) (q := []) 5 hM rfl trivial ?_
                                exact px_E_le (px_leC_L _ _ (by simp [px_leC, px_le1, Value.category])) (ih (m4 + (6 : Int32)) y194 s232 t228 z h o w2 ha)
                              · cases h
                        · cases h
                      · rw [if_neg hc215] at h
                        refine px_blk (i' := 111) (L' := [some (.ref 28), some (.int u1), some (.int u2), some (.int u3), some (.int m4), some (.int y194), some (.int (6 : Int32)), some (.int (1 : Int32)), none]) (S' := [.int (1 : Int32), .ref 28]) (w' := px_w K s190 t191) (q := []) 2 hM rfl trivial ?_
                        rcases px_bv_some h with ⟨s234, t235, hk236, h⟩ | ⟨x238, s234, t235, hk236, h⟩
                        · refine px_E_call hM rfl rfl rfl rfl (px_E_mono (by decide) (e_M_flush_28 K N (1 : Int32) s190 t191 _ hk236)) ?_
                          refine px_blk (i' := 124) (L' := [some (.ref 28), some (.int u1), some (.int u2), some (.int u3), some (.int m4), some (.int y194), some (.int (6 : Int32)), some (.int (1 : Int32)), none]) (S' := [.ref 28, .int ((((25 : Int32) * (s234.1 33)) + (1 : Int32)) + (s234.1 35)), .int (1 : Int32), .ref 28]) (w' := px_w K s234 t235) (q := []) 12 hM rfl trivial ?_
                          refine px_blk (i' := 126) (L' := [some (.ref 28), some (.int u1), some (.int u2), some (.int u3), some (.int m4), some (.int y194), some (.int (6 : Int32)), some (.int (1 : Int32)), none]) (S' := [.int (0 : Int32), .ref 43, .int ((((25 : Int32) * (s234.1 33)) + (1 : Int32)) + (s234.1 35)), .int (1 : Int32), .ref 28]) (w' := px_w K s234 t235) (q := []) 2 hM rfl trivial ?_
                          rcases px_bv_some h with ⟨s239, t240, hk241, h⟩ | ⟨x243, s239, t240, hk241, h⟩
                          · refine px_E_call hM rfl rfl rfl rfl (px_E_mono (by decide) (e_M_write_28_43 K N (1 : Int32) ((((25 : Int32) * (s234.1 33)) + (1 : Int32)) + (s234.1 35)) (0 : Int32) s234 t235 _ hk241)) ?_
                            refine px_blkif (c := (1 : Int32) = 0) (t := 134) (e := 129) (L' := [some (.ref 28), some (.int u1), some (.int u2), some (.int u3), some (.int m4), some (.int y194), some (.int (6 : Int32)), some (.int (1 : Int32)), none]) (S' := []) (w' := px_w K s239 t240) (q := []) 2 hM rfl trivial (fun hc244 => ?_) (fun hc244 => ?_)
                            · rw [if_pos hc244] at h
                              refine px_blk (i' := 140) (L' := [some (.ref 28), some (.int u1), some (.int u2), some (.int u3), some (.int m4), some (.int y194), some (.int (6 : Int32)), some (.int (1 : Int32)), none]) (S' := []) (w' := px_w K (sR s239 35 ((s239.1 35) + (1 : Int32))) t240) (q := []) 6 hM rfl trivial ?_
                              obtain ⟨s245, hs246, h⟩ := px_let_some h
                              rw [← hs246]
                              refine px_blk (i' := 8) (L' := [some (.ref 28), some (.int u1), some (.int u2), some (.int u3), some (.int (m4 + (6 : Int32))), some (.int y194), some (.int (6 : Int32)), some (.int (1 : Int32)), none]) (S' := []) (w' := px_w K s245 t240) (q := []) 5 hM rfl trivial ?_
                              exact px_E_le (px_leC_L _ _ (by simp [px_leC, px_le1, Value.category])) (ih (m4 + (6 : Int32)) y194 s245 t240 z h o w2 ha)
                            · rw [if_neg hc244] at h
                              refine px_blkif (c := u2 = 0) (t := 134) (e := 131) (L' := [some (.ref 28), some (.int u1), some (.int u2), some (.int u3), some (.int m4), some (.int y194), some (.int (6 : Int32)), some (.int (1 : Int32)), none]) (S' := []) (w' := px_w K s239 t240) (q := []) 2 hM rfl trivial (fun hc247 => ?_) (fun hc247 => ?_)
                              · rw [if_pos hc247] at h
                                refine px_blk (i' := 140) (L' := [some (.ref 28), some (.int u1), some (.int u2), some (.int u3), some (.int m4), some (.int y194), some (.int (6 : Int32)), some (.int (1 : Int32)), none]) (S' := []) (w' := px_w K (sR s239 35 ((s239.1 35) + (1 : Int32))) t240) (q := []) 6 hM rfl trivial ?_
                                obtain ⟨s248, hs249, h⟩ := px_let_some h
                                rw [← hs249]
                                refine px_blk (i' := 8) (L' := [some (.ref 28), some (.int u1), some (.int u2), some (.int u3), some (.int (m4 + (6 : Int32))), some (.int y194), some (.int (6 : Int32)), some (.int (1 : Int32)), none]) (S' := []) (w' := px_w K s248 t240) (q := []) 5 hM rfl trivial ?_
                                exact px_E_le (px_leC_L _ _ (by simp [px_leC, px_le1, Value.category])) (ih (m4 + (6 : Int32)) y194 s248 t240 z h o w2 ha)
                              · rw [if_neg hc247] at h
                                refine px_blk (i' := 133) (L' := [some (.ref 28), some (.int u1), some (.int u2), some (.int u3), some (.int m4), some (.int y194), some (.int (6 : Int32)), some (.int (1 : Int32)), none]) (S' := [.int (1 : Int32), .ref 28]) (w' := px_w K s239 t240) (q := []) 2 hM rfl trivial ?_
                                rcases px_bv_some h with ⟨s250, t251, hk252, h⟩ | ⟨x254, s250, t251, hk252, h⟩
                                · refine px_E_call hM rfl rfl rfl rfl (px_E_mono (by decide) (e_M_flush_28 K N (1 : Int32) s239 t240 _ hk252)) ?_
                                  refine px_blk (i' := 140) (L' := [some (.ref 28), some (.int u1), some (.int u2), some (.int u3), some (.int m4), some (.int y194), some (.int (6 : Int32)), some (.int (1 : Int32)), none]) (S' := []) (w' := px_w K (sR s250 35 ((s250.1 35) + (1 : Int32))) t251) (q := []) 6 hM rfl trivial ?_
                                  obtain ⟨s255, hs256, h⟩ := px_let_some h
                                  rw [← hs256]
                                  refine px_blk (i' := 8) (L' := [some (.ref 28), some (.int u1), some (.int u2), some (.int u3), some (.int (m4 + (6 : Int32))), some (.int y194), some (.int (6 : Int32)), some (.int (1 : Int32)), none]) (S' := []) (w' := px_w K s255 t251) (q := []) 5 hM rfl trivial ?_
                                  exact px_E_le (px_leC_L _ _ (by simp [px_leC, px_le1, Value.category])) (ih (m4 + (6 : Int32)) y194 s255 t251 z h o w2 ha)
                                · cases h
                          · cases h
                        · cases h
                  · rw [if_neg hi195] at h
                    cases h
                · cases h
                  obtain ⟨rfl, rfl⟩ := ha
                  exact e_l_M_records_28_70 K N u1 u2 u3 m4 (6 : Int32) (1 : Int32) N m5 (0 : Int32) s186 t171 _ hl192 _ _ ⟨rfl, rfl⟩
              · rw [if_neg hc181] at h
                obtain ⟨hq257, h⟩ := px_gd_some h
                refine px_blk (i' := 63) (L' := [some (.ref 28), some (.int u1), some (.int u2), some (.int u3), some (.int m4), some (.int m5), some (.int (6 : Int32)), some (.int (1 : Int32)), none]) (S' := []) (w' := px_w K (sA s179 43 (2 : Int32).toNatClampNeg (1 : Int32)) t171) (q := [vp_in (2 : Int32) (K.2.2 43)]) 3 hM rfl (show vp_in (2 : Int32) (K.2.2 43) from hq257) ?_
                obtain ⟨s258, hs259, h⟩ := px_let_some h
                rw [← hs259]
                obtain ⟨hq260, h⟩ := px_gd_some h
                refine px_blk (i' := 68) (L' := [some (.ref 28), some (.int u1), some (.int u2), some (.int u3), some (.int m4), some (.int m5), some (.int (6 : Int32)), some (.int (1 : Int32)), none]) (S' := []) (w' := px_w K (sA s258 43 (3 : Int32).toNatClampNeg (6 : Int32)) t171) (q := [vp_in (3 : Int32) (K.2.2 43)]) 5 hM rfl (show vp_in (3 : Int32) (K.2.2 43) from hq260) ?_
                obtain ⟨s261, hs262, h⟩ := px_let_some h
                rw [← hs262]
                refine px_blk (i' := 70) (L' := [some (.ref 28), some (.int u1), some (.int u2), some (.int u3), some (.int m4), some (.int m5), some (.int (6 : Int32)), some (.int (1 : Int32)), some (.int (0 : Int32))]) (S' := []) (w' := px_w K s261 t171) (q := []) 2 hM rfl trivial ?_
                rcases px_lp_some h with ⟨i263, vs264, s265, t266, hl267, h⟩ | ⟨z268, hl267, h⟩
                · by_cases hi270 : i263 = 105
                  · subst hi270
                    rw [if_pos rfl] at h
                    have h9 := px_v1_some h
                    clear h
                    obtain ⟨y269, rfl, h⟩ := h9
                    refine e_l_M_records_28_70 K N u1 u2 u3 m4 (6 : Int32) (1 : Int32) N m5 (0 : Int32) s261 t171 _ hl267 _ _ ?_
                    show px_E px_ET px_P 6 44 105 [some (.ref 28), some (.int u1), some (.int u2), some (.int u3), some (.int m4), some (.int y269), some (.int (6 : Int32)), some (.int (1 : Int32)), none] [] (px_w K s265 t266) _ _
                    refine px_blkif (c := (1 : Int32) = 0) (t := 112) (e := 107) (L' := [some (.ref 28), some (.int u1), some (.int u2), some (.int u3), some (.int m4), some (.int y269), some (.int (6 : Int32)), some (.int (1 : Int32)), none]) (S' := []) (w' := px_w K s265 t266) (q := []) 2 hM rfl trivial (fun hc271 => ?_) (fun hc271 => ?_)
                    · rw [if_pos hc271] at h
                      refine px_blk (i' := 124) (L' := [some (.ref 28), some (.int u1), some (.int u2), some (.int u3), some (.int m4), some (.int y269), some (.int (6 : Int32)), some (.int (1 : Int32)), none]) (S' := [.ref 28, .int ((((25 : Int32) * (s265.1 33)) + (1 : Int32)) + (s265.1 35)), .int (1 : Int32), .ref 28]) (w' := px_w K s265 t266) (q := []) 12 hM rfl trivial ?_
                      refine px_blk (i' := 126) (L' := [some (.ref 28), some (.int u1), some (.int u2), some (.int u3), some (.int m4), some (.int y269), some (.int (6 : Int32)), some (.int (1 : Int32)), none]) (S' := [.int (0 : Int32), .ref 43, .int ((((25 : Int32) * (s265.1 33)) + (1 : Int32)) + (s265.1 35)), .int (1 : Int32), .ref 28]) (w' := px_w K s265 t266) (q := []) 2 hM rfl trivial ?_
                      rcases px_bv_some h with ⟨s272, t273, hk274, h⟩ | ⟨x276, s272, t273, hk274, h⟩
                      · refine px_E_call hM rfl rfl rfl rfl (px_E_mono (by decide) (e_M_write_28_43 K N (1 : Int32) ((((25 : Int32) * (s265.1 33)) + (1 : Int32)) + (s265.1 35)) (0 : Int32) s265 t266 _ hk274)) ?_
                        refine px_blkif (c := (1 : Int32) = 0) (t := 134) (e := 129) (L' := [some (.ref 28), some (.int u1), some (.int u2), some (.int u3), some (.int m4), some (.int y269), some (.int (6 : Int32)), some (.int (1 : Int32)), none]) (S' := []) (w' := px_w K s272 t273) (q := []) 2 hM rfl trivial (fun hc277 => ?_) (fun hc277 => ?_)
                        · rw [if_pos hc277] at h
                          refine px_blk (i' := 140) (L' := [some (.ref 28), some (.int u1), some (.int u2), some (.int u3), some (.int m4), some (.int y269), some (.int (6 : Int32)), some (.int (1 : Int32)), none]) (S' := []) (w' := px_w K (sR s272 35 ((s272.1 35) + (1 : Int32))) t273) (q := []) 6 hM rfl trivial ?_
                          obtain ⟨s278, hs279, h⟩ := px_let_some h
                          rw [← hs279]
                          refine px_blk (i' := 8) (L' := [some (.ref 28), some (.int u1), some (.int u2), some (.int u3), some (.int (m4 + (6 : Int32))), some (.int y269), some (.int (6 : Int32)), some (.int (1 : Int32)), none]) (S' := []) (w' := px_w K s278 t273) (q := []) 5 hM rfl trivial ?_
                          exact px_E_le (px_leC_L _ _ (by simp [px_leC, px_le1, Value.category])) (ih (m4 + (6 : Int32)) y269 s278 t273 z h o w2 ha)
                        · rw [if_neg hc277] at h
                          refine px_blkif (c := u2 = 0) (t := 134) (e := 131) (L' := [some (.ref 28), some (.int u1), some (.int u2), some (.int u3), some (.int m4), some (.int y269), some (.int (6 : Int32)), some (.int (1 : Int32)), none]) (S' := []) (w' := px_w K s272 t273) (q := []) 2 hM rfl trivial (fun hc280 => ?_) (fun hc280 => ?_)
                          · rw [if_pos hc280] at h
                            refine px_blk (i' := 140) (L' := [some (.ref 28), some (.int u1), some (.int u2), some (.int u3), some (.int m4), some (.int y269), some (.int (6 : Int32)), some (.int (1 : Int32)), none]) (S' := []) (w' := px_w K (sR s272 35 ((s272.1 35) + (1 : Int32))) t273) (q := []) 6 hM rfl trivial ?_
                            obtain ⟨s281, hs282, h⟩ := px_let_some h
                            rw [← hs282]
                            refine px_blk (i' := 8) (L' := [some (.ref 28), some (.int u1), some (.int u2), some (.int u3), some (.int (m4 + (6 : Int32))), some (.int y269), some (.int (6 : Int32)), some (.int (1 : Int32)), none]) (S' := []) (w' := px_w K s281 t273) (q := []) 5 hM rfl trivial ?_
                            exact px_E_le (px_leC_L _ _ (by simp [px_leC, px_le1, Value.category])) (ih (m4 + (6 : Int32)) y269 s281 t273 z h o w2 ha)
                          · rw [if_neg hc280] at h
                            refine px_blk (i' := 133) (L' := [some (.ref 28), some (.int u1), some (.int u2), some (.int u3), some (.int m4), some (.int y269), some (.int (6 : Int32)), some (.int (1 : Int32)), none]) (S' := [.int (1 : Int32), .ref 28]) (w' := px_w K s272 t273) (q := []) 2 hM rfl trivial ?_
                            rcases px_bv_some h with ⟨s283, t284, hk285, h⟩ | ⟨x287, s283, t284, hk285, h⟩
                            · refine px_E_call hM rfl rfl rfl rfl (px_E_mono (by decide) (e_M_flush_28 K N (1 : Int32) s272 t273 _ hk285)) ?_
                              refine px_blk (i' := 140) (L' := [some (.ref 28), some (.int u1), some (.int u2), some (.int u3), some (.int m4), some (.int y269), some (.int (6 : Int32)), some (.int (1 : Int32)), none]) (S' := []) (w' := px_w K (sR s283 35 ((s283.1 35) + (1 : Int32))) t284) (q := []) 6 hM rfl trivial ?_
                              obtain ⟨s288, hs289, h⟩ := px_let_some h
                              rw [← hs289]
                              refine px_blk (i' := 8) (L' := [some (.ref 28), some (.int u1), some (.int u2), some (.int u3), some (.int (m4 + (6 : Int32))), some (.int y269), some (.int (6 : Int32)), some (.int (1 : Int32)), none]) (S' := []) (w' := px_w K s288 t284) (q := []) 5 hM rfl trivial ?_
                              exact px_E_le (px_leC_L _ _ (by simp [px_leC, px_le1, Value.category])) (ih (m4 + (6 : Int32)) y269 s288 t284 z h o w2 ha)
                            · cases h
                      · cases h
                    · rw [if_neg hc271] at h
                      refine px_blkif (c := u2 = 0) (t := 112) (e := 109) (L' := [some (.ref 28), some (.int u1), some (.int u2), some (.int u3), some (.int m4), some (.int y269), some (.int (6 : Int32)), some (.int (1 : Int32)), none]) (S' := []) (w' := px_w K s265 t266) (q := []) 2 hM rfl trivial (fun hc290 => ?_) (fun hc290 => ?_)
                      · rw [if_pos hc290] at h
                        refine px_blk (i' := 124) (L' := [some (.ref 28), some (.int u1), some (.int u2), some (.int u3), some (.int m4), some (.int y269), some (.int (6 : Int32)), some (.int (1 : Int32)), none]) (S' := [.ref 28, .int ((((25 : Int32) * (s265.1 33)) + (1 : Int32)) + (s265.1 35)), .int (1 : Int32), .ref 28]) (w' := px_w K s265 t266) (q := []) 12 hM rfl trivial ?_
                        refine px_blk (i' := 126) (L' := [some (.ref 28), some (.int u1), some (.int u2), some (.int u3), some (.int m4), some (.int y269), some (.int (6 : Int32)), some (.int (1 : Int32)), none]) (S' := [.int (0 : Int32), .ref 43, .int ((((25 : Int32) * (s265.1 33)) + (1 : Int32)) + (s265.1 35)), .int (1 : Int32), .ref 28]) (w' := px_w K s265 t266) (q := []) 2 hM rfl trivial ?_
                        rcases px_bv_some h with ⟨s291, t292, hk293, h⟩ | ⟨x295, s291, t292, hk293, h⟩
                        · refine px_E_call hM rfl rfl rfl rfl (px_E_mono (by decide) (e_M_write_28_43 K N (1 : Int32) ((((25 : Int32) * (s265.1 33)) + (1 : Int32)) + (s265.1 35)) (0 : Int32) s265 t266 _ hk293)) ?_
                          refine px_blkif (c := (1 : Int32) = 0) (t := 134) (e := 129) (L' := [some (.ref 28), some (.int u1), some (.int u2), some (.int u3), some (.int m4), some (.int y269), some (.int (6 : Int32)), some (.int (1 : Int32)), none]) (S' := []) (w' := px_w K s291 t292) (q := []) 2 hM rfl trivial (fun hc296 => ?_) (fun hc296 => ?_)
                          · rw [if_pos hc296] at h
                            refine px_blk (i' := 140) (L' := [some (.ref 28), some (.int u1), some (.int u2), some (.int u3), some (.int m4), some (.int y269), some (.int (6 : Int32)), some (.int (1 : Int32)), none]) (S' := []) (w' := px_w K (sR s291 35 ((s291.1 35) + (1 : Int32))) t292) (q := []) 6 hM rfl trivial ?_
                            obtain ⟨s297, hs298, h⟩ := px_let_some h
                            rw [← hs298]
                            refine px_blk (i' := 8) (L' := [some (.ref 28), some (.int u1), some (.int u2), some (.int u3), some (.int (m4 + (6 : Int32))), some (.int y269), some (.int (6 : Int32)), some (.int (1 : Int32)), none]) (S' := []) (w' := px_w K s297 t292) (q := []) 5 hM rfl trivial ?_
                            exact px_E_le (px_leC_L _ _ (by simp [px_leC, px_le1, Value.category])) (ih (m4 + (6 : Int32)) y269 s297 t292 z h o w2 ha)
                          · rw [if_neg hc296] at h
                            refine px_blkif (c := u2 = 0) (t := 134) (e := 131) (L' := [some (.ref 28), some (.int u1), some (.int u2), some (.int u3), some (.int m4), some (.int y269), some (.int (6 : Int32)), some (.int (1 : Int32)), none]) (S' := []) (w' := px_w K s291 t292) (q := []) 2 hM rfl trivial (fun hc299 => ?_) (fun hc299 => ?_)
                            · rw [if_pos hc299] at h
                              refine px_blk (i' := 140) (L' := [some (.ref 28), some (.int u1), some (.int u2), some (.int u3), some (.int m4), some (.int y269), some (.int (6 : Int32)), some (.int (1 : Int32)), none]) (S' := []) (w' := px_w K (sR s291 35 ((s291.1 35) + (1 : Int32))) t292) (q := []) 6 hM rfl trivial ?_
                              obtain ⟨s300, hs301, h⟩ := px_let_some h
                              rw [← hs301]
                              refine px_blk (i' := 8) (L' := [some (.ref 28), some (.int u1), some (.int u2), some (.int u3), some (.int (m4 + (6 : Int32))), some (.int y269), some (.int (6 : Int32)), some (.int (1 : Int32)), none]) (S' := []) (w' := px_w K s300 t292) (q := []) 5 hM rfl trivial ?_
                              exact px_E_le (px_leC_L _ _ (by simp [px_leC, px_le1, Value.category])) (ih (m4 + (6 : Int32)) y269 s300 t292 z h o w2 ha)
                            · rw [if_neg hc299] at h
                              refine px_blk (i' := 133) (L' := [some (.ref 28), some (.int u1), some (.int u2), some (.int u3), some (.int m4), some (.int y269), some (.int (6 : Int32)), some (.int (1 : Int32)), none]) (S' := [.int (1 : Int32), .ref 28]) (w' := px_w K s291 t292) (q := []) 2 hM rfl trivial ?_
                              rcases px_bv_some h with ⟨s302, t303, hk304, h⟩ | ⟨x306, s302, t303, hk304, h⟩
                              · refine px_E_call hM rfl rfl rfl rfl (px_E_mono (by decide) (e_M_flush_28 K N (1 : Int32) s291 t292 _ hk304)) ?_
                                refine px_blk (i' := 140) (L' := [some (.ref 28), some (.int u1), some (.int u2), some (.int u3), some (.int m4), some (.int y269), some (.int (6 : Int32)), some (.int (1 : Int32)), none]) (S' := []) (w' := px_w K (sR s302 35 ((s302.1 35) + (1 : Int32))) t303) (q := []) 6 hM rfl trivial ?_
                                obtain ⟨s307, hs308, h⟩ := px_let_some h
                                rw [← hs308]
                                refine px_blk (i' := 8) (L' := [some (.ref 28), some (.int u1), some (.int u2), some (.int u3), some (.int (m4 + (6 : Int32))), some (.int y269), some (.int (6 : Int32)), some (.int (1 : Int32)), none]) (S' := []) (w' := px_w K s307 t303) (q := []) 5 hM rfl trivial ?_
                                exact px_E_le (px_leC_L _ _ (by simp [px_leC, px_le1, Value.category])) (ih (m4 + (6 : Int32)) y269 s307 t303 z h o w2 ha)
                              · cases h
                        · cases h
                      · rw [if_neg hc290] at h
                        refine px_blk (i' := 111) (L' := [some (.ref 28), some (.int u1), some (.int u2), some (.int u3), some (.int m4), some (.int y269), some (.int (6 : Int32)), some (.int (1 : Int32)), none]) (S' := [.int (1 : Int32), .ref 28]) (w' := px_w K s265 t266) (q := []) 2 hM rfl trivial ?_
                        rcases px_bv_some h with ⟨s309, t310, hk311, h⟩ | ⟨x313, s309, t310, hk311, h⟩
                        · refine px_E_call hM rfl rfl rfl rfl (px_E_mono (by decide) (e_M_flush_28 K N (1 : Int32) s265 t266 _ hk311)) ?_
                          refine px_blk (i' := 124) (L' := [some (.ref 28), some (.int u1), some (.int u2), some (.int u3), some (.int m4), some (.int y269), some (.int (6 : Int32)), some (.int (1 : Int32)), none]) (S' := [.ref 28, .int ((((25 : Int32) * (s309.1 33)) + (1 : Int32)) + (s309.1 35)), .int (1 : Int32), .ref 28]) (w' := px_w K s309 t310) (q := []) 12 hM rfl trivial ?_
                          refine px_blk (i' := 126) (L' := [some (.ref 28), some (.int u1), some (.int u2), some (.int u3), some (.int m4), some (.int y269), some (.int (6 : Int32)), some (.int (1 : Int32)), none]) (S' := [.int (0 : Int32), .ref 43, .int ((((25 : Int32) * (s309.1 33)) + (1 : Int32)) + (s309.1 35)), .int (1 : Int32), .ref 28]) (w' := px_w K s309 t310) (q := []) 2 hM rfl trivial ?_
                          rcases px_bv_some h with ⟨s314, t315, hk316, h⟩ | ⟨x318, s314, t315, hk316, h⟩
                          · refine px_E_call hM rfl rfl rfl rfl (px_E_mono (by decide) (e_M_write_28_43 K N (1 : Int32) ((((25 : Int32) * (s309.1 33)) + (1 : Int32)) + (s309.1 35)) (0 : Int32) s309 t310 _ hk316)) ?_
                            refine px_blkif (c := (1 : Int32) = 0) (t := 134) (e := 129) (L' := [some (.ref 28), some (.int u1), some (.int u2), some (.int u3), some (.int m4), some (.int y269), some (.int (6 : Int32)), some (.int (1 : Int32)), none]) (S' := []) (w' := px_w K s314 t315) (q := []) 2 hM rfl trivial (fun hc319 => ?_) (fun hc319 => ?_)
                            · rw [if_pos hc319] at h
                              refine px_blk (i' := 140) (L' := [some (.ref 28), some (.int u1), some (.int u2), some (.int u3), some (.int m4), some (.int y269), some (.int (6 : Int32)), some (.int (1 : Int32)), none]) (S' := []) (w' := px_w K (sR s314 35 ((s314.1 35) + (1 : Int32))) t315) (q := []) 6 hM rfl trivial ?_
                              obtain ⟨s320, hs321, h⟩ := px_let_some h
                              rw [← hs321]
                              refine px_blk (i' := 8) (L' := [some (.ref 28), some (.int u1), some (.int u2), some (.int u3), some (.int (m4 + (6 : Int32))), some (.int y269), some (.int (6 : Int32)), some (.int (1 : Int32)), none]) (S' := []) (w' := px_w K s320 t315) (q := []) 5 hM rfl trivial ?_
                              exact px_E_le (px_leC_L _ _ (by simp [px_leC, px_le1, Value.category])) (ih (m4 + (6 : Int32)) y269 s320 t315 z h o w2 ha)
                            · rw [if_neg hc319] at h
                              refine px_blkif (c := u2 = 0) (t := 134) (e := 131) (L' := [some (.ref 28), some (.int u1), some (.int u2), some (.int u3), some (.int m4), some (.int y269), some (.int (6 : Int32)), some (.int (1 : Int32)), none]) (S' := []) (w' := px_w K s314 t315) (q := []) 2 hM rfl trivial (fun hc322 => ?_) (fun hc322 => ?_)
                              · rw [if_pos hc322] at h
                                refine px_blk (i' := 140) (L' := [some (.ref 28), some (.int u1), some (.int u2), some (.int u3), some (.int m4), some (.int y269), some (.int (6 : Int32)), some (.int (1 : Int32)), none]) (S' := []) (w' := px_w K (sR s314 35 ((s314.1 35) + (1 : Int32))) t315) (q := []) 6 hM rfl trivial ?_
                                obtain ⟨s323, hs324, h⟩ := px_let_some h
                                rw [← hs324]
                                refine px_blk (i' := 8) (L' := [some (.ref 28), some (.int u1), some (.int u2), some (.int u3), some (.int (m4 + (6 : Int32))), some (.int y269), some (.int (6 : Int32)), some (.int (1 : Int32)), none]) (S' := []) (w' := px_w K s323 t315) (q := []) 5 hM rfl trivial ?_
                                exact px_E_le (px_leC_L _ _ (by simp [px_leC, px_le1, Value.category])) (ih (m4 + (6 : Int32)) y269 s323 t315 z h o w2 ha)
                              · rw [if_neg hc322] at h
                                refine px_blk (i' := 133) (L' := [some (.ref 28), some (.int u1), some (.int u2), some (.int u3), some (.int m4), some (.int y269), some (.int (6 : Int32)), some (.int (1 : Int32)), none]) (S' := [.int (1 : Int32), .ref 28]) (w' := px_w K s314 t315) (q := []) 2 hM rfl trivial ?_
                                rcases px_bv_some h with ⟨s325, t326, hk327, h⟩ | ⟨x329, s325, t326, hk327, h⟩
                                · refine px_E_call hM rfl rfl rfl rfl (px_E_mono (by decide) (e_M_flush_28 K N (1 : Int32) s314 t315 _ hk327)) ?_
                                  refine px_blk (i' := 140) (L' := [some (.ref 28), some (.int u1), some (.int u2), some (.int u3), some (.int m4), some (.int y269), some (.int (6 : Int32)), some (.int (1 : Int32)), none]) (S' := []) (w' := px_w K (sR s325 35 ((s325.1 35) + (1 : Int32))) t326) (q := []) 6 hM rfl trivial ?_
                                  obtain ⟨s330, hs331, h⟩ := px_let_some h
                                  rw [← hs331]
                                  refine px_blk (i' := 8) (L' := [some (.ref 28), some (.int u1), some (.int u2), some (.int u3), some (.int (m4 + (6 : Int32))), some (.int y269), some (.int (6 : Int32)), some (.int (1 : Int32)), none]) (S' := []) (w' := px_w K s330 t326) (q := []) 5 hM rfl trivial ?_
                                  exact px_E_le (px_leC_L _ _ (by simp [px_leC, px_le1, Value.category])) (ih (m4 + (6 : Int32)) y269 s330 t326 z h o w2 ha)
                                · cases h
                          · cases h
                        · cases h
                  · rw [if_neg hi270] at h
                    cases h
                · cases h
                  obtain ⟨rfl, rfl⟩ := ha
                  exact e_l_M_records_28_70 K N u1 u2 u3 m4 (6 : Int32) (1 : Int32) N m5 (0 : Int32) s261 t171 _ hl267 _ _ ⟨rfl, rfl⟩
            · rw [if_neg hi174] at h
              cases h
          · cases h
            obtain ⟨rfl, rfl⟩ := ha
            exact e_l_M_records_28_33 K N u1 u2 u3 m4 m5 (6 : Int32) (1 : Int32) N (4 : Int32) s t _ hl172 _ _ ⟨rfl, rfl⟩
      · rw [if_neg hc2] at h
        refine px_blkif (c := ¬ (m4 + (u3 - m4)) = u3) (t := 29) (e := 27) (L' := [some (.ref 28), some (.int u1), some (.int u2), some (.int u3), some (.int m4), some (.int m5), some (.int (u3 - m4)), none, none]) (S' := []) (w' := px_w K s t) (q := []) 10 hM rfl trivial (fun hc332 => ?_) (fun hc332 => ?_)
        · rw [if_pos hc332] at h
          refine px_blk (i' := 33) (L' := [some (.ref 28), some (.int u1), some (.int u2), some (.int u3), some (.int m4), some (.int m5), some (.int (u3 - m4)), some (.int (0 : Int32)), some (.int (4 : Int32))]) (S' := []) (w' := px_w K s t) (q := []) 4 hM rfl trivial ?_
          rcases px_lp_some h with ⟨i333, vs334, s335, t336, hl337, h⟩ | ⟨z338, hl337, h⟩
          · by_cases hi339 : i333 = 43
            · subst hi339
              rw [if_pos rfl] at h
              have h9 := px_v0_some h
              clear h
              obtain ⟨rfl, h⟩ := h9
              refine e_l_M_records_28_33 K N u1 u2 u3 m4 m5 (u3 - m4) (0 : Int32) N (4 : Int32) s t _ hl337 _ _ ?_
              show px_E px_ET px_P 6 44 43 [some (.ref 28), some (.int u1), some (.int u2), some (.int u3), some (.int m4), some (.int m5), some (.int (u3 - m4)), some (.int (0 : Int32)), none] [] (px_w K s335 t336) _ _
              obtain ⟨hq340, h⟩ := px_gd_some h
              refine px_blk (i' := 49) (L' := [some (.ref 28), some (.int u1), some (.int u2), some (.int u3), some (.int m4), some (.int m5), some (.int (u3 - m4)), some (.int (0 : Int32)), none]) (S' := []) (w' := px_w K (sA s335 43 (0 : Int32).toNatClampNeg (s335.1 34)) t336) (q := [vp_in (0 : Int32) (K.2.2 43)]) 6 hM rfl (show vp_in (0 : Int32) (K.2.2 43) from hq340) ?_
              obtain ⟨s341, hs342, h⟩ := px_let_some h
              rw [← hs342]
              obtain ⟨hq343, h⟩ := px_gd_some h
              refine px_blk (i' := 54) (L' := [some (.ref 28), some (.int u1), some (.int u2), some (.int u3), some (.int m4), some (.int m5), some (.int (u3 - m4)), some (.int (0 : Int32)), none]) (S' := []) (w' := px_w K (sA s341 43 (1 : Int32).toNatClampNeg u1) t336) (q := [vp_in (1 : Int32) (K.2.2 43)]) 5 hM rfl (show vp_in (1 : Int32) (K.2.2 43) from hq343) ?_
              obtain ⟨s344, hs345, h⟩ := px_let_some h
              rw [← hs345]
              refine px_blkif (c := (0 : Int32) = 0) (t := 61) (e := 59) (L' := [some (.ref 28), some (.int u1), some (.int u2), some (.int u3), some (.int m4), some (.int m5), some (.int (u3 - m4)), some (.int (0 : Int32)), none]) (S' := [.int (2 : Int32), .ref 43]) (w' := px_w K s344 t336) (q := []) 5 hM rfl trivial (fun hc346 => ?_) (fun hc346 => ?_)
              · rw [if_pos hc346] at h
                obtain ⟨hq347, h⟩ := px_gd_some h
                refine px_blk (i' := 63) (L' := [some (.ref 28), some (.int u1), some (.int u2), some (.int u3), some (.int m4), some (.int m5), some (.int (u3 - m4)), some (.int (0 : Int32)), none]) (S' := []) (w' := px_w K (sA s344 43 (2 : Int32).toNatClampNeg (0 : Int32)) t336) (q := [vp_in (2 : Int32) (K.2.2 43)]) 2 hM rfl (show vp_in (2 : Int32) (K.2.2 43) from hq347) ?_
                obtain ⟨s348, hs349, h⟩ := px_let_some h
                rw [← hs349]
                obtain ⟨hq350, h⟩ := px_gd_some h
                refine px_blk (i' := 68) (L' := [some (.ref 28), some (.int u1), some (.int u2), some (.int u3), some (.int m4), some (.int m5), some (.int (u3 - m4)), some (.int (0 : Int32)), none]) (S' := []) (w' := px_w K (sA s348 43 (3 : Int32).toNatClampNeg (u3 - m4)) t336) (q := [vp_in (3 : Int32) (K.2.2 43)]) 5 hM rfl (show vp_in (3 : Int32) (K.2.2 43) from hq350) ?_
                obtain ⟨s351, hs352, h⟩ := px_let_some h
                rw [← hs352]
                refine px_blk (i' := 70) (L' := [some (.ref 28), some (.int u1), some (.int u2), some (.int u3), some (.int m4), some (.int m5), some (.int (u3 - m4)), some (.int (0 : Int32)), some (.int (0 : Int32))]) (S' := []) (w' := px_w K s351 t336) (q := []) 2 hM rfl trivial ?_
                rcases px_lp_some h with ⟨i353, vs354, s355, t356, hl357, h⟩ | ⟨z358, hl357, h⟩
                · by_cases hi360 : i353 = 105
                  · subst hi360
                    rw [if_pos rfl] at h
                    have h9 := px_v1_some h
                    clear h
                    obtain ⟨y359, rfl, h⟩ := h9
                    refine e_l_M_records_28_70 K N u1 u2 u3 m4 (u3 - m4) (0 : Int32) N m5 (0 : Int32) s351 t336 _ hl357 _ _ ?_
                    show px_E px_ET px_P 6 44 105 [some (.ref 28), some (.int u1), some (.int u2), some (.int u3), some (.int m4), some (.int y359), some (.int (u3 - m4)), some (.int (0 : Int32)), none] [] (px_w K s355 t356) _ _
                    refine px_blkif (c := (0 : Int32) = 0) (t := 112) (e := 107) (L' := [some (.ref 28), some (.int u1), some (.int u2), some (.int u3), some (.int m4), some (.int y359), some (.int (u3 - m4)), some (.int (0 : Int32)), none]) (S' := []) (w' := px_w K s355 t356) (q := []) 2 hM rfl trivial (fun hc361 => ?_) (fun hc361 => ?_)
                    · rw [if_pos hc361] at h
                      refine px_blk (i' := 124) (L' := [some (.ref 28), some (.int u1), some (.int u2), some (.int u3), some (.int m4), some (.int y359), some (.int (u3 - m4)), some (.int (0 : Int32)), none]) (S' := [.ref 28, .int ((((25 : Int32) * (s355.1 33)) + (1 : Int32)) + (s355.1 35)), .int (1 : Int32), .ref 28]) (w' := px_w K s355 t356) (q := []) 12 hM rfl trivial ?_
                      refine px_blk (i' := 126) (L' := [some (.ref 28), some (.int u1), some (.int u2), some (.int u3), some (.int m4), some (.int y359), some (.int (u3 - m4)), some (.int (0 : Int32)), none]) (S' := [.int (0 : Int32), .ref 43, .int ((((25 : Int32) * (s355.1 33)) + (1 : Int32)) + (s355.1 35)), .int (1 : Int32), .ref 28]) (w' := px_w K s355 t356) (q := []) 2 hM rfl trivial ?_
                      rcases px_bv_some h with ⟨s362, t363, hk364, h⟩ | ⟨x366, s362, t363, hk364, h⟩
                      · refine px_E_call hM rfl rfl rfl rfl (px_E_mono (by decide) (e_M_write_28_43 K N (1 : Int32) ((((25 : Int32) * (s355.1 33)) + (1 : Int32)) + (s355.1 35)) (0 : Int32) s355 t356 _ hk364)) ?_
                        refine px_blkif (c := (0 : Int32) = 0) (t := 134) (e := 129) (L' := [some (.ref 28), some (.int u1), some (.int u2), some (.int u3), some (.int m4), some (.int y359), some (.int (u3 - m4)), some (.int (0 : Int32)), none]) (S' := []) (w' := px_w K s362 t363) (q := []) 2 hM rfl trivial (fun hc367 => ?_) (fun hc367 => ?_)
                        · rw [if_pos hc367] at h
                          refine px_blk (i' := 140) (L' := [some (.ref 28), some (.int u1), some (.int u2), some (.int u3), some (.int m4), some (.int y359), some (.int (u3 - m4)), some (.int (0 : Int32)), none]) (S' := []) (w' := px_w K (sR s362 35 ((s362.1 35) + (1 : Int32))) t363) (q := []) 6 hM rfl trivial ?_
                          obtain ⟨s368, hs369, h⟩ := px_let_some h
                          rw [← hs369]
                          refine px_blk (i' := 8) (L' := [some (.ref 28), some (.int u1), some (.int u2), some (.int u3), some (.int (m4 + (u3 - m4))), some (.int y359), some (.int (u3 - m4)), some (.int (0 : Int32)), none]) (S' := []) (w' := px_w K s368 t363) (q := []) 5 hM rfl trivial ?_
                          exact px_E_le (px_leC_L _ _ (by simp [px_leC, px_le1, Value.category])) (ih (m4 + (u3 - m4)) y359 s368 t363 z h o w2 ha)
                        · rw [if_neg hc367] at h
                          refine px_blkif (c := u2 = 0) (t := 134) (e := 131) (L' := [some (.ref 28), some (.int u1), some (.int u2), some (.int u3), some (.int m4), some (.int y359), some (.int (u3 - m4)), some (.int (0 : Int32)), none]) (S' := []) (w' := px_w K s362 t363) (q := []) 2 hM rfl trivial (fun hc370 => ?_) (fun hc370 => ?_)
                          · rw [if_pos hc370] at h
                            refine px_blk (i' := 140) (L' := [some (.ref 28), some (.int u1), some (.int u2), some (.int u3), some (.int m4), some (.int y359), some (.int (u3 - m4)), some (.int (0 : Int32)), none]) (S' := []) (w' := px_w K (sR s362 35 ((s362.1 35) + (1 : Int32))) t363) (q := []) 6 hM rfl trivial ?_
                            obtain ⟨s371, hs372, h⟩ := px_let_some h
                            rw [← hs372]
                            refine px_blk (i' := 8) (L' := [some (.ref 28), some (.int u1), some (.int u2), some (.int u3), some (.int (m4 + (u3 - m4))), some (.int y359), some (.int (u3 - m4)), some (.int (0 : Int32)), none]) (S' := []) (w' := px_w K s371 t363) (q := []) 5 hM rfl trivial ?_
                            exact px_E_le (px_leC_L _ _ (by simp [px_leC, px_le1, Value.category])) (ih (m4 + (u3 - m4)) y359 s371 t363 z h o w2 ha)
                          · rw [if_neg hc370] at h
                            refine px_blk (i' := 133) (L' := [some (.ref 28), some (.int u1), some (.int u2), some (.int u3), some (.int m4), some (.int y359), some (.int (u3 - m4)), some (.int (0 : Int32)), none]) (S' := [.int (1 : Int32), .ref 28]) (w' := px_w K s362 t363) (q := []) 2 hM rfl trivial ?_
                            rcases px_bv_some h with ⟨s373, t374, hk375, h⟩ | ⟨x377, s373, t374, hk375, h⟩
                            · refine px_E_call hM rfl rfl rfl rfl (px_E_mono (by decide) (e_M_flush_28 K N (1 : Int32) s362 t363 _ hk375)) ?_
                              refine px_blk (i' := 140) (L' := [some (.ref 28), some (.int u1), some (.int u2), some (.int u3), some (.int m4), some (.int y359), some (.int (u3 - m4)), some (.int (0 : Int32)), none]) (S' := []) (w' := px_w K (sR s373 35 ((s373.1 35) + (1 : Int32))) t374) (q := []) 6 hM rfl trivial ?_
                              obtain ⟨s378, hs379, h⟩ := px_let_some h
                              rw [← hs379]
                              refine px_blk (i' := 8) (L' := [some (.ref 28), some (.int u1), some (.int u2), some (.int u3), some (.int (m4 + (u3 - m4))), some (.int y359), some (.int (u3 - m4)), some (.int (0 : Int32)), none]) (S' := []) (w' := px_w K s378 t374) (q := []) 5 hM rfl trivial ?_
                              exact px_E_le (px_leC_L _ _ (by simp [px_leC, px_le1, Value.category])) (ih (m4 + (u3 - m4)) y359 s378 t374 z h o w2 ha)
                            · cases h
                      · cases h
                    · rw [if_neg hc361] at h
                      refine px_blkif (c := u2 = 0) (t := 112) (e := 109) (L' := [some (.ref 28), some (.int u1), some (.int u2), some (.int u3), some (.int m4), some (.int y359), some (.int (u3 - m4)), some (.int (0 : Int32)), none]) (S' := []) (w' := px_w K s355 t356) (q := []) 2 hM rfl trivial (fun hc380 => ?_) (fun hc380 => ?_)
                      · rw [if_pos hc380] at h
                        refine px_blk (i' := 124) (L' := [some (.ref 28), some (.int u1), some (.int u2), some (.int u3), some (.int m4), some (.int y359), some (.int (u3 - m4)), some (.int (0 : Int32)), none]) (S' := [.ref 28, .int ((((25 : Int32) * (s355.1 33)) + (1 : Int32)) + (s355.1 35)), .int (1 : Int32), .ref 28]) (w' := px_w K s355 t356) (q := []) 12 hM rfl trivial ?_
                        refine px_blk (i' := 126) (L' := [some (.ref 28), some (.int u1), some (.int u2), some (.int u3), some (.int m4), some (.int y359), some (.int (u3 - m4)), some (.int (0 : Int32)), none]) (S' := [.int (0 : Int32), .ref 43, .int ((((25 : Int32) * (s355.1 33)) + (1 : Int32)) + (s355.1 35)), .int (1 : Int32), .ref 28]) (w' := px_w K s355 t356) (q := []) 2 hM rfl trivial ?_
                        rcases px_bv_some h with ⟨s381, t382, hk383, h⟩ | ⟨x385, s381, t382, hk383, h⟩
                        · refine px_E_call hM rfl rfl rfl rfl (px_E_mono (by decide) (e_M_write_28_43 K N (1 : Int32) ((((25 : Int32) * (s355.1 33)) + (1 : Int32)) + (s355.1 35)) (0 : Int32) s355 t356 _ hk383)) ?_
                          refine px_blkif (c := (0 : Int32) = 0) (t := 134) (e := 129) (L' := [some (.ref 28), some (.int u1), some (.int u2), some (.int u3), some (.int m4), some (.int y359), some (.int (u3 - m4)), some (.int (0 : Int32)), none]) (S' := []) (w' := px_w K s381 t382) (q := []) 2 hM rfl trivial (fun hc386 => ?_) (fun hc386 => ?_)
                          · rw [if_pos hc386] at h
                            refine px_blk (i' := 140) (L' := [some (.ref 28), some (.int u1), some (.int u2), some (.int u3), some (.int m4), some (.int y359), some (.int (u3 - m4)), some (.int (0 : Int32)), none]) (S' := []) (w' := px_w K (sR s381 35 ((s381.1 35) + (1 : Int32))) t382) (q := []) 6 hM rfl trivial ?_
                            obtain ⟨s387, hs388, h⟩ := px_let_some h
                            rw [← hs388]
                            refine px_blk (i' := 8) (L' := [some (.ref 28), some (.int u1), some (.int u2), some (.int u3), some (.int (m4 + (u3 - m4))), some (.int y359), some (.int (u3 - m4)), some (.int (0 : Int32)), none]) (S' := []) (w' := px_w K s387 t382) (q := []) 5 hM rfl trivial ?_
                            exact px_E_le (px_leC_L _ _ (by simp [px_leC, px_le1, Value.category])) (ih (m4 + (u3 - m4)) y359 s387 t382 z h o w2 ha)
                          · rw [if_neg hc386] at h
                            refine px_blkif (c := u2 = 0) (t := 134) (e := 131) (L' := [some (.ref 28), some (.int u1), some (.int u2), some (.int u3), some (.int m4), some (.int y359), some (.int (u3 - m4)), some (.int (0 : Int32)), none]) (S' := []) (w' := px_w K s381 t382) (q := []) 2 hM rfl trivial (fun hc389 => ?_) (fun hc389 => ?_)
                            · rw [if_pos hc389] at h
                              refine px_blk (i' := 140) (L' := [some (.ref 28), some (.int u1), some (.int u2), some (.int u3), some (.int m4), some (.int y359), some (.int (u3 - m4)), some (.int (0 : Int32)), none]) (S' := []) (w' := px_w K (sR s381 35 ((s381.1 35) + (1 : Int32))) t382) (q := []) 6 hM rfl trivial ?_
                              obtain ⟨s390, hs391, h⟩ := px_let_some h
                              rw [← hs391]
                              refine px_blk (i' := 8) (L' := [some (.ref 28), some (.int u1), some (.int u2), some (.int u3), some (.int (m4 + (u3 - m4))), some (.int y359), some (.int (u3 - m4)), some (.int (0 : Int32)), none]) (S' := []) (w' := px_w K s390 t382) (q := []) 5 hM rfl trivial ?_
                              exact px_E_le (px_leC_L _ _ (by simp [px_leC, px_le1, Value.category])) (ih (m4 + (u3 - m4)) y359 s390 t382 z h o w2 ha)
                            · rw [if_neg hc389] at h
                              refine px_blk (i' := 133) (L' := [some (.ref 28), some (.int u1), some (.int u2), some (.int u3), some (.int m4), some (.int y359), some (.int (u3 - m4)), some (.int (0 : Int32)), none]) (S' := [.int (1 : Int32), .ref 28]) (w' := px_w K s381 t382) (q := []) 2 hM rfl trivial ?_
                              rcases px_bv_some h with ⟨s392, t393, hk394, h⟩ | ⟨x396, s392, t393, hk394, h⟩
                              · refine px_E_call hM rfl rfl rfl rfl (px_E_mono (by decide) (e_M_flush_28 K N (1 : Int32) s381 t382 _ hk394)) ?_
                                refine px_blk (i' := 140) (L' := [some (.ref 28), some (.int u1), some (.int u2), some (.int u3), some (.int m4), some (.int y359), some (.int (u3 - m4)), some (.int (0 : Int32)), none]) (S' := []) (w' := px_w K (sR s392 35 ((s392.1 35) + (1 : Int32))) t393) (q := []) 6 hM rfl trivial ?_
                                obtain ⟨s397, hs398, h⟩ := px_let_some h
                                rw [← hs398]
                                refine px_blk (i' := 8) (L' := [some (.ref 28), some (.int u1), some (.int u2), some (.int u3), some (.int (m4 + (u3 - m4))), some (.int y359), some (.int (u3 - m4)), some (.int (0 : Int32)), none]) (S' := []) (w' := px_w K s397 t393) (q := []) 5 hM rfl trivial ?_
                                exact px_E_le (px_leC_L _ _ (by simp [px_leC, px_le1, Value.category])) (ih (m4 + (u3 - m4)) y359 s397 t393 z h o w2 ha)
                              · cases h
                        · cases h
                      · rw [if_neg hc380] at h
                        refine px_blk (i' := 111) (L' := [some (.ref 28), some (.int u1), some (.int u2), some (.int u3), some (.int m4), some (.int y359), some (.int (u3 - m4)), some (.int (0 : Int32)), none]) (S' := [.int (1 : Int32), .ref 28]) (w' := px_w K s355 t356) (q := []) 2 hM rfl trivial ?_
                        rcases px_bv_some h with ⟨s399, t400, hk401, h⟩ | ⟨x403, s399, t400, hk401, h⟩
                        · refine px_E_call hM rfl rfl rfl rfl (px_E_mono (by decide) (e_M_flush_28 K N (1 : Int32) s355 t356 _ hk401)) ?_
                          refine px_blk (i' := 124) (L' := [some (.ref 28), some (.int u1), some (.int u2), some (.int u3), some (.int m4), some (.int y359), some (.int (u3 - m4)), some (.int (0 : Int32)), none]) (S' := [.ref 28, .int ((((25 : Int32) * (s399.1 33)) + (1 : Int32)) + (s399.1 35)), .int (1 : Int32), .ref 28]) (w' := px_w K s399 t400) (q := []) 12 hM rfl trivial ?_
                          refine px_blk (i' := 126) (L' := [some (.ref 28), some (.int u1), some (.int u2), some (.int u3), some (.int m4), some (.int y359), some (.int (u3 - m4)), some (.int (0 : Int32)), none]) (S' := [.int (0 : Int32), .ref 43, .int ((((25 : Int32) * (s399.1 33)) + (1 : Int32)) + (s399.1 35)), .int (1 : Int32), .ref 28]) (w' := px_w K s399 t400) (q := []) 2 hM rfl trivial ?_
                          rcases px_bv_some h with ⟨s404, t405, hk406, h⟩ | ⟨x408, s404, t405, hk406, h⟩
                          · refine px_E_call hM rfl rfl rfl rfl (px_E_mono (by decide) (e_M_write_28_43 K N (1 : Int32) ((((25 : Int32) * (s399.1 33)) + (1 : Int32)) + (s399.1 35)) (0 : Int32) s399 t400 _ hk406)) ?_
                            refine px_blkif (c := (0 : Int32) = 0) (t := 134) (e := 129) (L' := [some (.ref 28), some (.int u1), some (.int u2), some (.int u3), some (.int m4), some (.int y359), some (.int (u3 - m4)), some (.int (0 : Int32)), none]) (S' := []) (w' := px_w K s404 t405) (q := []) 2 hM rfl trivial (fun hc409 => ?_) (fun hc409 => ?_)
                            · rw [if_pos hc409] at h
                              refine px_blk (i' := 140) (L' := [some (.ref 28), some (.int u1), some (.int u2), some (.int u3), some (.int m4), some (.int y359), some (.int (u3 - m4)), some (.int (0 : Int32)), none]) (S' := []) (w' := px_w K (sR s404 35 ((s404.1 35) + (1 : Int32))) t405) (q := []) 6 hM rfl trivial ?_
                              obtain ⟨s410, hs411, h⟩ := px_let_some h
                              rw [← hs411]
                              refine px_blk (i' := 8) (L' := [some (.ref 28), some (.int u1), some (.int u2), some (.int u3), some (.int (m4 + (u3 - m4))), some (.int y359), some (.int (u3 - m4)), some (.int (0 : Int32)), none]) (S' := []) (w' := px_w K s410 t405) (q := []) 5 hM rfl trivial ?_
                              exact px_E_le (px_leC_L _ _ (by simp [px_leC, px_le1, Value.category])) (ih (m4 + (u3 - m4)) y359 s410 t405 z h o w2 ha)
                            · rw [if_neg hc409] at h
                              refine px_blkif (c := u2 = 0) (t := 134) (e := 131) (L' := [some (.ref 28), some (.int u1), some (.int u2), some (.int u3), some (.int m4), some (.int y359), some (.int (u3 - m4)), some (.int (0 : Int32)), none]) (S' := []) (w' := px_w K s404 t405) (q := []) 2 hM rfl trivial (fun hc412 => ?_) (fun hc412 => ?_)
                              · rw [if_pos hc412] at h
                                refine px_blk (i' := 140) (L' := [some (.ref 28), some (.int u1), some (.int u2), some (.int u3), some (.int m4), some (.int y359), some (.int (u3 - m4)), some (.int (0 : Int32)), none]) (S' := []) (w' := px_w K (sR s404 35 ((s404.1 35) + (1 : Int32))) t405) (q := []) 6 hM rfl trivial ?_
                                obtain ⟨s413, hs414, h⟩ := px_let_some h
                                rw [← hs414]
                                refine px_blk (i' := 8) (L' := [some (.ref 28), some (.int u1), some (.int u2), some (.int u3), some (.int (m4 + (u3 - m4))), some (.int y359), some (.int (u3 - m4)), some (.int (0 : Int32)), none]) (S' := []) (w' := px_w K s413 t405) (q := []) 5 hM rfl trivial ?_
                                exact px_E_le (px_leC_L _ _ (by simp [px_leC, px_le1, Value.category])) (ih (m4 + (u3 - m4)) y359 s413 t405 z h o w2 ha)
                              · rw [if_neg hc412] at h
                                refine px_blk (i' := 133) (L' := [some (.ref 28), some (.int u1), some (.int u2), some (.int u3), some (.int m4), some (.int y359), some (.int (u3 - m4)), some (.int (0 : Int32)), none]) (S' := [.int (1 : Int32), .ref 28]) (w' := px_w K s404 t405) (q := []) 2 hM rfl trivial ?_
                                rcases px_bv_some h with ⟨s415, t416, hk417, h⟩ | ⟨x419, s415, t416, hk417, h⟩
                                · refine px_E_call hM rfl rfl rfl rfl (px_E_mono (by decide) (e_M_flush_28 K N (1 : Int32) s404 t405 _ hk417)) ?_
                                  refine px_blk (i' := 140) (L' := [some (.ref 28), some (.int u1), some (.int u2), some (.int u3), some (.int m4), some (.int y359), some (.int (u3 - m4)), some (.int (0 : Int32)), none]) (S' := []) (w' := px_w K (sR s415 35 ((s415.1 35) + (1 : Int32))) t416) (q := []) 6 hM rfl trivial ?_
                                  obtain ⟨s420, hs421, h⟩ := px_let_some h
                                  rw [← hs421]
                                  refine px_blk (i' := 8) (L' := [some (.ref 28), some (.int u1), some (.int u2), some (.int u3), some (.int (m4 + (u3 - m4))), some (.int y359), some (.int (u3 - m4)), some (.int (0 : Int32)), none]) (S' := []) (w' := px_w K s420 t416) (q := []) 5 hM rfl trivial ?_
                                  exact px_E_le (px_leC_L _ _ (by simp [px_leC, px_le1, Value.category])) (ih (m4 + (u3 - m4)) y359 s420 t416 z h o w2 ha)
                                · cases h
                          · cases h
                        · cases h
                  · rw [if_neg hi360] at h
                    cases h
                · cases h
                  obtain ⟨rfl, rfl⟩ := ha
                  exact e_l_M_records_28_70 K N u1 u2 u3 m4 (u3 - m4) (0 : Int32) N m5 (0 : Int32) s351 t336 _ hl357 _ _ ⟨rfl, rfl⟩
              · rw [if_neg hc346] at h
                obtain ⟨hq422, h⟩ := px_gd_some h
                refine px_blk (i' := 63) (L' := [some (.ref 28), some (.int u1), some (.int u2), some (.int u3), some (.int m4), some (.int m5), some (.int (u3 - m4)), some (.int (0 : Int32)), none]) (S' := []) (w' := px_w K (sA s344 43 (2 : Int32).toNatClampNeg (1 : Int32)) t336) (q := [vp_in (2 : Int32) (K.2.2 43)]) 3 hM rfl (show vp_in (2 : Int32) (K.2.2 43) from hq422) ?_
                obtain ⟨s423, hs424, h⟩ := px_let_some h
                rw [← hs424]
                obtain ⟨hq425, h⟩ := px_gd_some h
                refine px_blk (i' := 68) (L' := [some (.ref 28), some (.int u1), some (.int u2), some (.int u3), some (.int m4), some (.int m5), some (.int (u3 - m4)), some (.int (0 : Int32)), none]) (S' := []) (w' := px_w K (sA s423 43 (3 : Int32).toNatClampNeg (u3 - m4)) t336) (q := [vp_in (3 : Int32) (K.2.2 43)]) 5 hM rfl (show vp_in (3 : Int32) (K.2.2 43) from hq425) ?_
                obtain ⟨s426, hs427, h⟩ := px_let_some h
                rw [← hs427]
                refine px_blk (i' := 70) (L' := [some (.ref 28), some (.int u1), some (.int u2), some (.int u3), some (.int m4), some (.int m5), some (.int (u3 - m4)), some (.int (0 : Int32)), some (.int (0 : Int32))]) (S' := []) (w' := px_w K s426 t336) (q := []) 2 hM rfl trivial ?_
                rcases px_lp_some h with ⟨i428, vs429, s430, t431, hl432, h⟩ | ⟨z433, hl432, h⟩
                · by_cases hi435 : i428 = 105
                  · subst hi435
                    rw [if_pos rfl] at h
                    have h9 := px_v1_some h
                    clear h
                    obtain ⟨y434, rfl, h⟩ := h9
                    refine e_l_M_records_28_70 K N u1 u2 u3 m4 (u3 - m4) (0 : Int32) N m5 (0 : Int32) s426 t336 _ hl432 _ _ ?_
                    show px_E px_ET px_P 6 44 105 [some (.ref 28), some (.int u1), some (.int u2), some (.int u3), some (.int m4), some (.int y434), some (.int (u3 - m4)), some (.int (0 : Int32)), none] [] (px_w K s430 t431) _ _
                    refine px_blkif (c := (0 : Int32) = 0) (t := 112) (e := 107) (L' := [some (.ref 28), some (.int u1), some (.int u2), some (.int u3), some (.int m4), some (.int y434), some (.int (u3 - m4)), some (.int (0 : Int32)), none]) (S' := []) (w' := px_w K s430 t431) (q := []) 2 hM rfl trivial (fun hc436 => ?_) (fun hc436 => ?_)
                    · rw [if_pos hc436] at h
                      refine px_blk (i' := 124) (L' := [some (.ref 28), some (.int u1), some (.int u2), some (.int u3), some (.int m4), some (.int y434), some (.int (u3 - m4)), some (.int (0 : Int32)), none]) (S' := [.ref 28, .int ((((25 : Int32) * (s430.1 33)) + (1 : Int32)) + (s430.1 35)), .int (1 : Int32), .ref 28]) (w' := px_w K s430 t431) (q := []) 12 hM rfl trivial ?_
                      refine px_blk (i' := 126) (L' := [some (.ref 28), some (.int u1), some (.int u2), some (.int u3), some (.int m4), some (.int y434), some (.int (u3 - m4)), some (.int (0 : Int32)), none]) (S' := [.int (0 : Int32), .ref 43, .int ((((25 : Int32) * (s430.1 33)) + (1 : Int32)) + (s430.1 35)), .int (1 : Int32), .ref 28]) (w' := px_w K s430 t431) (q := []) 2 hM rfl trivial ?_
                      rcases px_bv_some h with ⟨s437, t438, hk439, h⟩ | ⟨x441, s437, t438, hk439, h⟩
                      · refine px_E_call hM rfl rfl rfl rfl (px_E_mono (by decide) (e_M_write_28_43 K N (1 : Int32) ((((25 : Int32) * (s430.1 33)) + (1 : Int32)) + (s430.1 35)) (0 : Int32) s430 t431 _ hk439)) ?_
                        refine px_blkif (c := (0 : Int32) = 0) (t := 134) (e := 129) (L' := [some (.ref 28), some (.int u1), some (.int u2), some (.int u3), some (.int m4), some (.int y434), some (.int (u3 - m4)), some (.int (0 : Int32)), none]) (S' := []) (w' := px_w K s437 t438) (q := []) 2 hM rfl trivial (fun hc442 => ?_) (fun hc442 => ?_)
                        · rw [if_pos hc442] at h
                          refine px_blk (i' := 140) (L' := [some (.ref 28), some (.int u1), some (.int u2), some (.int u3), some (.int m4), some (.int y434), some (.int (u3 - m4)), some (.int (0 : Int32)), none]) (S' := []) (w' := px_w K (sR s437 35 ((s437.1 35) + (1 : Int32))) t438) (q := []) 6 hM rfl trivial ?_
                          obtain ⟨s443, hs444, h⟩ := px_let_some h
                          rw [← hs444]
                          refine px_blk (i' := 8) (L' := [some (.ref 28), some (.int u1), some (.int u2), some (.int u3), some (.int (m4 + (u3 - m4))), some (.int y434), some (.int (u3 - m4)), some (.int (0 : Int32)), none]) (S' := []) (w' := px_w K s443 t438) (q := []) 5 hM rfl trivial ?_
                          exact px_E_le (px_leC_L _ _ (by simp [px_leC, px_le1, Value.category])) (ih (m4 + (u3 - m4)) y434 s443 t438 z h o w2 ha)
                        · rw [if_neg hc442] at h
                          refine px_blkif (c := u2 = 0) (t := 134) (e := 131) (L' := [some (.ref 28), some (.int u1), some (.int u2), some (.int u3), some (.int m4), some (.int y434), some (.int (u3 - m4)), some (.int (0 : Int32)), none]) (S' := []) (w' := px_w K s437 t438) (q := []) 2 hM rfl trivial (fun hc445 => ?_) (fun hc445 => ?_)
                          · rw [if_pos hc445] at h
                            refine px_blk (i' := 140) (L' := [some (.ref 28), some (.int u1), some (.int u2), some (.int u3), some (.int m4), some (.int y434), some (.int (u3 - m4)), some (.int (0 : Int32)), none]) (S' := []) (w' := px_w K (sR s437 35 ((s437.1 35) + (1 : Int32))) t438) (q := []) 6 hM rfl trivial ?_
                            obtain ⟨s446, hs447, h⟩ := px_let_some h
                            rw [← hs447]
                            refine px_blk (i' := 8) (L' := [some (.ref 28), some (.int u1), some (.int u2), some (.int u3), some (.int (m4 + (u3 - m4))), some (.int y434), some (.int (u3 - m4)), some (.int (0 : Int32)), none]) (S' := []) (w' := px_w K s446 t438) (q := []) 5 hM rfl trivial ?_
                            exact px_E_le (px_leC_L _ _ (by simp [px_leC, px_le1, Value.category])) (ih (m4 + (u3 - m4)) y434 s446 t438 z h o w2 ha)
                          · rw [if_neg hc445] at h
                            refine px_blk (i' := 133) (L' := [some (.ref 28), some (.int u1), some (.int u2), some (.int u3), some (.int m4), some (.int y434), some (.int (u3 - m4)), some (.int (0 : Int32)), none]) (S' := [.int (1 : Int32), .ref 28]) (w' := px_w K s437 t438) (q := []) 2 hM rfl trivial ?_
                            rcases px_bv_some h with ⟨s448, t449, hk450, h⟩ | ⟨x452, s448, t449, hk450, h⟩
                            · refine px_E_call hM rfl rfl rfl rfl (px_E_mono (by decide) (e_M_flush_28 K N (1 : Int32) s437 t438 _ hk450)) ?_
                              refine px_blk (i' := 140) (L' := [some (.ref 28), some (.int u1), some (.int u2), some (.int u3), some (.int m4), some (.int y434), some (.int (u3 - m4)), some (.int (0 : Int32)), none]) (S' := []) (w' := px_w K (sR s448 35 ((s448.1 35) + (1 : Int32))) t449) (q := []) 6 hM rfl trivial ?_
                              obtain ⟨s453, hs454, h⟩ := px_let_some h
                              rw [← hs454]
                              refine px_blk (i' := 8) (L' := [some (.ref 28), some (.int u1), some (.int u2), some (.int u3), some (.int (m4 + (u3 - m4))), some (.int y434), some (.int (u3 - m4)), some (.int (0 : Int32)), none]) (S' := []) (w' := px_w K s453 t449) (q := []) 5 hM rfl trivial ?_
                              exact px_E_le (px_leC_L _ _ (by simp [px_leC, px_le1, Value.category])) (ih (m4 + (u3 - m4)) y434 s453 t449 z h o w2 ha)
                            · cases h
                      · cases h
                    · rw [if_neg hc436] at h
                      refine px_blkif (c := u2 = 0) (t := 112) (e := 109) (L' := [some (.ref 28), some (.int u1), some (.int u2), some (.int u3), some (.int m4), some (.int y434), some (.int (u3 - m4)), some (.int (0 : Int32)), none]) (S' := []) (w' := px_w K s430 t431) (q := []) 2 hM rfl trivial (fun hc455 => ?_) (fun hc455 => ?_)
                      · rw [if_pos hc455] at h
                        refine px_blk (i' := 124) (L' := [some (.ref 28), some (.int u1), some (.int u2), some (.int u3), some (.int m4), some (.int y434), some (.int (u3 - m4)), some (.int (0 : Int32)), none]) (S' := [.ref 28, .int ((((25 : Int32) * (s430.1 33)) + (1 : Int32)) + (s430.1 35)), .int (1 : Int32), .ref 28]) (w' := px_w K s430 t431) (q := []) 12 hM rfl trivial ?_
                        refine px_blk (i' := 126) (L' := [some (.ref 28), some (.int u1), some (.int u2), some (.int u3), some (.int m4), some (.int y434), some (.int (u3 - m4)), some (.int (0 : Int32)), none]) (S' := [.int (0 : Int32), .ref 43, .int ((((25 : Int32) * (s430.1 33)) + (1 : Int32)) + (s430.1 35)), .int (1 : Int32), .ref 28]) (w' := px_w K s430 t431) (q := []) 2 hM rfl trivial ?_
                        rcases px_bv_some h with ⟨s456, t457, hk458, h⟩ | ⟨x460, s456, t457, hk458, h⟩
                        · refine px_E_call hM rfl rfl rfl rfl (px_E_mono (by decide) (e_M_write_28_43 K N (1 : Int32) ((((25 : Int32) * (s430.1 33)) + (1 : Int32)) + (s430.1 35)) (0 : Int32) s430 t431 _ hk458)) ?_
                          refine px_blkif (c := (0 : Int32) = 0) (t := 134) (e := 129) (L' := [some (.ref 28), some (.int u1), some (.int u2), some (.int u3), some (.int m4), some (.int y434), some (.int (u3 - m4)), some (.int (0 : Int32)), none]) (S' := []) (w' := px_w K s456 t457) (q := []) 2 hM rfl trivial (fun hc461 => ?_) (fun hc461 => ?_)
                          · rw [if_pos hc461] at h
                            refine px_blk (i' := 140) (L' := [some (.ref 28), some (.int u1), some (.int u2), some (.int u3), some (.int m4), some (.int y434), some (.int (u3 - m4)), some (.int (0 : Int32)), none]) (S' := []) (w' := px_w K (sR s456 35 ((s456.1 35) + (1 : Int32))) t457) (q := []) 6 hM rfl trivial ?_
                            obtain ⟨s462, hs463, h⟩ := px_let_some h
                            rw [← hs463]
                            refine px_blk (i' := 8) (L' := [some (.ref 28), some (.int u1), some (.int u2), some (.int u3), some (.int (m4 + (u3 - m4))), some (.int y434), some (.int (u3 - m4)), some (.int (0 : Int32)), none]) (S' := []) (w' := px_w K s462 t457) (q := []) 5 hM rfl trivial ?_
                            exact px_E_le (px_leC_L _ _ (by simp [px_leC, px_le1, Value.category])) (ih (m4 + (u3 - m4)) y434 s462 t457 z h o w2 ha)
                          · rw [if_neg hc461] at h
                            refine px_blkif (c := u2 = 0) (t := 134) (e := 131) (L' := [some (.ref 28), some (.int u1), some (.int u2), some (.int u3), some (.int m4), some (.int y434), some (.int (u3 - m4)), some (.int (0 : Int32)), none]) (S' := []) (w' := px_w K s456 t457) (q := []) 2 hM rfl trivial (fun hc464 => ?_) (fun hc464 => ?_)
                            · rw [if_pos hc464] at h
                              refine px_blk (i' := 140) (L' := [some (.ref 28), some (.int u1), some (.int u2), some (.int u3), some (.int m4), some (.int y434), some (.int (u3 - m4)), some (.int (0 : Int32)), none]) (S' := []) (w' := px_w K (sR s456 35 ((s456.1 35) + (1 : Int32))) t457) (q := []) 6 hM rfl trivial ?_
                              obtain ⟨s465, hs466, h⟩ := px_let_some h
                              rw [← hs466]
                              refine px_blk (i' := 8) (L' := [some (.ref 28), some (.int u1), some (.int u2), some (.int u3), some (.int (m4 + (u3 - m4))), some (.int y434), some (.int (u3 - m4)), some (.int (0 : Int32)), none]) (S' := []) (w' := px_w K s465 t457) (q := []) 5 hM rfl trivial ?_
                              exact px_E_le (px_leC_L _ _ (by simp [px_leC, px_le1, Value.category])) (ih (m4 + (u3 - m4)) y434 s465 t457 z h o w2 ha)
                            · rw [if_neg hc464] at h
                              refine px_blk (i' := 133) (L' := [some (.ref 28), some (.int u1), some (.int u2), some (.int u3), some (.int m4), some (.int y434), some (.int (u3 - m4)), some (.int (0 : Int32)), none]) (S' := [.int (1 : Int32), .ref 28]) (w' := px_w K s456 t457) (q := []) 2 hM rfl trivial ?_
                              rcases px_bv_some h with ⟨s467, t468, hk469, h⟩ | ⟨x471, s467, t468, hk469, h⟩
                              · refine px_E_call hM rfl rfl rfl rfl (px_E_mono (by decide) (e_M_flush_28 K N (1 : Int32) s456 t457 _ hk469)) ?_
                                refine px_blk (i' := 140) (L' := [some (.ref 28), some (.int u1), some (.int u2), some (.int u3), some (.int m4), some (.int y434), some (.int (u3 - m4)), some (.int (0 : Int32)), none]) (S' := []) (w' := px_w K (sR s467 35 ((s467.1 35) + (1 : Int32))) t468) (q := []) 6 hM rfl trivial ?_
                                obtain ⟨s472, hs473, h⟩ := px_let_some h
                                rw [← hs473]
                                refine px_blk (i' := 8) (L' := [some (.ref 28), some (.int u1), some (.int u2), some (.int u3), some (.int (m4 + (u3 - m4))), some (.int y434), some (.int (u3 - m4)), some (.int (0 : Int32)), none]) (S' := []) (w' := px_w K s472 t468) (q := []) 5 hM rfl trivial ?_
                                exact px_E_le (px_leC_L _ _ (by simp [px_leC, px_le1, Value.category])) (ih (m4 + (u3 - m4)) y434 s472 t468 z h o w2 ha)
                              · cases h
                        · cases h
                      · rw [if_neg hc455] at h
                        refine px_blk (i' := 111) (L' := [some (.ref 28), some (.int u1), some (.int u2), some (.int u3), some (.int m4), some (.int y434), some (.int (u3 - m4)), some (.int (0 : Int32)), none]) (S' := [.int (1 : Int32), .ref 28]) (w' := px_w K s430 t431) (q := []) 2 hM rfl trivial ?_
                        rcases px_bv_some h with ⟨s474, t475, hk476, h⟩ | ⟨x478, s474, t475, hk476, h⟩
                        · refine px_E_call hM rfl rfl rfl rfl (px_E_mono (by decide) (e_M_flush_28 K N (1 : Int32) s430 t431 _ hk476)) ?_
                          refine px_blk (i' := 124) (L' := [some (.ref 28), some (.int u1), some (.int u2), some (.int u3), some (.int m4), some (.int y434), some (.int (u3 - m4)), some (.int (0 : Int32)), none]) (S' := [.ref 28, .int ((((25 : Int32) * (s474.1 33)) + (1 : Int32)) + (s474.1 35)), .int (1 : Int32), .ref 28]) (w' := px_w K s474 t475) (q := []) 12 hM rfl trivial ?_
                          refine px_blk (i' := 126) (L' := [some (.ref 28), some (.int u1), some (.int u2), some (.int u3), some (.int m4), some (.int y434), some (.int (u3 - m4)), some (.int (0 : Int32)), none]) (S' := [.int (0 : Int32), .ref 43, .int ((((25 : Int32) * (s474.1 33)) + (1 : Int32)) + (s474.1 35)), .int (1 : Int32), .ref 28]) (w' := px_w K s474 t475) (q := []) 2 hM rfl trivial ?_
                          rcases px_bv_some h with ⟨s479, t480, hk481, h⟩ | ⟨x483, s479, t480, hk481, h⟩
                          · refine px_E_call hM rfl rfl rfl rfl (px_E_mono (by decide) (e_M_write_28_43 K N (1 : Int32) ((((25 : Int32) * (s474.1 33)) + (1 : Int32)) + (s474.1 35)) (0 : Int32) s474 t475 _ hk481)) ?_
                            refine px_blkif (c := (0 : Int32) = 0) (t := 134) (e := 129) (L' := [some (.ref 28), some (.int u1), some (.int u2), some (.int u3), some (.int m4), some (.int y434), some (.int (u3 - m4)), some (.int (0 : Int32)), none]) (S' := []) (w' := px_w K s479 t480) (q := []) 2 hM rfl trivial (fun hc484 => ?_) (fun hc484 => ?_)
                            · rw [if_pos hc484] at h
                              refine px_blk (i' := 140) (L' := [some (.ref 28), some (.int u1), some (.int u2), some (.int u3), some (.int m4), some (.int y434), some (.int (u3 - m4)), some (.int (0 : Int32)), none]) (S' := []) (w' := px_w K (sR s479 35 ((s479.1 35) + (1 : Int32))) t480) (q := []) 6 hM rfl trivial ?_
                              obtain ⟨s485, hs486, h⟩ := px_let_some h
                              rw [← hs486]
                              refine px_blk (i' := 8) (L' := [some (.ref 28), some (.int u1), some (.int u2), some (.int u3), some (.int (m4 + (u3 - m4))), some (.int y434), some (.int (u3 - m4)), some (.int (0 : Int32)), none]) (S' := []) (w' := px_w K s485 t480) (q := []) 5 hM rfl trivial ?_
                              exact px_E_le (px_leC_L _ _ (by simp [px_leC, px_le1, Value.category])) (ih (m4 + (u3 - m4)) y434 s485 t480 z h o w2 ha)
                            · rw [if_neg hc484] at h
                              refine px_blkif (c := u2 = 0) (t := 134) (e := 131) (L' := [some (.ref 28), some (.int u1), some (.int u2), some (.int u3), some (.int m4), some (.int y434), some (.int (u3 - m4)), some (.int (0 : Int32)), none]) (S' := []) (w' := px_w K s479 t480) (q := []) 2 hM rfl trivial (fun hc487 => ?_) (fun hc487 => ?_)
                              · rw [if_pos hc487] at h
                                refine px_blk (i' := 140) (L' := [some (.ref 28), some (.int u1), some (.int u2), some (.int u3), some (.int m4), some (.int y434), some (.int (u3 - m4)), some (.int (0 : Int32)), none]) (S' := []) (w' := px_w K (sR s479 35 ((s479.1 35) + (1 : Int32))) t480) (q := []) 6 hM rfl trivial ?_
                                obtain ⟨s488, hs489, h⟩ := px_let_some h
                                rw [← hs489]
                                refine px_blk (i' := 8) (L' := [some (.ref 28), some (.int u1), some (.int u2), some (.int u3), some (.int (m4 + (u3 - m4))), some (.int y434), some (.int (u3 - m4)), some (.int (0 : Int32)), none]) (S' := []) (w' := px_w K s488 t480) (q := []) 5 hM rfl trivial ?_
                                exact px_E_le (px_leC_L _ _ (by simp [px_leC, px_le1, Value.category])) (ih (m4 + (u3 - m4)) y434 s488 t480 z h o w2 ha)
                              · rw [if_neg hc487] at h
                                refine px_blk (i' := 133) (L' := [some (.ref 28), some (.int u1), some (.int u2), some (.int u3), some (.int m4), some (.int y434), some (.int (u3 - m4)), some (.int (0 : Int32)), none]) (S' := [.int (1 : Int32), .ref 28]) (w' := px_w K s479 t480) (q := []) 2 hM rfl trivial ?_
                                rcases px_bv_some h with ⟨s490, t491, hk492, h⟩ | ⟨x494, s490, t491, hk492, h⟩
                                · refine px_E_call hM rfl rfl rfl rfl (px_E_mono (by decide) (e_M_flush_28 K N (1 : Int32) s479 t480 _ hk492)) ?_
                                  refine px_blk (i' := 140) (L' := [some (.ref 28), some (.int u1), some (.int u2), some (.int u3), some (.int m4), some (.int y434), some (.int (u3 - m4)), some (.int (0 : Int32)), none]) (S' := []) (w' := px_w K (sR s490 35 ((s490.1 35) + (1 : Int32))) t491) (q := []) 6 hM rfl trivial ?_
                                  obtain ⟨s495, hs496, h⟩ := px_let_some h
                                  rw [← hs496]
                                  refine px_blk (i' := 8) (L' := [some (.ref 28), some (.int u1), some (.int u2), some (.int u3), some (.int (m4 + (u3 - m4))), some (.int y434), some (.int (u3 - m4)), some (.int (0 : Int32)), none]) (S' := []) (w' := px_w K s495 t491) (q := []) 5 hM rfl trivial ?_
                                  exact px_E_le (px_leC_L _ _ (by simp [px_leC, px_le1, Value.category])) (ih (m4 + (u3 - m4)) y434 s495 t491 z h o w2 ha)
                                · cases h
                          · cases h
                        · cases h
                  · rw [if_neg hi435] at h
                    cases h
                · cases h
                  obtain ⟨rfl, rfl⟩ := ha
                  exact e_l_M_records_28_70 K N u1 u2 u3 m4 (u3 - m4) (0 : Int32) N m5 (0 : Int32) s426 t336 _ hl432 _ _ ⟨rfl, rfl⟩
            · rw [if_neg hi339] at h
              cases h
          · cases h
            obtain ⟨rfl, rfl⟩ := ha
            exact e_l_M_records_28_33 K N u1 u2 u3 m4 m5 (u3 - m4) (0 : Int32) N (4 : Int32) s t _ hl337 _ _ ⟨rfl, rfl⟩
        · rw [if_neg hc332] at h
          refine px_blk (i' := 33) (L' := [some (.ref 28), some (.int u1), some (.int u2), some (.int u3), some (.int m4), some (.int m5), some (.int (u3 - m4)), some (.int (1 : Int32)), some (.int (4 : Int32))]) (S' := []) (w' := px_w K s t) (q := []) 5 hM rfl trivial ?_
          rcases px_lp_some h with ⟨i497, vs498, s499, t500, hl501, h⟩ | ⟨z502, hl501, h⟩
          · by_cases hi503 : i497 = 43
            · subst hi503
              rw [if_pos rfl] at h
              have h9 := px_v0_some h
              clear h
              obtain ⟨rfl, h⟩ := h9
              refine e_l_M_records_28_33 K N u1 u2 u3 m4 m5 (u3 - m4) (1 : Int32) N (4 : Int32) s t _ hl501 _ _ ?_
              show px_E px_ET px_P 6 44 43 [some (.ref 28), some (.int u1), some (.int u2), some (.int u3), some (.int m4), some (.int m5), some (.int (u3 - m4)), some (.int (1 : Int32)), none] [] (px_w K s499 t500) _ _
              obtain ⟨hq504, h⟩ := px_gd_some h
              refine px_blk (i' := 49) (L' := [some (.ref 28), some (.int u1), some (.int u2), some (.int u3), some (.int m4), some (.int m5), some (.int (u3 - m4)), some (.int (1 : Int32)), none]) (S' := []) (w' := px_w K (sA s499 43 (0 : Int32).toNatClampNeg (s499.1 34)) t500) (q := [vp_in (0 : Int32) (K.2.2 43)]) 6 hM rfl (show vp_in (0 : Int32) (K.2.2 43) from hq504) ?_
              obtain ⟨s505, hs506, h⟩ := px_let_some h
              rw [← hs506]
              obtain ⟨hq507, h⟩ := px_gd_some h
              refine px_blk (i' := 54) (L' := [some (.ref 28), some (.int u1), some (.int u2), some (.int u3), some (.int m4), some (.int m5), some (.int (u3 - m4)), some (.int (1 : Int32)), none]) (S' := []) (w' := px_w K (sA s505 43 (1 : Int32).toNatClampNeg u1) t500) (q := [vp_in (1 : Int32) (K.2.2 43)]) 5 hM rfl (show vp_in (1 : Int32) (K.2.2 43) from hq507) ?_
              obtain ⟨s508, hs509, h⟩ := px_let_some h
              rw [← hs509]
              refine px_blkif (c := (1 : Int32) = 0) (t := 61) (e := 59) (L' := [some (.ref 28), some (.int u1), some (.int u2), some (.int u3), some (.int m4), some (.int m5), some (.int (u3 - m4)), some (.int (1 : Int32)), none]) (S' := [.int (2 : Int32), .ref 43]) (w' := px_w K s508 t500) (q := []) 5 hM rfl trivial (fun hc510 => ?_) (fun hc510 => ?_)
              · rw [if_pos hc510] at h
                obtain ⟨hq511, h⟩ := px_gd_some h
                refine px_blk (i' := 63) (L' := [some (.ref 28), some (.int u1), some (.int u2), some (.int u3), some (.int m4), some (.int m5), some (.int (u3 - m4)), some (.int (1 : Int32)), none]) (S' := []) (w' := px_w K (sA s508 43 (2 : Int32).toNatClampNeg (0 : Int32)) t500) (q := [vp_in (2 : Int32) (K.2.2 43)]) 2 hM rfl (show vp_in (2 : Int32) (K.2.2 43) from hq511) ?_
                obtain ⟨s512, hs513, h⟩ := px_let_some h
                rw [← hs513]
                obtain ⟨hq514, h⟩ := px_gd_some h
                refine px_blk (i' := 68) (L' := [some (.ref 28), some (.int u1), some (.int u2), some (.int u3), some (.int m4), some (.int m5), some (.int (u3 - m4)), some (.int (1 : Int32)), none]) (S' := []) (w' := px_w K (sA s512 43 (3 : Int32).toNatClampNeg (u3 - m4)) t500) (q := [vp_in (3 : Int32) (K.2.2 43)]) 5 hM rfl (show vp_in (3 : Int32) (K.2.2 43) from hq514) ?_
                obtain ⟨s515, hs516, h⟩ := px_let_some h
                rw [← hs516]
                refine px_blk (i' := 70) (L' := [some (.ref 28), some (.int u1), some (.int u2), some (.int u3), some (.int m4), some (.int m5), some (.int (u3 - m4)), some (.int (1 : Int32)), some (.int (0 : Int32))]) (S' := []) (w' := px_w K s515 t500) (q := []) 2 hM rfl trivial ?_
                rcases px_lp_some h with ⟨i517, vs518, s519, t520, hl521, h⟩ | ⟨z522, hl521, h⟩
                · by_cases hi524 : i517 = 105
                  · subst hi524
                    rw [if_pos rfl] at h
                    have h9 := px_v1_some h
                    clear h
                    obtain ⟨y523, rfl, h⟩ := h9
                    refine e_l_M_records_28_70 K N u1 u2 u3 m4 (u3 - m4) (1 : Int32) N m5 (0 : Int32) s515 t500 _ hl521 _ _ ?_
                    show px_E px_ET px_P 6 44 105 [some (.ref 28), some (.int u1), some (.int u2), some (.int u3), some (.int m4), some (.int y523), some (.int (u3 - m4)), some (.int (1 : Int32)), none] [] (px_w K s519 t520) _ _
                    refine px_blkif (c := (1 : Int32) = 0) (t := 112) (e := 107) (L' := [some (.ref 28), some (.int u1), some (.int u2), some (.int u3), some (.int m4), some (.int y523), some (.int (u3 - m4)), some (.int (1 : Int32)), none]) (S' := []) (w' := px_w K s519 t520) (q := []) 2 hM rfl trivial (fun hc525 => ?_) (fun hc525 => ?_)
                    · rw [if_pos hc525] at h
                      refine px_blk (i' := 124) (L' := [some (.ref 28), some (.int u1), some (.int u2), some (.int u3), some (.int m4), some (.int y523), some (.int (u3 - m4)), some (.int (1 : Int32)), none]) (S' := [.ref 28, .int ((((25 : Int32) * (s519.1 33)) + (1 : Int32)) + (s519.1 35)), .int (1 : Int32), .ref 28]) (w' := px_w K s519 t520) (q := []) 12 hM rfl trivial ?_
                      refine px_blk (i' := 126) (L' := [some (.ref 28), some (.int u1), some (.int u2), some (.int u3), some (.int m4), some (.int y523), some (.int (u3 - m4)), some (.int (1 : Int32)), none]) (S' := [.int (0 : Int32), .ref 43, .int ((((25 : Int32) * (s519.1 33)) + (1 : Int32)) + (s519.1 35)), .int (1 : Int32), .ref 28]) (w' := px_w K s519 t520) (q := []) 2 hM rfl trivial ?_
                      rcases px_bv_some h with ⟨s526, t527, hk528, h⟩ | ⟨x530, s526, t527, hk528, h⟩
                      · refine px_E_call hM rfl rfl rfl rfl (px_E_mono (by decide) (e_M_write_28_43 K N (1 : Int32) ((((25 : Int32) * (s519.1 33)) + (1 : Int32)) + (s519.1 35)) (0 : Int32) s519 t520 _ hk528)) ?_
                        refine px_blkif (c := (1 : Int32) = 0) (t := 134) (e := 129) (L' := [some (.ref 28), some (.int u1), some (.int u2), some (.int u3), some (.int m4), some (.int y523), some (.int (u3 - m4)), some (.int (1 : Int32)), none]) (S' := []) (w' := px_w K s526 t527) (q := []) 2 hM rfl trivial (fun hc531 => ?_) (fun hc531 => ?_)
                        · rw [if_pos hc531] at h
                          refine px_blk (i' := 140) (L' := [some (.ref 28), some (.int u1), some (.int u2), some (.int u3), some (.int m4), some (.int y523), some (.int (u3 - m4)), some (.int (1 : Int32)), none]) (S' := []) (w' := px_w K (sR s526 35 ((s526.1 35) + (1 : Int32))) t527) (q := []) 6 hM rfl trivial ?_
                          obtain ⟨s532, hs533, h⟩ := px_let_some h
                          rw [← hs533]
                          refine px_blk (i' := 8) (L' := [some (.ref 28), some (.int u1), some (.int u2), some (.int u3), some (.int (m4 + (u3 - m4))), some (.int y523), some (.int (u3 - m4)), some (.int (1 : Int32)), none]) (S' := []) (w' := px_w K s532 t527) (q := []) 5 hM rfl trivial ?_
                          exact px_E_le (px_leC_L _ _ (by simp [px_leC, px_le1, Value.category])) (ih (m4 + (u3 - m4)) y523 s532 t527 z h o w2 ha)
                        · rw [if_neg hc531] at h
                          refine px_blkif (c := u2 = 0) (t := 134) (e := 131) (L' := [some (.ref 28), some (.int u1), some (.int u2), some (.int u3), some (.int m4), some (.int y523), some (.int (u3 - m4)), some (.int (1 : Int32)), none]) (S' := []) (w' := px_w K s526 t527) (q := []) 2 hM rfl trivial (fun hc534 => ?_) (fun hc534 => ?_)
                          · rw [if_pos hc534] at h
                            refine px_blk (i' := 140) (L' := [some (.ref 28), some (.int u1), some (.int u2), some (.int u3), some (.int m4), some (.int y523), some (.int (u3 - m4)), some (.int (1 : Int32)), none]) (S' := []) (w' := px_w K (sR s526 35 ((s526.1 35) + (1 : Int32))) t527) (q := []) 6 hM rfl trivial ?_
                            obtain ⟨s535, hs536, h⟩ := px_let_some h
                            rw [← hs536]
                            refine px_blk (i' := 8) (L' := [some (.ref 28), some (.int u1), some (.int u2), some (.int u3), some (.int (m4 + (u3 - m4))), some (.int y523), some (.int (u3 - m4)), some (.int (1 : Int32)), none]) (S' := []) (w' := px_w K s535 t527) (q := []) 5 hM rfl trivial ?_
                            exact px_E_le (px_leC_L _ _ (by simp [px_leC, px_le1, Value.category])) (ih (m4 + (u3 - m4)) y523 s535 t527 z h o w2 ha)
                          · rw [if_neg hc534] at h
                            refine px_blk (i' := 133) (L' := [some (.ref 28), some (.int u1), some (.int u2), some (.int u3), some (.int m4), some (.int y523), some (.int (u3 - m4)), some (.int (1 : Int32)), none]) (S' := [.int (1 : Int32), .ref 28]) (w' := px_w K s526 t527) (q := []) 2 hM rfl trivial ?_
                            rcases px_bv_some h with ⟨s537, t538, hk539, h⟩ | ⟨x541, s537, t538, hk539, h⟩
                            · refine px_E_call hM rfl rfl rfl rfl (px_E_mono (by decide) (e_M_flush_28 K N (1 : Int32) s526 t527 _ hk539)) ?_
                              refine px_blk (i' := 140) (L' := [some (.ref 28), some (.int u1), some (.int u2), some (.int u3), some (.int m4), some (.int y523), some (.int (u3 - m4)), some (.int (1 : Int32)), none]) (S' := []) (w' := px_w K (sR s537 35 ((s537.1 35) + (1 : Int32))) t538) (q := []) 6 hM rfl trivial ?_
                              obtain ⟨s542, hs543, h⟩ := px_let_some h
                              rw [← hs543]
                              refine px_blk (i' := 8) (L' := [some (.ref 28), some (.int u1), some (.int u2), some (.int u3), some (.int (m4 + (u3 - m4))), some (.int y523), some (.int (u3 - m4)), some (.int (1 : Int32)), none]) (S' := []) (w' := px_w K s542 t538) (q := []) 5 hM rfl trivial ?_
                              exact px_E_le (px_leC_L _ _ (by simp [px_leC, px_le1, Value.category])) (ih (m4 + (u3 - m4)) y523 s542 t538 z h o w2 ha)
                            · cases h
                      · cases h
                    · rw [if_neg hc525] at h
                      refine px_blkif (c := u2 = 0) (t := 112) (e := 109) (L' := [some (.ref 28), some (.int u1), some (.int u2), some (.int u3), some (.int m4), some (.int y523), some (.int (u3 - m4)), some (.int (1 : Int32)), none]) (S' := []) (w' := px_w K s519 t520) (q := []) 2 hM rfl trivial (fun hc544 => ?_) (fun hc544 => ?_)
                      · rw [if_pos hc544] at h
                        refine px_blk (i' := 124) (L' := [some (.ref 28), some (.int u1), some (.int u2), some (.int u3), some (.int m4), some (.int y523), some (.int (u3 - m4)), some (.int (1 : Int32)), none]) (S' := [.ref 28, .int ((((25 : Int32) * (s519.1 33)) + (1 : Int32)) + (s519.1 35)), .int (1 : Int32), .ref 28]) (w' := px_w K s519 t520) (q := []) 12 hM rfl trivial ?_
                        refine px_blk (i' := 126) (L' := [some (.ref 28), some (.int u1), some (.int u2), some (.int u3), some (.int m4), some (.int y523), some (.int (u3 - m4)), some (.int (1 : Int32)), none]) (S' := [.int (0 : Int32), .ref 43, .int ((((25 : Int32) * (s519.1 33)) + (1 : Int32)) + (s519.1 35)), .int (1 : Int32), .ref 28]) (w' := px_w K s519 t520) (q := []) 2 hM rfl trivial ?_
                        rcases px_bv_some h with ⟨s545, t546, hk547, h⟩ | ⟨x549, s545, t546, hk547, h⟩
                        · refine px_E_call hM rfl rfl rfl rfl (px_E_mono (by decide) (e_M_write_28_43 K N (1 : Int32) ((((25 : Int32) * (s519.1 33)) + (1 : Int32)) + (s519.1 35)) (0 : Int32) s519 t520 _ hk547)) ?_
                          refine px_blkif (c := (1 : Int32) = 0) (t := 134) (e := 129) (L' := [some (.ref 28), some (.int u1), some (.int u2), some (.int u3), some (.int m4), some (.int y523), some (.int (u3 - m4)), some (.int (1 : Int32)), none]) (S' := []) (w' := px_w K s545 t546) (q := []) 2 hM rfl trivial (fun hc550 => ?_) (fun hc550 => ?_)
                          · rw [if_pos hc550] at h
                            refine px_blk (i' := 140) (L' := [some (.ref 28), some (.int u1), some (.int u2), some (.int u3), some (.int m4), some (.int y523), some (.int (u3 - m4)), some (.int (1 : Int32)), none]) (S' := []) (w' := px_w K (sR s545 35 ((s545.1 35) + (1 : Int32))) t546) (q := []) 6 hM rfl trivial ?_
                            obtain ⟨s551, hs552, h⟩ := px_let_some h
                            rw [← hs552]
                            refine px_blk (i' := 8) (L' := [some (.ref 28), some (.int u1), some (.int u2), some (.int u3), some (.int (m4 + (u3 - m4))), some (.int y523), some (.int (u3 - m4)), some (.int (1 : Int32)), none]) (S' := []) (w' := px_w K s551 t546) (q := []) 5 hM rfl trivial ?_
                            exact px_E_le (px_leC_L _ _ (by simp [px_leC, px_le1, Value.category])) (ih (m4 + (u3 - m4)) y523 s551 t546 z h o w2 ha)
                          · rw [if_neg hc550] at h
                            refine px_blkif (c := u2 = 0) (t := 134) (e := 131) (L' := [some (.ref 28), some (.int u1), some (.int u2), some (.int u3), some (.int m4), some (.int y523), some (.int (u3 - m4)), some (.int (1 : Int32)), none]) (S' := []) (w' := px_w K s545 t546) (q := []) 2 hM rfl trivial (fun hc553 => ?_) (fun hc553 => ?_)
                            · rw [if_pos hc553] at h
                              refine px_blk (i' := 140) (L' := [some (.ref 28), some (.int u1), some (.int u2), some (.int u3), some (.int m4), some (.int y523), some (.int (u3 - m4)), some (.int (1 : Int32)), none]) (S' := []) (w' := px_w K (sR s545 35 ((s545.1 35) + (1 : Int32))) t546) (q := []) 6 hM rfl trivial ?_
                              obtain ⟨s554, hs555, h⟩ := px_let_some h
                              rw [← hs555]
                              refine px_blk (i' := 8) (L' := [some (.ref 28), some (.int u1), some (.int u2), some (.int u3), some (.int (m4 + (u3 - m4))), some (.int y523), some (.int (u3 - m4)), some (.int (1 : Int32)), none]) (S' := []) (w' := px_w K s554 t546) (q := []) 5 hM rfl trivial ?_
                              exact px_E_le (px_leC_L _ _ (by simp [px_leC, px_le1, Value.category])) (ih (m4 + (u3 - m4)) y523 s554 t546 z h o w2 ha)
                            · rw [if_neg hc553] at h
                              refine px_blk (i' := 133) (L' := [some (.ref 28), some (.int u1), some (.int u2), some (.int u3), some (.int m4), some (.int y523), some (.int (u3 - m4)), some (.int (1 : Int32)), none]) (S' := [.int (1 : Int32), .ref 28]) (w' := px_w K s545 t546) (q := []) 2 hM rfl trivial ?_
                              rcases px_bv_some h with ⟨s556, t557, hk558, h⟩ | ⟨x560, s556, t557, hk558, h⟩
                              · refine px_E_call hM rfl rfl rfl rfl (px_E_mono (by decide) (e_M_flush_28 K N (1 : Int32) s545 t546 _ hk558)) ?_
                                refine px_blk (i' := 140) (L' := [some (.ref 28), some (.int u1), some (.int u2), some (.int u3), some (.int m4), some (.int y523), some (.int (u3 - m4)), some (.int (1 : Int32)), none]) (S' := []) (w' := px_w K (sR s556 35 ((s556.1 35) + (1 : Int32))) t557) (q := []) 6 hM rfl trivial ?_
                                obtain ⟨s561, hs562, h⟩ := px_let_some h
                                rw [← hs562]
                                refine px_blk (i' := 8) (L' := [some (.ref 28), some (.int u1), some (.int u2), some (.int u3), some (.int (m4 + (u3 - m4))), some (.int y523), some (.int (u3 - m4)), some (.int (1 : Int32)), none]) (S' := []) (w' := px_w K s561 t557) (q := []) 5 hM rfl trivial ?_
                                exact px_E_le (px_leC_L _ _ (by simp [px_leC, px_le1, Value.category])) (ih (m4 + (u3 - m4)) y523 s561 t557 z h o w2 ha)
                              · cases h
                        · cases h
                      · rw [if_neg hc544] at h
                        refine px_blk (i' := 111) (L' := [some (.ref 28), some (.int u1), some (.int u2), some (.int u3), some (.int m4), some (.int y523), some (.int (u3 - m4)), some (.int (1 : Int32)), none]) (S' := [.int (1 : Int32), .ref 28]) (w' := px_w K s519 t520) (q := []) 2 hM rfl trivial ?_
                        rcases px_bv_some h with ⟨s563, t564, hk565, h⟩ | ⟨x567, s563, t564, hk565, h⟩
                        · refine px_E_call hM rfl rfl rfl rfl (px_E_mono (by decide) (e_M_flush_28 K N (1 : Int32) s519 t520 _ hk565)) ?_
                          refine px_blk (i' := 124) (L' := [some (.ref 28), some (.int u1), some (.int u2), some (.int u3), some (.int m4), some (.int y523), some (.int (u3 - m4)), some (.int (1 : Int32)), none]) (S' := [.ref 28, .int ((((25 : Int32) * (s563.1 33)) + (1 : Int32)) + (s563.1 35)), .int (1 : Int32), .ref 28]) (w' := px_w K s563 t564) (q := []) 12 hM rfl trivial ?_
                          refine px_blk (i' := 126) (L' := [some (.ref 28), some (.int u1), some (.int u2), some (.int u3), some (.int m4), some (.int y523), some (.int (u3 - m4)), some (.int (1 : Int32)), none]) (S' := [.int (0 : Int32), .ref 43, .int ((((25 : Int32) * (s563.1 33)) + (1 : Int32)) + (s563.1 35)), .int (1 : Int32), .ref 28]) (w' := px_w K s563 t564) (q := []) 2 hM rfl trivial ?_
                          rcases px_bv_some h with ⟨s568, t569, hk570, h⟩ | ⟨x572, s568, t569, hk570, h⟩
                          · refine px_E_call hM rfl rfl rfl rfl (px_E_mono (by decide) (e_M_write_28_43 K N (1 : Int32) ((((25 : Int32) * (s563.1 33)) + (1 : Int32)) + (s563.1 35)) (0 : Int32) s563 t564 _ hk570)) ?_
                            refine px_blkif (c := (1 : Int32) = 0) (t := 134) (e := 129) (L' := [some (.ref 28), some (.int u1), some (.int u2), some (.int u3), some (.int m4), some (.int y523), some (.int (u3 - m4)), some (.int (1 : Int32)), none]) (S' := []) (w' := px_w K s568 t569) (q := []) 2 hM rfl trivial (fun hc573 => ?_) (fun hc573 => ?_)
                            · rw [if_pos hc573] at h
                              refine px_blk (i' := 140) (L' := [some (.ref 28), some (.int u1), some (.int u2), some (.int u3), some (.int m4), some (.int y523), some (.int (u3 - m4)), some (.int (1 : Int32)), none]) (S' := []) (w' := px_w K (sR s568 35 ((s568.1 35) + (1 : Int32))) t569) (q := []) 6 hM rfl trivial ?_
                              obtain ⟨s574, hs575, h⟩ := px_let_some h
                              rw [← hs575]
                              refine px_blk (i' := 8) (L' := [some (.ref 28), some (.int u1), some (.int u2), some (.int u3), some (.int (m4 + (u3 - m4))), some (.int y523), some (.int (u3 - m4)), some (.int (1 : Int32)), none]) (S' := []) (w' := px_w K s574 t569) (q := []) 5 hM rfl trivial ?_
                              exact px_E_le (px_leC_L _ _ (by simp [px_leC, px_le1, Value.category])) (ih (m4 + (u3 - m4)) y523 s574 t569 z h o w2 ha)
                            · rw [if_neg hc573] at h
                              refine px_blkif (c := u2 = 0) (t := 134) (e := 131) (L' := [some (.ref 28), some (.int u1), some (.int u2), some (.int u3), some (.int m4), some (.int y523), some (.int (u3 - m4)), some (.int (1 : Int32)), none]) (S' := []) (w' := px_w K s568 t569) (q := []) 2 hM rfl trivial (fun hc576 => ?_) (fun hc576 => ?_)
                              · rw [if_pos hc576] at h
                                refine px_blk (i' := 140) (L' := [some (.ref 28), some (.int u1), some (.int u2), some (.int u3), some (.int m4), some (.int y523), some (.int (u3 - m4)), some (.int (1 : Int32)), none]) (S' := []) (w' := px_w K (sR s568 35 ((s568.1 35) + (1 : Int32))) t569) (q := []) 6 hM rfl trivial ?_
                                obtain ⟨s577, hs578, h⟩ := px_let_some h
                                rw [← hs578]
                                refine px_blk (i' := 8) (L' := [some (.ref 28), some (.int u1), some (.int u2), some (.int u3), some (.int (m4 + (u3 - m4))), some (.int y523), some (.int (u3 - m4)), some (.int (1 : Int32)), none]) (S' := []) (w' := px_w K s577 t569) (q := []) 5 hM rfl trivial ?_
                                exact px_E_le (px_leC_L _ _ (by simp [px_leC, px_le1, Value.category])) (ih (m4 + (u3 - m4)) y523 s577 t569 z h o w2 ha)
                              · rw [if_neg hc576] at h
                                refine px_blk (i' := 133) (L' := [some (.ref 28), some (.int u1), some (.int u2), some (.int u3), some (.int m4), some (.int y523), some (.int (u3 - m4)), some (.int (1 : Int32)), none]) (S' := [.int (1 : Int32), .ref 28]) (w' := px_w K s568 t569) (q := []) 2 hM rfl trivial ?_
                                rcases px_bv_some h with ⟨s579, t580, hk581, h⟩ | ⟨x583, s579, t580, hk581, h⟩
                                · refine px_E_call hM rfl rfl rfl rfl (px_E_mono (by decide) (e_M_flush_28 K N (1 : Int32) s568 t569 _ hk581)) ?_
                                  refine px_blk (i' := 140) (L' := [some (.ref 28), some (.int u1), some (.int u2), some (.int u3), some (.int m4), some (.int y523), some (.int (u3 - m4)), some (.int (1 : Int32)), none]) (S' := []) (w' := px_w K (sR s579 35 ((s579.1 35) + (1 : Int32))) t580) (q := []) 6 hM rfl trivial ?_
                                  obtain ⟨s584, hs585, h⟩ := px_let_some h
                                  rw [← hs585]
                                  refine px_blk (i' := 8) (L' := [some (.ref 28), some (.int u1), some (.int u2), some (.int u3), some (.int (m4 + (u3 - m4))), some (.int y523), some (.int (u3 - m4)), some (.int (1 : Int32)), none]) (S' := []) (w' := px_w K s584 t580) (q := []) 5 hM rfl trivial ?_
                                  exact px_E_le (px_leC_L _ _ (by simp [px_leC, px_le1, Value.category])) (ih (m4 + (u3 - m4)) y523 s584 t580 z h o w2 ha)
                                · cases h
                          · cases h
                        · cases h
                  · rw [if_neg hi524] at h
                    cases h
                · cases h
                  obtain ⟨rfl, rfl⟩ := ha
                  exact e_l_M_records_28_70 K N u1 u2 u3 m4 (u3 - m4) (1 : Int32) N m5 (0 : Int32) s515 t500 _ hl521 _ _ ⟨rfl, rfl⟩
              · rw [if_neg hc510] at h
                obtain ⟨hq586, h⟩ := px_gd_some h
                refine px_blk (i' := 63) (L' := [some (.ref 28), some (.int u1), some (.int u2), some (.int u3), some (.int m4), some (.int m5), some (.int (u3 - m4)), some (.int (1 : Int32)), none]) (S' := []) (w' := px_w K (sA s508 43 (2 : Int32).toNatClampNeg (1 : Int32)) t500) (q := [vp_in (2 : Int32) (K.2.2 43)]) 3 hM rfl (show vp_in (2 : Int32) (K.2.2 43) from hq586) ?_
                obtain ⟨s587, hs588, h⟩ := px_let_some h
                rw [← hs588]
                obtain ⟨hq589, h⟩ := px_gd_some h
                refine px_blk (i' := 68) (L' := [some (.ref 28), some (.int u1), some (.int u2), some (.int u3), some (.int m4), some (.int m5), some (.int (u3 - m4)), some (.int (1 : Int32)), none]) (S' := []) (w' := px_w K (sA s587 43 (3 : Int32).toNatClampNeg (u3 - m4)) t500) (q := [vp_in (3 : Int32) (K.2.2 43)]) 5 hM rfl (show vp_in (3 : Int32) (K.2.2 43) from hq589) ?_
                obtain ⟨s590, hs591, h⟩ := px_let_some h
                rw [← hs591]
                refine px_blk (i' := 70) (L' := [some (.ref 28), some (.int u1), some (.int u2), some (.int u3), some (.int m4), some (.int m5), some (.int (u3 - m4)), some (.int (1 : Int32)), some (.int (0 : Int32))]) (S' := []) (w' := px_w K s590 t500) (q := []) 2 hM rfl trivial ?_
                rcases px_lp_some h with ⟨i592, vs593, s594, t595, hl596, h⟩ | ⟨z597, hl596, h⟩
                · by_cases hi599 : i592 = 105
                  · subst hi599
                    rw [if_pos rfl] at h
                    have h9 := px_v1_some h
                    clear h
                    obtain ⟨y598, rfl, h⟩ := h9
                    refine e_l_M_records_28_70 K N u1 u2 u3 m4 (u3 - m4) (1 : Int32) N m5 (0 : Int32) s590 t500 _ hl596 _ _ ?_
                    show px_E px_ET px_P 6 44 105 [some (.ref 28), some (.int u1), some (.int u2), some (.int u3), some (.int m4), some (.int y598), some (.int (u3 - m4)), some (.int (1 : Int32)), none] [] (px_w K s594 t595) _ _
                    refine px_blkif (c := (1 : Int32) = 0) (t := 112) (e := 107) (L' := [some (.ref 28), some (.int u1), some (.int u2), some (.int u3), some (.int m4), some (.int y598), some (.int (u3 - m4)), some (.int (1 : Int32)), none]) (S' := []) (w' := px_w K s594 t595) (q := []) 2 hM rfl trivial (fun hc600 => ?_) (fun hc600 => ?_)
                    · rw [if_pos hc600] at h
                      refine px_blk (i' := 124) (L' := [some (.ref 28), some (.int u1), some (.int u2), some (.int u3), some (.int m4), some (.int y598), some (.int (u3 - m4)), some (.int (1 : Int32)), none]) (S' := [.ref 28, .int ((((25 : Int32) * (s594.1 33)) + (1 : Int32)) + (s594.1 35)), .int (1 : Int32), .ref 28]) (w' := px_w K s594 t595) (q := []) 12 hM rfl trivial ?_
                      refine px_blk (i' := 126) (L' := [some (.ref 28), some (.int u1), some (.int u2), some (.int u3), some (.int m4), some (.int y598), some (.int (u3 - m4)), some (.int (1 : Int32)), none]) (S' := [.int (0 : Int32), .ref 43, .int ((((25 : Int32) * (s594.1 33)) + (1 : Int32)) + (s594.1 35)), .int (1 : Int32), .ref 28]) (w' := px_w K s594 t595) (q := []) 2 hM rfl trivial ?_
                      rcases px_bv_some h with ⟨s601, t602, hk603, h⟩ | ⟨x605, s601, t602, hk603, h⟩
                      · refine px_E_call hM rfl rfl rfl rfl (px_E_mono (by decide) (e_M_write_28_43 K N (1 : Int32) ((((25 : Int32) * (s594.1 33)) + (1 : Int32)) + (s594.1 35)) (0 : Int32) s594 t595 _ hk603)) ?_
                        refine px_blkif (c := (1 : Int32) = 0) (t := 134) (e := 129) (L' := [some (.ref 28), some (.int u1), some (.int u2), some (.int u3), some (.int m4), some (.int y598), some (.int (u3 - m4)), some (.int (1 : Int32)), none]) (S' := []) (w' := px_w K s601 t602) (q := []) 2 hM rfl trivial (fun hc606 => ?_) (fun hc606 => ?_)
                        · rw [if_pos hc606] at h
                          refine px_blk (i' := 140) (L' := [some (.ref 28), some (.int u1), some (.int u2), some (.int u3), some (.int m4), some (.int y598), some (.int (u3 - m4)), some (.int (1 : Int32)), none]) (S' := []) (w' := px_w K (sR s601 35 ((s601.1 35) + (1 : Int32))) t602) (q := []) 6 hM rfl trivial ?_
                          obtain ⟨s607, hs608, h⟩ := px_let_some h
                          rw [← hs608]
                          refine px_blk (i' := 8) (L' := [some (.ref 28), some (.int u1), some (.int u2), some (.int u3), some (.int (m4 + (u3 - m4))), some (.int y598), some (.int (u3 - m4)), some (.int (1 : Int32)), none]) (S' := []) (w' := px_w K s607 t602) (q := []) 5 hM rfl trivial ?_
                          exact px_E_le (px_leC_L _ _ (by simp [px_leC, px_le1, Value.category])) (ih (m4 + (u3 - m4)) y598 s607 t602 z h o w2 ha)
                        · rw [if_neg hc606] at h
                          refine px_blkif (c := u2 = 0) (t := 134) (e := 131) (L' := [some (.ref 28), some (.int u1), some (.int u2), some (.int u3), some (.int m4), some (.int y598), some (.int (u3 - m4)), some (.int (1 : Int32)), none]) (S' := []) (w' := px_w K s601 t602) (q := []) 2 hM rfl trivial (fun hc609 => ?_) (fun hc609 => ?_)
                          · rw [if_pos hc609] at h
                            refine px_blk (i' := 140) (L' := [some (.ref 28), some (.int u1), some (.int u2), some (.int u3), some (.int m4), some (.int y598), some (.int (u3 - m4)), some (.int (1 : Int32)), none]) (S' := []) (w' := px_w K (sR s601 35 ((s601.1 35) + (1 : Int32))) t602) (q := []) 6 hM rfl trivial ?_
                            obtain ⟨s610, hs611, h⟩ := px_let_some h
                            rw [← hs611]
                            refine px_blk (i' := 8) (L' := [some (.ref 28), some (.int u1), some (.int u2), some (.int u3), some (.int (m4 + (u3 - m4))), some (.int y598), some (.int (u3 - m4)), some (.int (1 : Int32)), none]) (S' := []) (w' := px_w K s610 t602) (q := []) 5 hM rfl trivial ?_
                            exact px_E_le (px_leC_L _ _ (by simp [px_leC, px_le1, Value.category])) (ih (m4 + (u3 - m4)) y598 s610 t602 z h o w2 ha)
                          · rw [if_neg hc609] at h
                            refine px_blk (i' := 133) (L' := [some (.ref 28), some (.int u1), some (.int u2), some (.int u3), some (.int m4), some (.int y598), some (.int (u3 - m4)), some (.int (1 : Int32)), none]) (S' := [.int (1 : Int32), .ref 28]) (w' := px_w K s601 t602) (q := []) 2 hM rfl trivial ?_
                            rcases px_bv_some h with ⟨s612, t613, hk614, h⟩ | ⟨x616, s612, t613, hk614, h⟩
                            · refine px_E_call hM rfl rfl rfl rfl (px_E_mono (by decide) (e_M_flush_28 K N (1 : Int32) s601 t602 _ hk614)) ?_
                              refine px_blk (i' := 140) (L' := [some (.ref 28), some (.int u1), some (.int u2), some (.int u3), some (.int m4), some (.int y598), some (.int (u3 - m4)), some (.int (1 : Int32)), none]) (S' := []) (w' := px_w K (sR s612 35 ((s612.1 35) + (1 : Int32))) t613) (q := []) 6 hM rfl trivial ?_
                              obtain ⟨s617, hs618, h⟩ := px_let_some h
                              rw [← hs618]
                              refine px_blk (i' := 8) (L' := [some (.ref 28), some (.int u1), some (.int u2), some (.int u3), some (.int (m4 + (u3 - m4))), some (.int y598), some (.int (u3 - m4)), some (.int (1 : Int32)), none]) (S' := []) (w' := px_w K s617 t613) (q := []) 5 hM rfl trivial ?_
                              exact px_E_le (px_leC_L _ _ (by simp [px_leC, px_le1, Value.category])) (ih (m4 + (u3 - m4)) y598 s617 t613 z h o w2 ha)
                            · cases h
                      · cases h
                    · rw [if_neg hc600] at h
                      refine px_blkif (c := u2 = 0) (t := 112) (e := 109) (L' := [some (.ref 28), some (.int u1), some (.int u2), some (.int u3), some (.int m4), some (.int y598), some (.int (u3 - m4)), some (.int (1 : Int32)), none]) (S' := []) (w' := px_w K s594 t595) (q := []) 2 hM rfl trivial (fun hc619 => ?_) (fun hc619 => ?_)
                      · rw [if_pos hc619] at h
                        refine px_blk (i' := 124) (L' := [some (.ref 28), some (.int u1), some (.int u2), some (.int u3), some (.int m4), some (.int y598), some (.int (u3 - m4)), some (.int (1 : Int32)), none]) (S' := [.ref 28, .int ((((25 : Int32) * (s594.1 33)) + (1 : Int32)) + (s594.1 35)), .int (1 : Int32), .ref 28]) (w' := px_w K s594 t595) (q := []) 12 hM rfl trivial ?_
                        refine px_blk (i' := 126) (L' := [some (.ref 28), some (.int u1), some (.int u2), some (.int u3), some (.int m4), some (.int y598), some (.int (u3 - m4)), some (.int (1 : Int32)), none]) (S' := [.int (0 : Int32), .ref 43, .int ((((25 : Int32) * (s594.1 33)) + (1 : Int32)) + (s594.1 35)), .int (1 : Int32), .ref 28]) (w' := px_w K s594 t595) (q := []) 2 hM rfl trivial ?_
                        rcases px_bv_some h with ⟨s620, t621, hk622, h⟩ | ⟨x624, s620, t621, hk622, h⟩
                        · refine px_E_call hM rfl rfl rfl rfl (px_E_mono (by decide) (e_M_write_28_43 K N (1 : Int32) ((((25 : Int32) * (s594.1 33)) + (1 : Int32)) + (s594.1 35)) (0 : Int32) s594 t595 _ hk622)) ?_
                          refine px_blkif (c := (1 : Int32) = 0) (t := 134) (e := 129) (L' := [some (.ref 28), some (.int u1), some (.int u2), some (.int u3), some (.int m4), some (.int y598), some (.int (u3 - m4)), some (.int (1 : Int32)), none]) (S' := []) (w' := px_w K s620 t621) (q := []) 2 hM rfl trivial (fun hc625 => ?_) (fun hc625 => ?_)
                          · rw [if_pos hc625] at h
                            refine px_blk (i' := 140) (L' := [some (.ref 28), some (.int u1), some (.int u2), some (.int u3), some (.int m4), some (.int y598), some (.int (u3 - m4)), some (.int (1 : Int32)), none]) (S' := []) (w' := px_w K (sR s620 35 ((s620.1 35) + (1 : Int32))) t621) (q := []) 6 hM rfl trivial ?_
                            obtain ⟨s626, hs627, h⟩ := px_let_some h
                            rw [← hs627]
                            refine px_blk (i' := 8) (L' := [some (.ref 28), some (.int u1), some (.int u2), some (.int u3), some (.int (m4 + (u3 - m4))), some (.int y598), some (.int (u3 - m4)), some (.int (1 : Int32)), none]) (S' := []) (w' := px_w K s626 t621) (q := []) 5 hM rfl trivial ?_
                            exact px_E_le (px_leC_L _ _ (by simp [px_leC, px_le1, Value.category])) (ih (m4 + (u3 - m4)) y598 s626 t621 z h o w2 ha)
                          · rw [if_neg hc625] at h
                            refine px_blkif (c := u2 = 0) (t := 134) (e := 131) (L' := [some (.ref 28), some (.int u1), some (.int u2), some (.int u3), some (.int m4), some (.int y598), some (.int (u3 - m4)), some (.int (1 : Int32)), none]) (S' := []) (w' := px_w K s620 t621) (q := []) 2 hM rfl trivial (fun hc628 => ?_) (fun hc628 => ?_)
                            · rw [if_pos hc628] at h
                              refine px_blk (i' := 140) (L' := [some (.ref 28), some (.int u1), some (.int u2), some (.int u3), some (.int m4), some (.int y598), some (.int (u3 - m4)), some (.int (1 : Int32)), none]) (S' := []) (w' := px_w K (sR s620 35 ((s620.1 35) + (1 : Int32))) t621) (q := []) 6 hM rfl trivial ?_
                              obtain ⟨s629, hs630, h⟩ := px_let_some h
                              rw [← hs630]
                              refine px_blk (i' := 8) (L' := [some (.ref 28), some (.int u1), some (.int u2), some (.int u3), some (.int (m4 + (u3 - m4))), some (.int y598), some (.int (u3 - m4)), some (.int (1 : Int32)), none]) (S' := []) (w' := px_w K s629 t621) (q := []) 5 hM rfl trivial ?_
                              exact px_E_le (px_leC_L _ _ (by simp [px_leC, px_le1, Value.category])) (ih (m4 + (u3 - m4)) y598 s629 t621 z h o w2 ha)
                            · rw [if_neg hc628] at h
                              refine px_blk (i' := 133) (L' := [some (.ref 28), some (.int u1), some (.int u2), some (.int u3), some (.int m4), some (.int y598), some (.int (u3 - m4)), some (.int (1 : Int32)), none]) (S' := [.int (1 : Int32), .ref 28]) (w' := px_w K s620 t621) (q := []) 2 hM rfl trivial ?_
                              rcases px_bv_some h with ⟨s631, t632, hk633, h⟩ | ⟨x635, s631, t632, hk633, h⟩
                              · refine px_E_call hM rfl rfl rfl rfl (px_E_mono (by decide) (e_M_flush_28 K N (1 : Int32) s620 t621 _ hk633)) ?_
                                refine px_blk (i' := 140) (L' := [some (.ref 28), some (.int u1), some (.int u2), some (.int u3), some (.int m4), some (.int y598), some (.int (u3 - m4)), some (.int (1 : Int32)), none]) (S' := []) (w' := px_w K (sR s631 35 ((s631.1 35) + (1 : Int32))) t632) (q := []) 6 hM rfl trivial ?_
                                obtain ⟨s636, hs637, h⟩ := px_let_some h
                                rw [← hs637]
                                refine px_blk (i' := 8) (L' := [some (.ref 28), some (.int u1), some (.int u2), some (.int u3), some (.int (m4 + (u3 - m4))), some (.int y598), some (.int (u3 - m4)), some (.int (1 : Int32)), none]) (S' := []) (w' := px_w K s636 t632) (q := []) 5 hM rfl trivial ?_
                                exact px_E_le (px_leC_L _ _ (by simp [px_leC, px_le1, Value.category])) (ih (m4 + (u3 - m4)) y598 s636 t632 z h o w2 ha)
                              · cases h
                        · cases h
                      · rw [if_neg hc619] at h
                        refine px_blk (i' := 111) (L' := [some (.ref 28), some (.int u1), some (.int u2), some (.int u3), some (.int m4), some (.int y598), some (.int (u3 - m4)), some (.int (1 : Int32)), none]) (S' := [.int (1 : Int32), .ref 28]) (w' := px_w K s594 t595) (q := []) 2 hM rfl trivial ?_
                        rcases px_bv_some h with ⟨s638, t639, hk640, h⟩ | ⟨x642, s638, t639, hk640, h⟩
                        · refine px_E_call hM rfl rfl rfl rfl (px_E_mono (by decide) (e_M_flush_28 K N (1 : Int32) s594 t595 _ hk640)) ?_
                          refine px_blk (i' := 124) (L' := [some (.ref 28), some (.int u1), some (.int u2), some (.int u3), some (.int m4), some (.int y598), some (.int (u3 - m4)), some (.int (1 : Int32)), none]) (S' := [.ref 28, .int ((((25 : Int32) * (s638.1 33)) + (1 : Int32)) + (s638.1 35)), .int (1 : Int32), .ref 28]) (w' := px_w K s638 t639) (q := []) 12 hM rfl trivial ?_
                          refine px_blk (i' := 126) (L' := [some (.ref 28), some (.int u1), some (.int u2), some (.int u3), some (.int m4), some (.int y598), some (.int (u3 - m4)), some (.int (1 : Int32)), none]) (S' := [.int (0 : Int32), .ref 43, .int ((((25 : Int32) * (s638.1 33)) + (1 : Int32)) + (s638.1 35)), .int (1 : Int32), .ref 28]) (w' := px_w K s638 t639) (q := []) 2 hM rfl trivial ?_
                          rcases px_bv_some h with ⟨s643, t644, hk645, h⟩ | ⟨x647, s643, t644, hk645, h⟩
                          · refine px_E_call hM rfl rfl rfl rfl (px_E_mono (by decide) (e_M_write_28_43 K N (1 : Int32) ((((25 : Int32) * (s638.1 33)) + (1 : Int32)) + (s638.1 35)) (0 : Int32) s638 t639 _ hk645)) ?_
                            refine px_blkif (c := (1 : Int32) = 0) (t := 134) (e := 129) (L' := [some (.ref 28), some (.int u1), some (.int u2), some (.int u3), some (.int m4), some (.int y598), some (.int (u3 - m4)), some (.int (1 : Int32)), none]) (S' := []) (w' := px_w K s643 t644) (q := []) 2 hM rfl trivial (fun hc648 => ?_) (fun hc648 => ?_)
                            · rw [if_pos hc648] at h
                              refine px_blk (i' := 140) (L' := [some (.ref 28), some (.int u1), some (.int u2), some (.int u3), some (.int m4), some (.int y598), some (.int (u3 - m4)), some (.int (1 : Int32)), none]) (S' := []) (w' := px_w K (sR s643 35 ((s643.1 35) + (1 : Int32))) t644) (q := []) 6 hM rfl trivial ?_
                              obtain ⟨s649, hs650, h⟩ := px_let_some h
                              rw [← hs650]
                              refine px_blk (i' := 8) (L' := [some (.ref 28), some (.int u1), some (.int u2), some (.int u3), some (.int (m4 + (u3 - m4))), some (.int y598), some (.int (u3 - m4)), some (.int (1 : Int32)), none]) (S' := []) (w' := px_w K s649 t644) (q := []) 5 hM rfl trivial ?_
                              exact px_E_le (px_leC_L _ _ (by simp [px_leC, px_le1, Value.category])) (ih (m4 + (u3 - m4)) y598 s649 t644 z h o w2 ha)
                            · rw [if_neg hc648] at h
                              refine px_blkif (c := u2 = 0) (t := 134) (e := 131) (L' := [some (.ref 28), some (.int u1), some (.int u2), some (.int u3), some (.int m4), some (.int y598), some (.int (u3 - m4)), some (.int (1 : Int32)), none]) (S' := []) (w' := px_w K s643 t644) (q := []) 2 hM rfl trivial (fun hc651 => ?_) (fun hc651 => ?_)
                              · rw [if_pos hc651] at h
                                refine px_blk (i' := 140) (L' := [some (.ref 28), some (.int u1), some (.int u2), some (.int u3), some (.int m4), some (.int y598), some (.int (u3 - m4)), some (.int (1 : Int32)), none]) (S' := []) (w' := px_w K (sR s643 35 ((s643.1 35) + (1 : Int32))) t644) (q := []) 6 hM rfl trivial ?_
                                obtain ⟨s652, hs653, h⟩ := px_let_some h
                                rw [← hs653]
                                refine px_blk (i' := 8) (L' := [some (.ref 28), some (.int u1), some (.int u2), some (.int u3), some (.int (m4 + (u3 - m4))), some (.int y598), some (.int (u3 - m4)), some (.int (1 : Int32)), none]) (S' := []) (w' := px_w K s652 t644) (q := []) 5 hM rfl trivial ?_
                                exact px_E_le (px_leC_L _ _ (by simp [px_leC, px_le1, Value.category])) (ih (m4 + (u3 - m4)) y598 s652 t644 z h o w2 ha)
                              · rw [if_neg hc651] at h
                                refine px_blk (i' := 133) (L' := [some (.ref 28), some (.int u1), some (.int u2), some (.int u3), some (.int m4), some (.int y598), some (.int (u3 - m4)), some (.int (1 : Int32)), none]) (S' := [.int (1 : Int32), .ref 28]) (w' := px_w K s643 t644) (q := []) 2 hM rfl trivial ?_
                                rcases px_bv_some h with ⟨s654, t655, hk656, h⟩ | ⟨x658, s654, t655, hk656, h⟩
                                · refine px_E_call hM rfl rfl rfl rfl (px_E_mono (by decide) (e_M_flush_28 K N (1 : Int32) s643 t644 _ hk656)) ?_
                                  refine px_blk (i' := 140) (L' := [some (.ref 28), some (.int u1), some (.int u2), some (.int u3), some (.int m4), some (.int y598), some (.int (u3 - m4)), some (.int (1 : Int32)), none]) (S' := []) (w' := px_w K (sR s654 35 ((s654.1 35) + (1 : Int32))) t655) (q := []) 6 hM rfl trivial ?_
                                  obtain ⟨s659, hs660, h⟩ := px_let_some h
                                  rw [← hs660]
                                  refine px_blk (i' := 8) (L' := [some (.ref 28), some (.int u1), some (.int u2), some (.int u3), some (.int (m4 + (u3 - m4))), some (.int y598), some (.int (u3 - m4)), some (.int (1 : Int32)), none]) (S' := []) (w' := px_w K s659 t655) (q := []) 5 hM rfl trivial ?_
                                  exact px_E_le (px_leC_L _ _ (by simp [px_leC, px_le1, Value.category])) (ih (m4 + (u3 - m4)) y598 s659 t655 z h o w2 ha)
                                · cases h
                          · cases h
                        · cases h
                  · rw [if_neg hi599] at h
                    cases h
                · cases h
                  obtain ⟨rfl, rfl⟩ := ha
                  exact e_l_M_records_28_70 K N u1 u2 u3 m4 (u3 - m4) (1 : Int32) N m5 (0 : Int32) s590 t500 _ hl596 _ _ ⟨rfl, rfl⟩
            · rw [if_neg hi503] at h
              cases h
          · cases h
            obtain ⟨rfl, rfl⟩ := ha
            exact e_l_M_records_28_33 K N u1 u2 u3 m4 m5 (u3 - m4) (1 : Int32) N (4 : Int32) s t _ hl501 _ _ ⟨rfl, rfl⟩
noncomputable def f_M_records_28 (K : px_K) (N : Nat) (a0 : Int32) (a1 : Int32) (s : px_S) (t : px_W) : Option px_Res :=
  (px_bi (f_M_dirtyOf_28 K N a0 s t) (fun v4 s1 t2 => (px_lp (l_M_records_28_8 K N N a0 a1 v4 (0 : Int32) (0 : Int32) s1 t2) (fun i6 vs7 s8 t9 => (if i6 = 145 then (px_v0 vs7 (some (.inl none, s8, t9))) else none)) (fun z11 => some z11))) (fun x5 s1 t2 => none))
set_option maxRecDepth 100000 in
theorem e_M_records_28 (K : px_K) (N : Nat) (a0 : Int32) (a1 : Int32) (s : px_S) (t : px_W) (r : px_Res) (h : f_M_records_28 K N a0 a1 s t = some r) : px_E px_ET px_P 6 44 0 (px_ent 9 [.ref 28, .int a0, .int a1]) [] (px_w K s t) r.1 (px_w K r.2.1 r.2.2) := by
  have hM : px_P[44]? = some pm_M_records := rfl
  unfold f_M_records_28 at h
  refine px_blk (i' := 2) (L' := [some (.ref 28), some (.int a0), some (.int a1), none, none, none, none, none, none]) (S' := [.int a0, .ref 28]) (w' := px_w K s t) (q := []) 2 hM rfl trivial ?_
  rcases px_bi_some h with ⟨v4, s1, t2, hk3, h⟩ | ⟨x5, s1, t2, hk3, h⟩
  · refine px_E_call hM rfl rfl rfl rfl (px_E_mono (by decide) (e_M_dirtyOf_28 K N a0 s t _ hk3)) ?_
    refine px_blk (i' := 8) (L' := [some (.ref 28), some (.int a0), some (.int a1), some (.int v4), some (.int (0 : Int32)), some (.int (0 : Int32)), none, none, none]) (S' := []) (w' := px_w K s1 t2) (q := []) 5 hM rfl trivial ?_
    rcases px_lp_some h with ⟨i6, vs7, s8, t9, hl10, h⟩ | ⟨z11, hl10, h⟩
    · by_cases hi12 : i6 = 145
      · subst hi12
        rw [if_pos rfl] at h
        have h9 := px_v0_some h
        clear h
        obtain ⟨rfl, h⟩ := h9
        refine e_l_M_records_28_8 K N a0 a1 v4 N (0 : Int32) (0 : Int32) s1 t2 _ hl10 _ _ ?_
        show px_E px_ET px_P 6 44 145 [none, none, none, none, none, none, none, none, none] [] (px_w K s8 t9) _ _
        cases h
        exact px_E_ret hM rfl rfl rfl trivial
      · rw [if_neg hi12] at h
        cases h
    · cases h
      exact e_l_M_records_28_8 K N a0 a1 v4 N (0 : Int32) (0 : Int32) s1 t2 _ hl10 _ _ ⟨rfl, rfl⟩
  · cases h
