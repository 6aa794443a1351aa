/-! .. A RUN DOES NOT SEE THEM. -/
section PXF
variable {E : px_T} {P : List px_M} {r : px_R} {L L' L1 : px_L} {S S1 : List Value} {w w1 : px_W} {q : List Prop} {i1 : Nat}
theorem px_i2_le {f : Int32 → Int32 → Int32} {i : Nat} (h : px_i2 f i L S w = some (i1, L1, S1, w1, q)) : L1 = L ∧ px_i2 f i L' S w = some (i1, L', S1, w1, q) := by
  unfold px_i2 at h ⊢
  unfold px_go at h ⊢
  (repeat' split at h) <;> first | (cases h; done) | (cases h; exact ⟨rfl, rfl⟩) | (cases h; refine ⟨rfl, ?_⟩; simp [*])
theorem px_dv_le {f : Int32 → Int32 → Int32} {i : Nat} (h : px_dv f i L S w = some (i1, L1, S1, w1, q)) : L1 = L ∧ px_dv f i L' S w = some (i1, L', S1, w1, q) := by
  unfold px_dv at h ⊢
  (repeat' split at h) <;> first | (cases h; done) | (cases h; exact ⟨rfl, rfl⟩) | (cases h; refine ⟨rfl, ?_⟩; simp [*])
theorem px_l2_le {f : Int64 → Int64 → Int64} {i : Nat} (h : px_l2 f i L S w = some (i1, L1, S1, w1, q)) : L1 = L ∧ px_l2 f i L' S w = some (i1, L', S1, w1, q) := by
  unfold px_l2 at h ⊢
  unfold px_go at h ⊢
  (repeat' split at h) <;> first | (cases h; done) | (cases h; exact ⟨rfl, rfl⟩) | (cases h; refine ⟨rfl, ?_⟩; simp [*])
theorem px_lh_le {f : Int64 → Int32 → Int64} {i : Nat} (h : px_lh f i L S w = some (i1, L1, S1, w1, q)) : L1 = L ∧ px_lh f i L' S w = some (i1, L', S1, w1, q) := by
  unfold px_lh at h ⊢
  unfold px_go at h ⊢
  (repeat' split at h) <;> first | (cases h; done) | (cases h; exact ⟨rfl, rfl⟩) | (cases h; refine ⟨rfl, ?_⟩; simp [*])
theorem px_b1_le {f : Int32 → Prop} {hf : ∀ x, Decidable (f x)} {t i : Nat} (h : px_b1 f hf t i L S w = some (i1, L1, S1, w1, q)) : L1 = L ∧ px_b1 f hf t i L' S w = some (i1, L', S1, w1, q) := by
  unfold px_b1 at h ⊢
  unfold px_go at h ⊢
  (repeat' split at h) <;> first | (cases h; done) | (cases h; exact ⟨rfl, rfl⟩) | (cases h; refine ⟨rfl, ?_⟩; simp [*])
theorem px_b2_le {f : Int32 → Int32 → Prop} {hf : ∀ x y, Decidable (f x y)} {t i : Nat} (h : px_b2 f hf t i L S w = some (i1, L1, S1, w1, q)) : L1 = L ∧ px_b2 f hf t i L' S w = some (i1, L', S1, w1, q) := by
  unfold px_b2 at h ⊢
  unfold px_go at h ⊢
  (repeat' split at h) <;> first | (cases h; done) | (cases h; exact ⟨rfl, rfl⟩) | (cases h; refine ⟨rfl, ?_⟩; simp [*])
theorem px_gf_le {ci k i : Nat} (h : px_gf ci k i L S w = some (i1, L1, S1, w1, q)) : L1 = L ∧ px_gf ci k i L' S w = some (i1, L', S1, w1, q) := by
  unfold px_gf at h ⊢
  unfold px_go at h ⊢
  (repeat' split at h) <;> first | (cases h; done) | (cases h; exact ⟨rfl, rfl⟩) | (cases h; refine ⟨rfl, ?_⟩; simp [*])
theorem px_pf_le {ty : FieldType} {ci k i : Nat} (h : px_pf ty ci k i L S w = some (i1, L1, S1, w1, q)) : L1 = L ∧ px_pf ty ci k i L' S w = some (i1, L', S1, w1, q) := by
  unfold px_pf at h ⊢
  (repeat' split at h) <;> first | (cases h; done) | (cases h; exact ⟨rfl, rfl⟩) | (cases h; refine ⟨rfl, ?_⟩; simp [*])
theorem px_al_le {g i : Nat} (h : px_al g i L S w = some (i1, L1, S1, w1, q)) : L1 = L ∧ px_al g i L' S w = some (i1, L', S1, w1, q) := by
  unfold px_al at h ⊢
  (repeat' split at h) <;> first | (cases h; done) | (cases h; exact ⟨rfl, rfl⟩) | (cases h; refine ⟨rfl, ?_⟩; simp [*])
theorem px_as_le {g i : Nat} (h : px_as g i L S w = some (i1, L1, S1, w1, q)) : L1 = L ∧ px_as g i L' S w = some (i1, L', S1, w1, q) := by
  unfold px_as at h ⊢
  (repeat' split at h) <;> first | (cases h; done) | (cases h; exact ⟨rfl, rfl⟩) | (cases h; refine ⟨rfl, ?_⟩; simp [*])
theorem px_ll_le {i : Nat} (h : px_ll i L S w = some (i1, L1, S1, w1, q)) : L1 = L ∧ px_ll i L' S w = some (i1, L', S1, w1, q) := by
  unfold px_ll at h ⊢
  (repeat' split at h) <;> first | (cases h; done) | (cases h; exact ⟨rfl, rfl⟩) | (cases h; refine ⟨rfl, ?_⟩; simp [*])
theorem px_ls_le {i : Nat} (h : px_ls i L S w = some (i1, L1, S1, w1, q)) : L1 = L ∧ px_ls i L' S w = some (i1, L', S1, w1, q) := by
  unfold px_ls at h ⊢
  (repeat' split at h) <;> first | (cases h; done) | (cases h; exact ⟨rfl, rfl⟩) | (cases h; refine ⟨rfl, ?_⟩; simp [*])
theorem px_le_le {i : Nat} (h : px_le i L S w = some (i1, L1, S1, w1, q)) : L1 = L ∧ px_le i L' S w = some (i1, L', S1, w1, q) := by
  unfold px_le at h ⊢
  unfold px_go at h ⊢
  (repeat' split at h) <;> first | (cases h; done) | (cases h; exact ⟨rfl, rfl⟩) | (cases h; refine ⟨rfl, ?_⟩; simp [*])
theorem px_cp_le {i : Nat} (h : px_cp i L S w = some (i1, L1, S1, w1, q)) : L1 = L ∧ px_cp i L' S w = some (i1, L', S1, w1, q) := by
  unfold px_cp at h ⊢
  (repeat' split at h) <;> first | (cases h; done) | (cases h; exact ⟨rfl, rfl⟩) | (cases h; refine ⟨rfl, ?_⟩; simp [*])
theorem px_na_le {g i : Nat} (h : px_na g i L S w = some (i1, L1, S1, w1, q)) : L1 = L ∧ px_na g i L' S w = some (i1, L', S1, w1, q) := by
  unfold px_na at h ⊢
  (repeat' split at h) <;> first | (cases h; done) | (cases h; exact ⟨rfl, rfl⟩) | (cases h; refine ⟨rfl, ?_⟩; simp [*])
theorem px_nw_le {ci : Nat} {fs : List Value} {i : Nat} (h : px_nw ci fs i L S w = some (i1, L1, S1, w1, q)) : L1 = L ∧ px_nw ci fs i L' S w = some (i1, L', S1, w1, q) := by
  unfold px_nw at h ⊢
  unfold px_go at h ⊢
  (repeat' split at h) <;> first | (cases h; done) | (cases h; exact ⟨rfl, rfl⟩) | (cases h; refine ⟨rfl, ?_⟩; simp [*])
theorem px_tb_le {lo hi : Int} {ts : List Nat} (h : px_tb lo hi ts L S w = some (i1, L1, S1, w1, q)) : L1 = L ∧ px_tb lo hi ts L' S w = some (i1, L', S1, w1, q) := by
  unfold px_tb at h ⊢
  unfold px_go at h ⊢
  (repeat' split at h) <;> first | (cases h; done) | (cases h; exact ⟨rfl, rfl⟩) | (cases h; refine ⟨rfl, ?_⟩; simp [*])
theorem px_lk_le {ps : Array (Int × Int)} {ts : List Nat} (h : px_lk ps ts L S w = some (i1, L1, S1, w1, q)) : L1 = L ∧ px_lk ps ts L' S w = some (i1, L', S1, w1, q) := by
  unfold px_lk at h ⊢
  unfold px_go at h ⊢
  (repeat' split at h) <;> first | (cases h; done) | (cases h; exact ⟨rfl, rfl⟩) | (cases h; refine ⟨rfl, ?_⟩; simp [*])
theorem px_du_le {i : Nat} (h : px_du i L S w = some (i1, L1, S1, w1, q)) : L1 = L ∧ px_du i L' S w = some (i1, L', S1, w1, q) := by
  unfold px_du at h ⊢
  unfold px_go at h ⊢
  (repeat' split at h) <;> first | (cases h; done) | (cases h; exact ⟨rfl, rfl⟩) | (cases h; refine ⟨rfl, ?_⟩; simp [*])
theorem px_d2_le {i : Nat} (h : px_d2 i L S w = some (i1, L1, S1, w1, q)) : L1 = L ∧ px_d2 i L' S w = some (i1, L', S1, w1, q) := by
  unfold px_d2 at h ⊢
  unfold px_go at h ⊢
  (repeat' split at h) <;> first | (cases h; done) | (cases h; exact ⟨rfl, rfl⟩) | (cases h; refine ⟨rfl, ?_⟩; simp [*])
theorem px_po_le {i : Nat} (h : px_po i L S w = some (i1, L1, S1, w1, q)) : L1 = L ∧ px_po i L' S w = some (i1, L', S1, w1, q) := by
  unfold px_po at h ⊢
  unfold px_go at h ⊢
  (repeat' split at h) <;> first | (cases h; done) | (cases h; exact ⟨rfl, rfl⟩) | (cases h; refine ⟨rfl, ?_⟩; simp [*])
theorem px_oi_le {i : Nat} (h : px_oi i L S w = some (i1, L1, S1, w1, q)) : L1 = L ∧ px_oi i L' S w = some (i1, L', S1, w1, q) := by
  unfold px_oi at h ⊢
  unfold px_go at h ⊢
  (repeat' split at h) <;> first | (cases h; done) | (cases h; exact ⟨rfl, rfl⟩) | (cases h; refine ⟨rfl, ?_⟩; simp [*])
theorem px_il_le {i : Nat} (h : px_il i L S w = some (i1, L1, S1, w1, q)) : L1 = L ∧ px_il i L' S w = some (i1, L', S1, w1, q) := by
  unfold px_il at h ⊢
  unfold px_go at h ⊢
  (repeat' split at h) <;> first | (cases h; done) | (cases h; exact ⟨rfl, rfl⟩) | (cases h; refine ⟨rfl, ?_⟩; simp [*])
theorem px_lc_le {i : Nat} (h : px_lc i L S w = some (i1, L1, S1, w1, q)) : L1 = L ∧ px_lc i L' S w = some (i1, L', S1, w1, q) := by
  unfold px_lc at h ⊢
  unfold px_go at h ⊢
  (repeat' split at h) <;> first | (cases h; done) | (cases h; exact ⟨rfl, rfl⟩) | (cases h; refine ⟨rfl, ?_⟩; simp [*])
set_option maxHeartbeats 4000000 in
theorem px_step_le {i : Nat} (hL : px_leL L L') (h : px_step E r i L S w = some (i1, L1, S1, w1, q)) : ∃ L2, px_step E r i L' S w = some (i1, L2, S1, w1, q) ∧ px_leL L1 L2 := by
  have same : ∀ {x : Option px_C}, L1 = L ∧ x = some (i1, L', S1, w1, q) → ∃ L2, x = some (i1, L2, S1, w1, q) ∧ px_leL L1 L2 := fun hx => ⟨L', hx.2, hx.1 ▸ hL⟩
  have ldi : ∀ j : Nat, px_ldi j i L S w = some (i1, L1, S1, w1, q) → ∃ L2, px_ldi j i L' S w = some (i1, L2, S1, w1, q) ∧ px_leL L1 L2 := by
    intro j h
    unfold px_ldi at h ⊢
    split at h
    · rename_i v hv
      rw [px_leL_lg hL hv]
      cases h
      exact ⟨L', rfl, hL⟩
    · cases h
  have ldl : ∀ j : Nat, px_ldl j i L S w = some (i1, L1, S1, w1, q) → ∃ L2, px_ldl j i L' S w = some (i1, L2, S1, w1, q) ∧ px_leL L1 L2 := by
    intro j h
    unfold px_ldl at h ⊢
    split at h
    · rename_i v hv
      rw [px_leL_lg hL hv]
      cases h
      exact ⟨L', rfl, hL⟩
    · cases h
  have lda : ∀ j : Nat, px_lda j i L S w = some (i1, L1, S1, w1, q) → ∃ L2, px_lda j i L' S w = some (i1, L2, S1, w1, q) ∧ px_leL L1 L2 := by
    intro j h
    unfold px_lda at h ⊢
    split at h
    · rename_i v hv
      rw [px_leL_lg hL hv]
      cases h
      exact ⟨L', rfl, hL⟩
    · cases h
  have sti : ∀ j : Nat, px_sti j i L S w = some (i1, L1, S1, w1, q) → ∃ L2, px_sti j i L' S w = some (i1, L2, S1, w1, q) ∧ px_leL L1 L2 := by
    intro j h
    unfold px_sti at h ⊢
    split at h
    · split at h
      · rename_i hj
        cases h
        rw [if_pos ⟨px_leL_n2 hL hj.1, by rw [← hL.1]; exact hj.2⟩]
        exact ⟨_, rfl, px_leL_set hL⟩
      · cases h
    · cases h
  have sta : ∀ j : Nat, px_sta j i L S w = some (i1, L1, S1, w1, q) → ∃ L2, px_sta j i L' S w = some (i1, L2, S1, w1, q) ∧ px_leL L1 L2 := by
    intro j h
    unfold px_sta at h ⊢
    split at h
    · split at h
      · rename_i hj
        cases h
        rw [if_pos ⟨px_leL_n2 hL hj.1, by rw [← hL.1]; exact hj.2⟩]
        exact ⟨_, rfl, px_leL_set hL⟩
      · cases h
    · cases h
  have inc : ∀ (j : Nat) (v : Value), px_inc j v i L S w = some (i1, L1, S1, w1, q) → ∃ L2, px_inc j v i L' S w = some (i1, L2, S1, w1, q) ∧ px_leL L1 L2 := by
    intro j v h
    unfold px_inc at h ⊢
    split at h
    · rename_i n' x' hx
      rw [px_leL_lg hL hx]
      split at h
      · rename_i hj
        cases h
        dsimp only
        rw [if_pos ⟨px_leL_n2 hL hj.1, by rw [← hL.1]; exact hj.2⟩]
        exact ⟨_, rfl, px_leL_set hL⟩
      · cases h
    · cases h
  obtain ⟨pc, ins, len, nums, v⟩ := r
  unfold px_step at h ⊢
  dsimp only at h
  split at h
  all_goals (rename_i heq; (try dsimp only at heq); (try subst heq))
  all_goals first
    | (cases h; done)
    | (unfold px_go at h ⊢; cases h; exact ⟨L', rfl, hL⟩)
    | exact ldi _ h
    | exact ldl _ h
    | exact lda _ h
    | exact sti _ h
    | exact sta _ h
    | exact inc _ _ h
    | exact same (px_i2_le h)
    | exact same (px_dv_le h)
    | exact same (px_l2_le h)
    | exact same (px_lh_le h)
    | exact same (px_b1_le h)
    | exact same (px_b2_le h)
    | exact same (px_gf_le h)
    | exact same (px_pf_le h)
    | exact same (px_al_le h)
    | exact same (px_as_le h)
    | exact same (px_ll_le h)
    | exact same (px_ls_le h)
    | exact same (px_le_le h)
    | exact same (px_cp_le h)
    | exact same (px_na_le h)
    | exact same (px_nw_le h)
    | exact same (px_tb_le h)
    | exact same (px_lk_le h)
    | exact same (px_du_le h)
    | exact same (px_d2_le h)
    | exact same (px_po_le h)
    | exact same (px_oi_le h)
    | exact same (px_il_le h)
    | exact same (px_lc_le h)
set_option maxHeartbeats 1000000 in
theorem px_run_le : ∀ (n d mi i : Nat) (L L' : px_L) (S : List Value) (w : px_W) (x : px_O), px_leL L L' → px_run E P n d mi i L S w = some x → px_run E P n d mi i L' S w = some x := by
  intro n
  induction n with
  | zero => intro d mi i L L' S w x _ h; cases h
  | succ n ih =>
    intro d mi i L L' S w x hL h
    cases d with
    | zero => cases h
    | succ d =>
      rw [px_run_eq] at h ⊢
      cases hM : P[mi]? with
      | none => rw [hM] at h; cases h
      | some M =>
        rw [hM] at h
        dsimp only at h ⊢
        cases hr : M.cd[i]? with
        | none => rw [hr] at h; cases h
        | some r =>
          rw [hr] at h
          dsimp only at h ⊢
          rcases hkd : px_kd r with _ | _ | _ | _ | kd
          · simp only [hkd] at h ⊢
            cases hs : px_step E r i L S w with
            | none => rw [hs] at h; cases h
            | some z =>
              obtain ⟨i1, L1, S1, w1, q1⟩ := z
              rw [hs] at h
              dsimp only at h
              obtain ⟨L2, h2, hL2⟩ := px_step_le hL hs
              rw [h2]
              dsimp only
              obtain ⟨ps, k1, k2⟩ := px_ad_eq.mp h
              exact px_ad_eq.mpr ⟨ps, ih _ _ _ _ _ _ _ _ hL2 k1, k2⟩
          · simp only [hkd] at h ⊢
            exact h
          · simp only [hkd] at h ⊢
            exact h
          · simp only [hkd] at h ⊢
            cases hN : P[px_nm r 1]? with
            | none => rw [hN] at h; cases h
            | some N =>
              rw [hN] at h
              dsimp only at h ⊢
              split at h
              · rename_i hc
                rw [if_pos hc]
                cases hcal : px_run E P n d (px_nm r 1) 0 (px_ent N.ml (S.take (px_nm r 2)).reverse) [] w with
                | none => rw [hcal] at h; cases h
                | some z =>
                  obtain ⟨o1, w1, q1⟩ := z
                  rw [hcal] at h
                  cases o1 with
                  | inl v =>
                    dsimp only at h ⊢
                    obtain ⟨ps, k1, k2⟩ := px_ad_eq.mp h
                    exact px_ad_eq.mpr ⟨ps, ih _ _ _ _ _ _ _ _ hL k1, k2⟩
                  | inr a =>
                    dsimp only at h ⊢
                    cases hf : px_hnd r.1 M.hs w1 a with
                    | none => rw [hf] at h; cases h
                    | some hh =>
                      rw [hf] at h
                      cases hh with
                      | none => exact h
                      | some hh =>
                        dsimp only at h ⊢
                        obtain ⟨ps, k1, k2⟩ := px_ad_eq.mp h
                        exact px_ad_eq.mpr ⟨ps, ih _ _ _ _ _ _ _ _ hL k1, k2⟩
              · cases h
          · simp only [hkd] at h
            cases h
theorem px_E_le {d mi i : Nat} {o : Option Value ⊕ Nat} {w2 : px_W} (hL : px_leL L L') (h : px_E E P d mi i L S w o w2) : px_E E P d mi i L' S w o w2 := by
  obtain ⟨n, qs, h1, h2⟩ := h
  exact ⟨n, qs, px_run_le _ _ _ _ _ _ _ _ _ hL h1, h2⟩
/-- the check for two lists of locals as they are printed -/
def px_leC : px_L → px_L → Prop
  | [], [] => True
  | a :: l, b :: m => px_le1 a b ∧ px_leC l m
  | _, _ => False
theorem px_leC_L : ∀ (l m : px_L), px_leC l m → px_leL l m := by
  intro l
  induction l with
  | nil =>
    intro m h
    cases m with
    | nil => exact ⟨rfl, fun j a b ha => by simp at ha⟩
    | cons b m => exact absurd h id
  | cons a l ih =>
    intro m h
    cases m with
    | nil => exact absurd h id
    | cons b m =>
      obtain ⟨h1, h2⟩ := h
      obtain ⟨k1, k2⟩ := ih m h2
      refine ⟨by simp [k1], fun j x y hx hy => ?_⟩
      cases j with
      | zero => simp at hx hy; subst hx; subst hy; exact h1
      | succ j => exact k2 j x y (by simpa using hx) (by simpa using hy)
end PXF
