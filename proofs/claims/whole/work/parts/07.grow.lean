/-! THE CELLS GROW, AND NEVER SHRINK. -/
def px_gr (w w' : px_W) : Prop := w.length ≤ w'.length ∧ px_tot w ≤ px_tot w' ∧ (0 < w.length → w'[0]? = w[0]?)
theorem px_gr.rf {w : px_W} : px_gr w w := ⟨Nat.le_refl _, Nat.le_refl _, fun _ => rfl⟩
theorem px_gr.tr {w w1 w2 : px_W} (h : px_gr w w1) (h1 : px_gr w1 w2) : px_gr w w2 := ⟨Nat.le_trans h.1 h1.1, Nat.le_trans h.2.1 h1.2.1, fun q => (h1.2.2 (Nat.lt_of_lt_of_le q h.1)).trans (h.2.2 q)⟩
theorem px_gr.app {w : px_W} {e : va_E} : px_gr w (w ++ [e]) := ⟨by simp, by rw [px_tot_app]; omega, fun q => List.getElem?_append_left q⟩
theorem px_gr.set {w : px_W} {a : Nat} {e0 e : va_E} (h : w[a + 1]? = some e0) (hs : px_sz e = px_sz e0) : px_gr w (w.set (a + 1) e) := ⟨by simp, by rw [px_tot_set h hs]; exact Nat.le_refl _, fun _ => List.getElem?_set_ne (by omega)⟩
set_option maxHeartbeats 4000000 in
theorem px_step_gr {E : px_T} {r : px_R} {i i' : Nat} {L L' : px_L} {S S' : List Value} {w w' : px_W} {q : List Prop} (h : px_step E r i L S w = some (i', L', S', w', q)) : px_gr w w' := by
  unfold px_step at h
  split at h
  all_goals try simp only [px_go, px_ldi, px_ldl, px_lda, px_sti, px_sta, px_inc, px_i2, px_dv, px_l2, px_lh, px_b1, px_b2, px_gf, px_pf, px_al, px_as, px_ll, px_ls, px_le, px_cp, px_na, px_nw, px_tb, px_lk, px_du, px_d2, px_po, px_oi, px_il, px_lc] at h
  all_goals (repeat' split at h)
  all_goals first
    | (cases h; exact px_gr.rf)
    | (cases h; done)
    | (cases h; exact px_gr.app)
    | (cases h; exact px_gr.set (by assumption) (by simp [px_sz]))
set_option maxHeartbeats 1000000 in
theorem px_run_gr {E : px_T} {P : List px_M} : ∀ (n d mi i : Nat) (L : px_L) (S : List Value) (w : px_W) (x : px_O), px_run E P n d mi i L S w = some x → px_gr w x.2.1 := by
  intro n
  induction n with
  | zero => intro d mi i L S w x h; cases h
  | succ n ih =>
    intro d mi i L S w x h
    cases d with
    | zero => cases h
    | succ d =>
      rw [px_run_eq] at h
      cases hM : P[mi]? with
      | none => rw [hM] at h; cases h
      | some M =>
        rw [hM] at h
        (try dsimp only at h)
        cases hr : M.cd[i]? with
        | none => rw [hr] at h; cases h
        | some r =>
          rw [hr] at h
          (try dsimp only at h)
          rcases hkd : px_kd r with _ | _ | _ | _ | kd
          · simp only [hkd] at h
            (try dsimp only at h)
            cases hs : px_step E r i L S w with
            | none => rw [hs] at h; cases h
            | some z =>
              obtain ⟨i', L', S', w', q⟩ := z
              rw [hs] at h
              (try dsimp only at h)
              obtain ⟨ps, h1, h2⟩ := px_ad_eq.mp h
              exact (px_step_gr hs).tr (ih _ _ _ _ _ _ (x.1, x.2.1, ps) h1)
          · simp only [hkd] at h
            (try dsimp only at h)
            unfold px_rt at h
            split at h <;> first | (cases h; exact px_gr.rf) | cases h
          · simp only [hkd] at h
            (try dsimp only at h)
            split at h
            · cases h; exact px_gr.app
            · cases h
          · simp only [hkd] at h
            (try dsimp only at h)
            cases hN : P[px_nm r 1]? with
            | none => rw [hN] at h; cases h
            | some N =>
              rw [hN] at h
              (try dsimp only at h)
              split at h
              · cases hcal : px_run E P n d (px_nm r 1) 0 (px_ent N.ml (S.take (px_nm r 2)).reverse) [] w with
                | none => rw [hcal] at h; cases h
                | some z =>
                  rw [hcal] at h
                  have hg := ih _ _ _ _ _ _ _ hcal
                  obtain ⟨z1, w', q⟩ := z
                  cases z1 with
                  | inl v =>
                    (try dsimp only at h)
                    obtain ⟨ps, h1, h2⟩ := px_ad_eq.mp h
                    exact hg.tr (ih _ _ _ _ _ _ (x.1, x.2.1, ps) h1)
                  | inr a =>
                    (try dsimp only at h)
                    cases hf : px_hnd r.1 M.hs w' a with
                    | none => rw [hf] at h; cases h
                    | some hh =>
                      rw [hf] at h
                      cases hh with
                      | none => cases h; exact hg
                      | some hh =>
                        (try dsimp only at h)
                        obtain ⟨ps, h1, h2⟩ := px_ad_eq.mp h
                        exact hg.tr (ih _ _ _ _ _ _ (x.1, x.2.1, ps) h1)
              · cases h
          · simp only [hkd] at h
            cases h
