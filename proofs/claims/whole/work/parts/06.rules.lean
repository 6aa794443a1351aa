/-! RULES OF THE PURE MACHINE. -/
section PXE
variable {E : px_T} {P : List px_M} {M N : px_M} {r : px_R} {d mi i i' : Nat} {L L' : px_L} {S S' : List Value} {w w' w2 : px_W} {q : List Prop} {o : Option Value ⊕ Nat}
theorem px_ad_eq {q : List Prop} {x : Option px_O} {y : px_O} : px_ad q x = some y ↔ ∃ ps, x = some (y.1, y.2.1, ps) ∧ y.2.2 = q ++ ps := by
  unfold px_ad
  cases x with
  | none => simp
  | some z =>
    obtain ⟨z1, z2, z3⟩ := z
    obtain ⟨y1, y2, y3⟩ := y
    simp only [Option.some.injEq, Prod.mk.injEq]
    constructor
    · rintro ⟨rfl, rfl, rfl⟩
      exact ⟨z3, ⟨rfl, rfl, rfl⟩, rfl⟩
    · rintro ⟨ps, ⟨rfl, rfl, rfl⟩, rfl⟩
      exact ⟨rfl, rfl, rfl⟩
theorem px_run_eq {n : Nat} : px_run E P (n + 1) (d + 1) mi i L S w = (match P[mi]? with
    | none => none
    | some M => match M.cd[i]? with
      | none => none
      | some r => match px_kd r with
        | 0 => match px_step E r i L S w with
          | none => none
          | some (i', L', S', w', q) => px_ad q (px_run E P n (d + 1) mi i' L' S' w')
        | 1 => px_rt M.rt r S w
        | 2 => if 8 ≤ d ∧ (S.map fun v => v.category).sum ≤ 8 then some (.inr w.length, w ++ [px_exc (px_nm r 0)], []) else none
        | 3 => match P[px_nm r 1]? with
          | none => none
          | some N => if px_okc r N S w = true then (match px_run E P n d (px_nm r 1) 0 (px_ent N.ml (S.take (px_nm r 2)).reverse) [] w with
            | none => none
            | some (.inl v, w', q) => px_ad q (px_run E P n (d + 1) mi (i + 1) L (v.toList ++ S.drop (px_nm r 2)) w')
            | some (.inr a, w', q) => match px_hnd r.1 M.hs w' a with
              | none => none
              | some none => some (.inr a, w', q)
              | some (some h) => px_ad q (px_run E P n (d + 1) mi h L [.ref a] w')) else none
        | _ => none : Option px_O) := rfl
set_option maxHeartbeats 1000000 in
theorem px_run_mono : ∀ (n n' d d' mi i : Nat) (L : px_L) (S : List Value) (w : px_W) (x : px_O), n ≤ n' → d ≤ d' → px_run E P n d mi i L S w = some x → px_run E P n' d' mi i L S w = some x := by
  intro n
  induction n with
  | zero => intro n' d d' mi i L S w x _ _ h; cases h
  | succ n ih =>
    intro n' d d' mi i L S w x hn hd h
    obtain ⟨n', rfl⟩ : ∃ k, n' = k + 1 := ⟨n' - 1, by omega⟩
    cases d with
    | zero => cases h
    | succ d =>
      obtain ⟨d', rfl⟩ : ∃ k, d' = k + 1 := ⟨d' - 1, by omega⟩
      rw [px_run_eq] at h ⊢
      cases hM : P[mi]? with
      | none => rw [hM] at h; cases h
      | some M =>
        rw [hM] at h
        (try dsimp only at h ⊢)
        cases hr : M.cd[i]? with
        | none => rw [hr] at h; cases h
        | some r =>
          rw [hr] at h
          (try dsimp only at h ⊢)
          rcases hkd : px_kd r with _ | _ | _ | _ | kd
          · simp only [hkd] at h ⊢
            (try dsimp only at h ⊢)
            cases hs : px_step E r i L S w with
            | none => rw [hs] at h; cases h
            | some z =>
              obtain ⟨i', L', S', w', q⟩ := z
              rw [hs] at h
              (try dsimp only at h ⊢)
              obtain ⟨ps, h1, h2⟩ := px_ad_eq.mp h
              exact px_ad_eq.mpr ⟨ps, ih _ _ _ _ _ _ _ _ _ (by omega) hd h1, h2⟩
          · simp only [hkd] at h ⊢
            exact h
          · simp only [hkd] at h ⊢
            (try dsimp only at h ⊢)
            split at h
            · rename_i hc
              rw [if_pos ⟨by omega, hc.2⟩]
              exact h
            · cases h
          · simp only [hkd] at h ⊢
            (try dsimp only at h ⊢)
            cases hN : P[px_nm r 1]? with
            | none => rw [hN] at h; cases h
            | some N =>
              rw [hN] at h
              (try dsimp only at h ⊢)
              split at h
              · rename_i hc
                rw [if_pos hc]
                cases hcal : px_run E P n d (px_nm r 1) 0 (px_ent N.ml (S.take (px_nm r 2)).reverse) [] w with
                | none => rw [hcal] at h; cases h
                | some z =>
                  rw [hcal] at h
                  rw [ih _ _ _ _ _ _ _ _ _ (show n ≤ n' by omega) (show d ≤ d' by omega) hcal]
                  obtain ⟨z1, w', q⟩ := z
                  cases z1 with
                  | inl v =>
                    (try dsimp only at h ⊢)
                    obtain ⟨ps, h1, h2⟩ := px_ad_eq.mp h
                    exact px_ad_eq.mpr ⟨ps, ih _ _ _ _ _ _ _ _ _ (by omega) hd h1, h2⟩
                  | inr a =>
                    (try dsimp only at h ⊢)
                    cases hf : px_hnd r.1 M.hs w' a with
                    | none => rw [hf] at h; cases h
                    | some hh =>
                      rw [hf] at h
                      cases hh with
                      | none => exact h
                      | some hh =>
                        (try dsimp only at h ⊢)
                        obtain ⟨ps, h1, h2⟩ := px_ad_eq.mp h
                        exact px_ad_eq.mpr ⟨ps, ih _ _ _ _ _ _ _ _ _ (by omega) hd h1, h2⟩
              · cases h
          · simp only [hkd] at h
            cases h
theorem px_E_mono {d' : Nat} (hd : d ≤ d') (h : px_E E P d mi i L S w o w2) : px_E E P d' mi i L S w o w2 := by
  obtain ⟨n, qs, h1, h2⟩ := h
  exact ⟨n, qs, px_run_mono _ _ _ _ _ _ _ _ _ _ (Nat.le_refl _) hd h1, h2⟩
theorem px_E_step (hM : P[mi]? = some M) (hr : M.cd[i]? = some r) (hk : px_kd r = 0) (h : px_step E r i L S w = some (i', L', S', w', q)) (hq : px_all q) (hE : px_E E P (d + 1) mi i' L' S' w' o w2) : px_E E P (d + 1) mi i L S w o w2 := by
  obtain ⟨n, qs, h1, h2⟩ := hE
  refine ⟨n + 1, q ++ qs, ?_, px_all_app.mpr ⟨hq, h2⟩⟩
  rw [px_run_eq]
  simp only [hM, hr, hk, h, h1]
  rfl
theorem px_steps_acc : ∀ (k i : Nat) (L : px_L) (S : List Value) (w : px_W) (q0 : List Prop) (i' : Nat) (L' : px_L) (S' : List Value) (w' : px_W) (q : List Prop), P[mi]? = some M → px_steps E M.cd k (i, L, S, w, q0) = some (i', L', S', w', q) → px_all q → px_E E P (d + 1) mi i' L' S' w' o w2 → px_E E P (d + 1) mi i L S w o w2 ∧ px_all q0 := by
  intro k
  induction k with
  | zero =>
    intro i L S w q0 i' L' S' w' q hM h hq hE
    cases h
    exact ⟨hE, hq⟩
  | succ k ih =>
    intro i L S w q0 i' L' S' w' q hM h hq hE
    unfold px_steps at h
    cases hr : M.cd[i]? with
    | none => rw [hr] at h; cases h
    | some r =>
      rw [hr] at h
      dsimp only at h
      cases hk : px_kd r with
      | succ z => rw [hk] at h; cases h
      | zero =>
        rw [hk] at h
        (try dsimp only at h)
        cases hs : px_step E r i L S w with
        | none => rw [hs] at h; cases h
        | some z =>
          obtain ⟨i1, L1, S1, w1, q1⟩ := z
          rw [hs] at h
          (try dsimp only at h)
          obtain ⟨h1, h2⟩ := ih _ _ _ _ _ _ _ _ _ _ hM h hq hE
          obtain ⟨h3, h4⟩ := px_all_app.mp h2
          exact ⟨px_E_step hM hr hk hs h4 h1, h3⟩
/-- a stretch -/
theorem px_blk (k : Nat) (hM : P[mi]? = some M) (h : px_steps E M.cd k (i, L, S, w, []) = some (i', L', S', w', q)) (hq : px_all q) (hE : px_E E P (d + 1) mi i' L' S' w' o w2) : px_E E P (d + 1) mi i L S w o w2 :=
  (px_steps_acc k i L S w [] i' L' S' w' q hM h hq hE).1
theorem px_E_ret (hM : P[mi]? = some M) (hr : M.cd[i]? = some r) (hk : px_kd r = 1) (h : px_rt M.rt r S w = some (o, w2, q)) (hq : px_all q) : px_E E P (d + 1) mi i L S w o w2 := by
  refine ⟨1, q, ?_, hq⟩
  rw [px_run_eq]
  simp only [hM, hr, hk, h]
theorem px_E_throw (hM : P[mi]? = some M) (hr : M.cd[i]? = some r) (hk : px_kd r = 2) (hd : 8 ≤ d) (hs : (S.map fun v => v.category).sum ≤ 8) : px_E E P (d + 1) mi i L S w (.inr w.length) (w ++ [px_exc (px_nm r 0)]) := by
  refine ⟨1, [], ?_, trivial⟩
  rw [px_run_eq]
  simp only [hM, hr, hk]
  rw [if_pos ⟨hd, hs⟩]
theorem px_E_call {v : Option Value} (hM : P[mi]? = some M) (hr : M.cd[i]? = some r) (hk : px_kd r = 3) (hN : P[px_nm r 1]? = some N) (hc : px_okc r N S w = true)
    (h1 : px_E E P d (px_nm r 1) 0 (px_ent N.ml (S.take (px_nm r 2)).reverse) [] w (.inl v) w') (h2 : px_E E P (d + 1) mi (i + 1) L (v.toList ++ S.drop (px_nm r 2)) w' o w2) : px_E E P (d + 1) mi i L S w o w2 := by
  obtain ⟨n1, q1, a1, b1⟩ := h1
  obtain ⟨n2, q2, a2, b2⟩ := h2
  refine ⟨n1 + n2 + 1, q1 ++ q2, ?_, px_all_app.mpr ⟨b1, b2⟩⟩
  rw [px_run_eq]
  simp only [hM, hr, hk, hN]
  rw [if_pos hc, px_run_mono _ (n1 + n2) _ _ _ _ _ _ _ _ (by omega) (Nat.le_refl _) a1]
  dsimp only
  rw [px_run_mono _ (n1 + n2) _ _ _ _ _ _ _ _ (by omega) (Nat.le_refl _) a2]
  rfl
theorem px_E_callT {a : Nat} (hM : P[mi]? = some M) (hr : M.cd[i]? = some r) (hk : px_kd r = 3) (hN : P[px_nm r 1]? = some N) (hc : px_okc r N S w = true)
    (h1 : px_E E P d (px_nm r 1) 0 (px_ent N.ml (S.take (px_nm r 2)).reverse) [] w (.inr a) w') (hf : px_hnd r.1 M.hs w' a = some none) : px_E E P (d + 1) mi i L S w (.inr a) w' := by
  obtain ⟨n1, q1, a1, b1⟩ := h1
  refine ⟨n1 + 1, q1, ?_, b1⟩
  rw [px_run_eq]
  simp only [hM, hr, hk, hN]
  rw [if_pos hc, a1]
  dsimp only
  rw [hf]
theorem px_E_callC {a h : Nat} (hM : P[mi]? = some M) (hr : M.cd[i]? = some r) (hk : px_kd r = 3) (hN : P[px_nm r 1]? = some N) (hc : px_okc r N S w = true)
    (h1 : px_E E P d (px_nm r 1) 0 (px_ent N.ml (S.take (px_nm r 2)).reverse) [] w (.inr a) w') (hf : px_hnd r.1 M.hs w' a = some (some h)) (h2 : px_E E P (d + 1) mi h L [.ref a] w' o w2) : px_E E P (d + 1) mi i L S w o w2 := by
  obtain ⟨n1, q1, a1, b1⟩ := h1
  obtain ⟨n2, q2, a2, b2⟩ := h2
  refine ⟨n1 + n2 + 1, q1 ++ q2, ?_, px_all_app.mpr ⟨b1, b2⟩⟩
  rw [px_run_eq]
  simp only [hM, hr, hk, hN]
  rw [if_pos hc, px_run_mono _ (n1 + n2) _ _ _ _ _ _ _ _ (by omega) (Nat.le_refl _) a1]
  dsimp only
  rw [hf]
  dsimp only
  rw [px_run_mono _ (n1 + n2) _ _ _ _ _ _ _ _ (by omega) (Nat.le_refl _) a2]
  rfl
end PXE
