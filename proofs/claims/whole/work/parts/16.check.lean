/-! THE CHECK OF A METHOD, by a program that the kernel runs. -/
def px_ckR (tb : List Cond) (cl : List vw_C) (P : List px_M) (M : px_M) (i : Nat) (r : px_R) : Bool :=
  decide (decode M.by r.1 = .ok (r.2.1, r.2.2.1)) && (match px_kd r with
    | 0 => px_okS tb cl M i r
    | 1 => decide (r.2.2.1 = 1)
    | 3 => px_okK tb cl P M i r
    | _ => true)
def px_ckL (tb : List Cond) (cl : List vw_C) (P : List px_M) (M : px_M) : Nat → List px_R → Bool
  | _, [] => true
  | i, r :: rs => px_ckR tb cl P M i r && px_ckL tb cl P M (i + 1) rs
theorem px_ckL_at {tb : List Cond} {cl : List vw_C} {P : List px_M} {M : px_M} : ∀ (rs : List px_R) (i j : Nat) (r : px_R), px_ckL tb cl P M i rs = true → rs[j]? = some r → px_ckR tb cl P M (i + j) r = true := by
  intro rs
  induction rs with
  | nil => intro i j r _ h; simp at h
  | cons x rs ih =>
    intro i j r h hj
    simp only [px_ckL, Bool.and_eq_true] at h
    cases j with
    | zero =>
      simp at hj
      subst hj
      exact h.1
    | succ j =>
      have := ih (i + 1) j r h.2 (by simpa using hj)
      rw [show i + (j + 1) = i + 1 + j by omega]
      exact this
/-- is there no 'throw new' -/
def px_no2 (M : px_M) : Bool := M.cd.all (fun r => !(px_kd r == 2))
theorem px_okM_of {tb : List Cond} {ss : List (String × Nat × String)} {cl : List vw_C} {P : List px_M} {M : px_M} (pi : Nat) (h1 : plainFor M.nm = true) (h2 : Cond.codeWith M.nm M.by M.ml M.rt M.hf ∈ tb ∨ (M.hf = [] ∧ Cond.code M.nm M.by M.ml M.rt ∈ tb)) (h3 : px_in tb pi (.initialized M.nm.cls) = true) (h4 : M.ml ≤ 40) (h5 : px_nx M.cd 0 0 = true) (h6 : px_okH tb cl M)
    (h7 : px_ckL tb cl P M 0 M.cd = true) (h8 : ∀ (i : Nat) (r : px_R), M.cd[i]? = some r → px_kd r = 2 → px_okT tb ss cl M r) : px_okM tb ss cl P M := by
  refine ⟨h1, h2, px_in_mem h3, h4, h5, h6, fun i r hr => ?_⟩
  have h := px_ckL_at M.cd 0 i r h7 hr
  rw [Nat.zero_add] at h
  simp only [px_ckR, Bool.and_eq_true, decide_eq_true_eq] at h
  obtain ⟨hd, hk⟩ := h
  refine ⟨hd, fun q => ?_, fun q => ?_, h8 i r hr, fun q => ?_⟩
  · rw [q] at hk; exact hk
  · rw [q] at hk; exact of_decide_eq_true hk
  · rw [q] at hk; exact hk
theorem px_ok0 {tb : List Cond} {ss : List (String × Nat × String)} {cl : List vw_C} {P : List px_M} {M : px_M} (pc pi : Nat) (h1 : plainFor M.nm = true) (h2 : M.hf = [] ∧ M.hs = []) (h2b : px_in tb pc (Cond.code M.nm M.by M.ml M.rt) = true) (h3 : px_in tb pi (.initialized M.nm.cls) = true) (h4 : M.ml ≤ 40) (h5 : px_nx M.cd 0 0 = true)
    (h7 : px_ckL tb cl P M 0 M.cd = true) (h8 : px_no2 M = true) : px_okM tb ss cl P M := by
  refine px_okM_of pi h1 (Or.inr ⟨h2.1, px_in_mem h2b⟩) h3 h4 h5 ⟨by rw [h2.1, h2.2], fun j h f hj => ?_⟩ h7 (fun i r hr hk => ?_)
  · rw [h2.2] at hj; simp at hj
  · have := List.all_eq_true.mp h8 r (List.mem_of_getElem? hr)
    rw [hk] at this
    cases this
theorem px_ckL_app {tb : List Cond} {cl : List vw_C} {P : List px_M} {M : px_M} : ∀ (a : List px_R) (i : Nat) (b : List px_R), px_ckL tb cl P M i a = true → px_ckL tb cl P M (i + a.length) b = true → px_ckL tb cl P M i (a ++ b) = true := by
  intro a
  induction a with
  | nil => intro i b _ h; exact h
  | cons x a ih =>
    intro i b h1 h2
    simp only [px_ckL, Bool.and_eq_true] at h1
    simp only [List.cons_append, px_ckL, Bool.and_eq_true]
    refine ⟨h1.1, ih (i + 1) b h1.2 ?_⟩
    rw [show i + 1 + a.length = i + (x :: a).length by simp; omega]
    exact h2
