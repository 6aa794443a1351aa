/-! STATES: the numbers (ints, longs), the arrays (by their cells), the law's own array; and what the printed functions are made of. -/
abbrev px_S : Type := (Nat → Int32) × (Nat → Int64) × (Nat → Nat → Int32) × (Nat → Int64)
/-- what stays: the script, the arrays' lengths -/
abbrev px_K : Type := Nat × (Nat → Int32) × (Nat → Nat)
abbrev px_Res : Type := (Option Value ⊕ Nat) × px_S × px_W
abbrev px_LO : Type := (Nat × List Int32 × px_S × px_W) ⊕ px_Res
def gA (f : Nat → Nat → Int32) (c : Nat) (h : Nat → Int32) : Nat → Nat → Int32 := fun c' => if c' = c then h else f c'
def sR (s : px_S) (k : Nat) (v : Int32) : px_S := (upd s.1 k v, s.2.1, s.2.2.1, s.2.2.2)
def sQ (s : px_S) (k : Nat) (v : Int64) : px_S := (s.1, vp_updL s.2.1 k v, s.2.2.1, s.2.2.2)
def sA (s : px_S) (c j : Nat) (v : Int32) : px_S := (s.1, s.2.1, gA s.2.2.1 c (upd (s.2.2.1 c) j v), s.2.2.2)
def sF (s : px_S) (c : Nat) (h : Nat → Int32) : px_S := (s.1, s.2.1, gA s.2.2.1 c h, s.2.2.2)
def sO (s : px_S) (j : Nat) (v : Int64) : px_S := (s.1, s.2.1, s.2.2.1, vp_updL s.2.2.2 j v)
/-- only if q holds -/
noncomputable def px_gd {α : Type} (q : Prop) (x : Option α) : Option α := @ite _ q (Classical.propDecidable q) x none
theorem px_gd_some {α : Type} {q : Prop} {x : Option α} {r : α} (h : px_gd q x = some r) : q ∧ x = some r := by
  unfold px_gd at h
  split at h
  · rename_i hq; exact ⟨hq, h⟩
  · cases h
theorem px_gd_of {α : Type} {q : Prop} {x : Option α} (h : q) : px_gd q x = x := by
  unfold px_gd
  rw [if_pos h]
/-- a name for a value -/
def px_let {α β : Type} (x : β) (f : β → Option α) : Option α := f x
theorem px_let_some {α β : Type} {x : β} {f : β → Option α} {r : α} (h : px_let x f = some r) : ∃ y : β, y = x ∧ f y = some r := ⟨x, rfl, h⟩
/-- a call that answers an int, a long, nothing; or throws -/
def px_bi {α : Type} (x : Option px_Res) (f : Int32 → px_S → px_W → Option α) (g : Nat → px_S → px_W → Option α) : Option α := match x with
  | some (.inl (some (.int v)), s, t) => f v s t
  | some (.inr a, s, t) => g a s t
  | _ => none
theorem px_bi_some {α : Type} {x : Option px_Res} {f : Int32 → px_S → px_W → Option α} {g : Nat → px_S → px_W → Option α} {r : α} (h : px_bi x f g = some r) : (∃ v s t, x = some (.inl (some (.int v)), s, t) ∧ f v s t = some r) ∨ (∃ a s t, x = some (.inr a, s, t) ∧ g a s t = some r) := by
  unfold px_bi at h
  split at h
  · exact Or.inl ⟨_, _, _, rfl, h⟩
  · exact Or.inr ⟨_, _, _, rfl, h⟩
  · cases h
def px_bl {α : Type} (x : Option px_Res) (f : Int64 → px_S → px_W → Option α) (g : Nat → px_S → px_W → Option α) : Option α := match x with
  | some (.inl (some (.long v)), s, t) => f v s t
  | some (.inr a, s, t) => g a s t
  | _ => none
theorem px_bl_some {α : Type} {x : Option px_Res} {f : Int64 → px_S → px_W → Option α} {g : Nat → px_S → px_W → Option α} {r : α} (h : px_bl x f g = some r) : (∃ v s t, x = some (.inl (some (.long v)), s, t) ∧ f v s t = some r) ∨ (∃ a s t, x = some (.inr a, s, t) ∧ g a s t = some r) := by
  unfold px_bl at h
  split at h
  · exact Or.inl ⟨_, _, _, rfl, h⟩
  · exact Or.inr ⟨_, _, _, rfl, h⟩
  · cases h
def px_bv {α : Type} (x : Option px_Res) (f : px_S → px_W → Option α) (g : Nat → px_S → px_W → Option α) : Option α := match x with
  | some (.inl none, s, t) => f s t
  | some (.inr a, s, t) => g a s t
  | _ => none
theorem px_bv_some {α : Type} {x : Option px_Res} {f : px_S → px_W → Option α} {g : Nat → px_S → px_W → Option α} {r : α} (h : px_bv x f g = some r) : (∃ s t, x = some (.inl none, s, t) ∧ f s t = some r) ∨ (∃ a s t, x = some (.inr a, s, t) ∧ g a s t = some r) := by
  unfold px_bv at h
  split at h
  · exact Or.inl ⟨_, _, rfl, h⟩
  · exact Or.inr ⟨_, _, _, rfl, h⟩
  · cases h
/-- a loop: it leaves to a row, with these numbers; or it ends the method -/
def px_lp {α : Type} (x : Option px_LO) (f : Nat → List Int32 → px_S → px_W → Option α) (g : px_Res → Option α) : Option α := match x with
  | some (.inl (i, vs, s, t)) => f i vs s t
  | some (.inr z) => g z
  | none => none
theorem px_lp_some {α : Type} {x : Option px_LO} {f : Nat → List Int32 → px_S → px_W → Option α} {g : px_Res → Option α} {r : α} (h : px_lp x f g = some r) : (∃ i vs s t, x = some (.inl (i, vs, s, t)) ∧ f i vs s t = some r) ∨ (∃ z, x = some (.inr z) ∧ g z = some r) := by
  unfold px_lp at h
  split at h
  · exact Or.inl ⟨_, _, _, _, rfl, h⟩
  · exact Or.inr ⟨_, rfl, h⟩
  · cases h
def px_v0 {α : Type} (vs : List Int32) (k : Option α) : Option α := match vs with
  | [] => k
  | _ => none
theorem px_v0_some {α : Type} {vs : List Int32} {k : Option α} {r : α} (h : px_v0 vs k = some r) : vs = [] ∧ k = some r := by
  unfold px_v0 at h
  split at h
  · exact ⟨rfl, h⟩
  · cases h
def px_v1 {α : Type} (vs : List Int32) (k : Int32 → Option α) : Option α := match vs with
  | [a] => k a
  | _ => none
theorem px_v1_some {α : Type} {vs : List Int32} {k : Int32 → Option α} {r : α} (h : px_v1 vs k = some r) : ∃ a, vs = [a] ∧ k a = some r := by
  unfold px_v1 at h
  split at h
  · exact ⟨_, rfl, h⟩
  · cases h
def px_v2 {α : Type} (vs : List Int32) (k : Int32 → Int32 → Option α) : Option α := match vs with
  | [a, b] => k a b
  | _ => none
theorem px_v2_some {α : Type} {vs : List Int32} {k : Int32 → Int32 → Option α} {r : α} (h : px_v2 vs k = some r) : ∃ a b, vs = [a, b] ∧ k a b = some r := by
  unfold px_v2 at h
  split at h
  · exact ⟨_, _, rfl, h⟩
  · cases h
def px_v3 {α : Type} (vs : List Int32) (k : Int32 → Int32 → Int32 → Option α) : Option α := match vs with
  | [a, b, c] => k a b c
  | _ => none
theorem px_v3_some {α : Type} {vs : List Int32} {k : Int32 → Int32 → Int32 → Option α} {r : α} (h : px_v3 vs k = some r) : ∃ a b c, vs = [a, b, c] ∧ k a b c = some r := by
  unfold px_v3 at h
  split at h
  · exact ⟨_, _, _, rfl, h⟩
  · cases h
def px_v4 {α : Type} (vs : List Int32) (k : Int32 → Int32 → Int32 → Int32 → Option α) : Option α := match vs with
  | [a, b, c, d] => k a b c d
  | _ => none
theorem px_v4_some {α : Type} {vs : List Int32} {k : Int32 → Int32 → Int32 → Int32 → Option α} {r : α} (h : px_v4 vs k = some r) : ∃ a b c d, vs = [a, b, c, d] ∧ k a b c d = some r := by
  unfold px_v4 at h
  split at h
  · exact ⟨_, _, _, _, rfl, h⟩
  · cases h
section PXB
variable {E : px_T} {P : List px_M} {M : px_M} {d mi i t e : Nat} {L L' : px_L} {S S' : List Value} {w w' w2 : px_W} {q : List Prop} {o : Option Value ⊕ Nat}
/-- a stretch that ends in a branch -/
theorem px_blkif {c : Prop} [dc : Decidable c] (k : Nat) (hM : P[mi]? = some M) (h : px_steps E M.cd k (i, L, S, w, []) = some (@ite Nat c dc t e, L', S', w', q)) (hq : px_all q) (h1 : c → px_E E P (d + 1) mi t L' S' w' o w2) (h2 : ¬ c → px_E E P (d + 1) mi e L' S' w' o w2) : px_E E P (d + 1) mi i L S w o w2 := by
  by_cases hc : c
  · rw [if_pos hc] at h
    exact px_blk k hM h hq (h1 hc)
  · rw [if_neg hc] at h
    exact px_blk k hM h hq (h2 hc)
theorem px_E_throw2 {r : px_R} (hM : P[mi]? = some M) (hr : M.cd[i]? = some r) (hk : px_kd r = 2) (hd : 8 ≤ d) (hs : (S.map fun v => v.category).sum ≤ 8) (ho : o = .inr w.length) (hw : w2 = w ++ [px_exc (px_nm r 0)]) : px_E E P (d + 1) mi i L S w o w2 := by
  rw [ho, hw]
  exact px_E_throw hM hr hk hd hs
end PXB
/-! LOCALS THAT ARE NOT READ ANY MORE. -/
/-- L has less than L': where L has nothing, L' may have an int or a reference -/
def px_le1 : Option Value → Option Value → Prop
  | none, none => True
  | none, some v => v.category = 1
  | some v, u => u = some v
def px_leL (L L' : px_L) : Prop := L.length = L'.length ∧ ∀ (j : Nat) (a b : Option Value), L[j]? = some a → L'[j]? = some b → px_le1 a b
theorem px_leL_lg {L L' : px_L} {j : Nat} {v : Value} (h : px_leL L L') (hv : px_lg L j = some v) : px_lg L' j = some v := by
  unfold px_lg at hv ⊢
  split at hv
  · rename_i u hu
    cases hv
    obtain ⟨b, hb⟩ : ∃ b, L'[j]? = some b := ⟨_, List.getElem?_eq_getElem (by rw [← h.1]; exact (List.getElem?_eq_some_iff.mp hu).1)⟩
    have := h.2 j _ _ hu hb
    have hbv : b = some v := this
    rw [hb, hbv]
  · cases hv
theorem px_leL_n2 {L L' : px_L} {j : Nat} (h : px_leL L L') (hv : px_n2 L j = true) : px_n2 L' j = true := by
  cases j with
  | zero => rfl
  | succ j =>
    have hv : (match px_lg L j with
      | some v => v.category == 1
      | none => true) = true := hv
    show (match px_lg L' j with
      | some v => v.category == 1
      | none => true) = true
    cases hl : px_lg L j with
    | some v => rw [hl] at hv; rw [px_leL_lg h hl]; exact hv
    | none =>
      cases hl' : px_lg L' j with
      | none => rfl
      | some u =>
        unfold px_lg at hl hl'
        split at hl'
        · rename_i u' hu'
          cases hl'
          obtain ⟨a, ha⟩ : ∃ a, L[j]? = some a := ⟨_, List.getElem?_eq_getElem (by rw [h.1]; exact (List.getElem?_eq_some_iff.mp hu').1)⟩
          rw [ha] at hl
          cases a with
          | some v => cases hl
          | none =>
            have : u.category = 1 := h.2 j _ _ ha hu'
            show (u.category == 1) = true
            rw [this]; rfl
        · cases hl'
theorem px_leL_set {L L' : px_L} {j : Nat} {v : Value} (h : px_leL L L') : px_leL (L.set j (some v)) (L'.set j (some v)) := by
  refine ⟨by simp [h.1], fun k a b ha hb => ?_⟩
  by_cases hk : j = k
  · subst hk
    have h1 : j < L.length := by simpa using (List.getElem?_eq_some_iff.mp ha).1
    rw [List.getElem?_set_self h1] at ha
    rw [List.getElem?_set_self (by rw [← h.1]; exact h1)] at hb
    cases ha; cases hb
    rfl
  · rw [List.getElem?_set_ne hk] at ha hb
    exact h.2 k a b ha hb
