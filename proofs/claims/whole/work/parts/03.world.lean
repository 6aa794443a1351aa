/-! THE PURE MACHINE'S CELLS IN THE HEAP: cell 0 is the script's (address b), cell k + 1 lies at base + k. -/
theorem px_all_cons {q : Prop} {qs : List Prop} : px_all (q :: qs) ↔ q ∧ px_all qs := by
  cases qs with
  | nil => simp [px_all]
  | cons a l => rfl
theorem px_all_app {ps qs : List Prop} : px_all (ps ++ qs) ↔ px_all ps ∧ px_all qs := by
  induction ps with
  | nil => simp [px_all]
  | cons a l ih => rw [List.cons_append, px_all_cons, px_all_cons, ih, and_assoc]
def px_adr (b base : Nat) : Nat → Nat
  | 0 => b
  | k + 1 => base + k
def px_cv (b base : Nat) : Value → Value
  | .ref k => .ref (px_adr b base k)
  | v => v
def px_ce (cA : Nat → ClassId) (b base : Nat) : va_E → va_E
  | .inl (t, a) => .inl (cA t, a)
  | .inr (c, fs) => .inr (c, fs.map (px_cv b base))
def px_cw (cA : Nat → ClassId) (b base : Nat) (w : px_W) : va_W := (w.drop 1).mapIdx (fun k e => (base + k, px_ce cA b base e))
theorem px_cat (b base : Nat) (v : Value) : (px_cv b base v).category = v.category := by cases v <;> rfl
theorem px_cat_map (b base : Nat) (S : List Value) : ((S.map (px_cv b base)).map fun v => v.category) = S.map fun v => v.category := by
  rw [List.map_map]
  exact List.map_congr_left (fun v _ => px_cat b base v)
section PXW
variable {cA : Nat → ClassId} {b base : Nat} {w : px_W} {a : Nat} {e0 e : va_E}
theorem px_cw_get (k : Nat) : (px_cw cA b base w)[k]? = (w[k + 1]?).map (fun e => (base + k, px_ce cA b base e)) := by
  simp [px_cw, List.getElem?_mapIdx, List.getElem?_drop, Nat.add_comm 1 k]
theorem px_cw_at (h : w[a + 1]? = some e) : (px_cw cA b base w)[a]? = some (base + a, px_ce cA b base e) := by
  rw [px_cw_get, h]; rfl
theorem px_cw_len : (px_cw cA b base w).length = w.length - 1 := by simp [px_cw]
theorem px_cw_set (h : w[a + 1]? = some e0) : px_cw cA b base (w.set (a + 1) e) = (px_cw cA b base w).set a (base + a, px_ce cA b base e) := by
  have hlt : a + 1 < w.length := (List.getElem?_eq_some_iff.mp h).1
  apply List.ext_getElem?
  intro k
  rw [px_cw_get]
  by_cases hk : k = a
  · subst hk
    rw [List.getElem?_set_self hlt, List.getElem?_set_self (by rw [px_cw_len]; omega)]
    rfl
  · rw [List.getElem?_set_ne (by omega), List.getElem?_set_ne (by omega), px_cw_get]
theorem px_cw_app (h : 0 < w.length) : px_cw cA b base (w ++ [e]) = px_cw cA b base w ++ [(base + (w.length - 1), px_ce cA b base e)] := by
  apply List.ext_getElem?
  intro k
  rw [px_cw_get]
  by_cases hk : k < w.length - 1
  · rw [List.getElem?_append_left (by omega), List.getElem?_append_left (by rw [px_cw_len]; exact hk), px_cw_get]
  · by_cases hk2 : k = w.length - 1
    · subst hk2
      rw [List.getElem?_append_right (by omega), List.getElem?_append_right (by rw [px_cw_len]; omega), px_cw_len, Nat.sub_self, show w.length - 1 + 1 - w.length = 0 by omega]
      rfl
    · rw [List.getElem?_eq_none (by simp; omega), List.getElem?_eq_none (by simp [px_cw_len]; omega)]
      rfl
theorem px_cw_D : va_D (fun q => base ≤ q) (px_cw cA b base w) := by
  have key : ∀ (k : Nat) (q : Nat × va_E), (px_cw cA b base w)[k]? = some q → q.1 = base + k := by
    intro k q h
    rw [px_cw_get] at h
    cases hw : w[k + 1]? with
    | none => rw [hw] at h; cases h
    | some e => rw [hw] at h; cases h; rfl
  refine ⟨fun i j p q hi hj hpq => ?_, fun k q hk => ?_⟩
  · have h1 := key i p hi
    have h2 := key j q hj
    omega
  · show base ≤ q.1
    rw [key k q hk]; omega
end PXW
/-! the locals -/
def px_hl (b base : Nat) (ls : Array Slot) (L : px_L) : Prop := ls.size = L.length ∧ lv_wf ls ∧ ∀ (j : Nat) (v : Value), px_lg L j = some v → ls[j]? = some (.val (px_cv b base v))
def px_ps (b base : Nat) (L : px_L) : List (Nat × Value) := (List.range L.length).filterMap (fun j => (px_lg L j).map (fun v => (j, px_cv b base v)))
theorem px_lg_lt {L : px_L} {j : Nat} {v : Value} (h : px_lg L j = some v) : j < L.length := by
  unfold px_lg at h
  split at h
  next u hu => exact (List.getElem?_eq_some_iff.mp hu).1
  next => cases h
theorem px_ps_mem {b base : Nat} {L : px_L} {j : Nat} {v : Value} (h : px_lg L j = some v) : (j, px_cv b base v) ∈ px_ps b base L := by
  refine List.mem_filterMap.mpr ⟨j, List.mem_range.mpr (px_lg_lt h), ?_⟩
  rw [h]; rfl
theorem px_hl_has {b base : Nat} {ls : Array Slot} {L : px_L} (h : px_hl b base ls L) : lv_has ls L.length (px_ps b base L) := by
  refine ⟨h.1, h.2.1, fun q hq => ?_⟩
  obtain ⟨j, -, hj⟩ := List.mem_filterMap.mp hq
  cases hv : px_lg L j with
  | none => rw [hv] at hj; cases hj
  | some v => rw [hv] at hj; cases hj; exact h.2.2 j v hv
theorem px_ps_at {b base : Nat} {L : px_L} {j : Nat} {v : Value} (h : px_lg L j = some v) : ∃ k : Nat, (px_ps b base L)[k]? = some (j, px_cv b base v) := List.getElem?_of_mem (px_ps_mem h)
theorem px_lg_set {L : px_L} {j k : Nat} {v : Value} (hj : j < L.length) : px_lg (L.set j (some v)) k = if k = j then some v else px_lg L k := by
  unfold px_lg
  by_cases hk : k = j
  · subst hk
    rw [if_pos rfl, List.getElem?_set_self hj]
  · rw [if_neg hk, List.getElem?_set_ne (by omega)]
theorem px_hl_set {b base : Nat} {ls' : Array Slot} {L : px_L} {j : Nat} {v : Value} (hj : j < L.length) (hn : px_n2 L j = true)
    (h : lv_has ls' L.length ((j, px_cv b base v) :: (px_ps b base L).filter (fun q => !(q.1 == j) && !(q.1 + 1 == j && q.2.category == 2)))) : px_hl b base ls' (L.set j (some v)) := by
  refine ⟨by rw [List.length_set]; exact h.1, h.2.1, fun k u hk => ?_⟩
  rw [px_lg_set hj] at hk
  by_cases hkj : k = j
  · rw [if_pos hkj] at hk
    cases hk
    subst hkj
    exact h.2.2 _ List.mem_cons_self
  · rw [if_neg hkj] at hk
    refine h.2.2 (k, px_cv b base u) (List.mem_cons_of_mem _ (List.mem_filter.mpr ⟨px_ps_mem hk, ?_⟩))
    have h1 : (k == j) = false := by simpa using hkj
    by_cases h2 : k + 1 = j
    · subst h2
      have h3 : u.category = 1 := by
        have := hn
        simp only [px_n2, hk] at this
        simpa using this
      simp [px_cat, h3]
    · simp [hkj, h2]
/-! how much it holds -/
def px_sz : va_E → Nat
  | .inl (_, n, _) => n
  | .inr (_, fs) => fs.length
def px_tot (w : px_W) : Nat := (w.map px_sz).sum
theorem px_tot_app {w : px_W} {e : va_E} : px_tot (w ++ [e]) = px_tot w + px_sz e := by simp [px_tot]
theorem px_tot_set {w : px_W} {a : Nat} {e0 e : va_E} (h : w[a]? = some e0) (hs : px_sz e = px_sz e0) : px_tot (w.set a e) = px_tot w := by
  have hlt := (List.getElem?_eq_some_iff.mp h).1
  have hg := (List.getElem?_eq_some_iff.mp h).2
  unfold px_tot
  have : (w.set a e).map px_sz = w.map px_sz := by
    apply List.ext_getElem?
    intro k
    rw [List.getElem?_map, List.getElem?_map]
    by_cases hk : k = a
    · subst hk
      rw [List.getElem?_set_self hlt, h]
      simp [hs]
    · rw [List.getElem?_set_ne (by omega)]
  rw [this]
