/-! WHAT LIES OUTSIDE THE CELLS: words that stay, two statics of Throwable, texts. -/
/-- words that hold at every warmer table -/
def px_kp : Cond → Bool
  | .castable _ _ => true
  | .declares _ => true
  | .methodLinkNest _ _ _ _ => true
  | .not (.castable _ _) => true
  | w => goodWord w
theorem px_kp_at {args a' : Array Value} {s U : State} (hW : s.WarmedH U.vm) {w : Cond} (hk : px_kp w = true) (h : w.before args s = true) : w.before a' U = true := by
  unfold px_kp at hk
  split at hk
  · exact va_Nw.use rfl (va_Nw.warmC hW (va_Nw.of rfl h))
  · exact va_Nw.use rfl (va_Nw.warmD hW (va_Nw.of rfl h))
  · exact va_Nw.use rfl (va_Nw.warmM hW (va_Nw.of rfl h))
  · obtain ⟨c, t, h2, h3, h4⟩ := va_Nc.moved hW.alike (va_Nc.of h)
    simp [Cond.before, Cond.holds, Cond.value, h2, h3, h4]
  · exact word_at hW (good_of_word hk) h
/-- a static of a class: where it lies, and that it holds a reference or null -/
def px_st (C n d : String) (base : Nat) (U : State) (H : Heap) : Prop := ∃ (c : ClassId) (k : Class) (i : Nat) (f : Field) (a : Nat) (cell : Cell) (v : Value), U.vm.findClass C = some c ∧ U.fieldFound? C n d = some (c, k, i, f) ∧ f.isStatic = true ∧ k.statics = some a ∧ H[a]? = some cell ∧ cell.vm.isStatics = true ∧ cell.cls = c ∧ f.slot < cell.slots.size ∧ k.staticTypes[f.slot]? = some f.type ∧ cell.slots[f.slot]? = some v ∧ v.isRef = true ∧ a < base
theorem px_st.moved {C n d : String} {base : Nat} {u U : State} {H : Heap} (hvm : u.vm.Alike U.vm) (h : px_st C n d base u H) : px_st C n d base U H := by
  obtain ⟨c, k, i, f, a, cell, v, h1, h2, h3, h4, h5, h6, h7, h8, h9, h10, h11, h12⟩ := h
  obtain ⟨k', hi', he⟩ := State.fieldFound?_setVm hvm h2
  exact ⟨c, k', i, f, a, cell, v, by rw [hvm.findClass]; exact h1, hi', h3, by rw [he]; exact h4, h5, h6, h7, h8, by rw [he]; exact h9, h10, h11, h12⟩
theorem px_st.kept {C n d : String} {base : Nat} {U : State} {H H1 : Heap} (h : px_st C n d base U H) (hq : ∀ q : Nat, q < H.size → ¬ base ≤ q → H1[q]? = H[q]?) : px_st C n d base U H1 := by
  obtain ⟨c, k, i, f, a, cell, v, h1, h2, h3, h4, h5, h6, h7, h8, h9, h10, h11, h12⟩ := h
  exact ⟨c, k, i, f, a, cell, v, h1, h2, h3, h4, by rw [hq a (Array.getElem?_eq_some_iff.mp h5).1 (by omega)]; exact h5, h6, h7, h8, h9, h10, h11, h12⟩
theorem px_st.lays {C n d : String} {base : Nat} {s : State} {args : Array Value} (h : px_st C n d base s s.heap) : (Cond.laysStatic C n d).before args s = true := by
  obtain ⟨c, k, i, f, a, cell, v, h1, h2, h3, h4, h5, h6, h7, h8, h9, -⟩ := h
  show (Cond.laysStatic C n d).holds args s none s [] = true
  exact Cond.laysStatic_of h1 h2 h3 h4 h5 h6 h7 h8 h9
theorem px_st.isRef {C n d : String} {base : Nat} {s : State} {args : Array Value} (h : px_st C n d base s s.heap) : (Cond.isRef (.static C n d)).before args s = true := by
  obtain ⟨c, k, i, f, a, cell, v, h1, h2, h3, h4, h5, h6, h7, h8, h9, h10, h11, -⟩ := h
  have he : (Term.static C n d).eval args s none [] s = some v := by
    simp [Term.eval, State.fieldNamed?, h2, h3, h4, h5, h6, h10]
  simp only [Cond.before, Cond.holds, Cond.value, he]
  cases v <;> first | rfl | cases h11
theorem px_st.of {C n d : String} {base : Nat} {s : State} {args : Array Value} (hl : (Cond.laysStatic C n d).before args s = true) (h : (Cond.isRef (.static C n d)).before args s = true) (hb : s.heap.size ≤ base) : px_st C n d base s s.heap := by
  obtain ⟨c, k, i, f, a, cell, h1, h2, h3, h4, h5, h6, h7, h8, h9⟩ := Cond.laysStatic_spec hl
  obtain ⟨v, hv⟩ : ∃ v, cell.slots[f.slot]? = some v := ⟨_, Array.getElem?_eq_getElem h8⟩
  have he : (Term.static C n d).eval args s none [] s = some v := by
    simp [Term.eval, State.fieldNamed?, h2, h3, h4, h5, h6, hv]
  refine ⟨c, k, i, f, a, cell, v, h1, h2, h3, h4, h5, h6, h7, h8, h9, hv, ?_, Nat.lt_of_lt_of_le (Array.getElem?_eq_some_iff.mp h5).1 hb⟩
  simp only [Cond.before, Cond.holds, Cond.value, he] at h
  cases v <;> first | rfl | simp at h
/-- all that lies outside: the statics, the texts (class, place, text) -/
def px_Out (ss : List (String × Nat × String)) (base : Nat) (U : State) (H : Heap) : Prop :=
  px_st "java/lang/Throwable" "UNASSIGNED_STACK" "[Ljava/lang/StackTraceElement;" base U H ∧ px_st "java/lang/Throwable" "SUPPRESSED_SENTINEL" "Ljava/util/List;" base U H ∧ ∀ x ∈ ss, ∃ a : Nat, vk_R x.1 x.2.1 x.2.2 a U
theorem px_Out.next {ss : List (String × Nat × String)} {base : Nat} {s U : State} {H H1 : Heap} (h : px_Out ss base s H) (hW : s.WarmedH U.vm) (hq : ∀ q : Nat, q < H.size → ¬ base ≤ q → H1[q]? = H[q]?) : px_Out ss base U H1 :=
  ⟨(h.1.kept hq).moved hW.alike, (h.2.1.kept hq).moved hW.alike, fun x hx => by
    obtain ⟨a, ha⟩ := h.2.2 x hx
    exact ⟨a, vk_R.warm hW ha⟩⟩
