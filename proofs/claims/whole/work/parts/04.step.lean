/-! WHAT IS CHECKED OF A ROW, and a plain step of the pure machine is a step of the machine. -/
def px_in (tb : List Cond) (k : Nat) (c : Cond) : Bool := decide (tb[k]? = some c)
theorem px_in_mem {tb : List Cond} {k : Nat} {c : Cond} (h : px_in tb k c = true) : c ∈ tb := List.mem_of_getElem? (of_decide_eq_true h)
/-- the row i, if there is one, is at this pc -/
def px_nx (cd : List px_R) (i pc : Nat) : Bool := match cd[i]? with
  | some r => decide (r.1 = pc)
  | none => true
theorem px_nx_at {cd : List px_R} {i pc : Nat} {r : px_R} (h : px_nx cd i pc = true) (hr : cd[i]? = some r) : r.1 = pc := by
  unfold px_nx at h
  rw [hr] at h
  exact of_decide_eq_true h
def px_jp (cd : List px_R) (i pc : Nat) (off : Int) : Bool := match cd[i]? with
  | some r => decide ((pc : Int) + off = (r.1 : Int))
  | none => false
theorem px_jp_ex {cd : List px_R} {i pc : Nat} {off : Int} (h : px_jp cd i pc off = true) : ∃ r : px_R, cd[i]? = some r ∧ (pc : Int) + off = (r.1 : Int) := by
  unfold px_jp at h
  split at h
  next r hr => exact ⟨r, hr, of_decide_eq_true h⟩
  next => cases h
theorem px_jp_at {cd : List px_R} {i pc : Nat} {off : Int} {r : px_R} (h : px_jp cd i pc off = true) (hr : cd[i]? = some r) : (pc : Int) + off = (r.1 : Int) := by
  unfold px_jp at h
  rw [hr] at h
  exact of_decide_eq_true h
def px_okN (cd : List px_R) (i : Nat) (r : px_R) (len : Nat) : Bool := decide (r.2.2.1 = len) && px_nx cd (i + 1) (r.1 + len)
def px_okF (tb : List Cond) (cl : List vw_C) (own : String) (idx ci k q : Nat) : Bool := match cl[ci]? with
  | some (_, T, N) => decide (k < N) && px_in tb q (.fieldLink own idx (T k).1 (T k).2.1 (T k).2.2.1)
  | none => false
def px_okW (cl : List vw_C) (own name : String) (ci k : Nat) : Bool := match cl[ci]? with
  | some (_, T, _) => decide ((T k).2.2.2 = false) || (decide ((T k).2.2.2 = true) && decide (name = "<init>") && decide ((T k).1 = own))
  | none => false
def px_okS (tb : List Cond) (cl : List vw_C) (M : px_M) (i : Nat) (r : px_R) : Bool := match r.2.1 with
  | .iconst n => px_okN M.cd i r 1 && decide (r.2.2.2.2 = .int (Int32.ofInt n))
  | .bipush n => px_okN M.cd i r 2 && decide (r.2.2.2.2 = .int (Int8.ofInt n).toInt32)
  | .sipush n => px_okN M.cd i r 3 && decide (r.2.2.2.2 = .int (Int16.ofInt n).toInt32)
  | .lconst n => px_okN M.cd i r 1 && decide (r.2.2.2.2 = .long (Int64.ofNat (n : Nat)))
  | .ldc idx => px_okN M.cd i r 2 && (match r.2.2.2.2 with
    | .int x => px_in tb (px_nm r 0) (.constant M.nm.cls idx x)
    | _ => false)
  | .ldc_w idx => px_okN M.cd i r 3 && (match r.2.2.2.2 with
    | .int x => px_in tb (px_nm r 0) (.constant M.nm.cls idx x)
    | _ => false)
  | .ldc2_w idx => px_okN M.cd i r 3 && (match r.2.2.2.2 with
    | .long x => px_in tb (px_nm r 0) (.constantLong M.nm.cls idx x)
    | _ => false)
  | .iload_n _ => px_okN M.cd i r 1
  | .iload _ => px_okN M.cd i r 2
  | .lload_n _ => px_okN M.cd i r 1
  | .lload _ => px_okN M.cd i r 2
  | .aload_n _ => px_okN M.cd i r 1
  | .aload _ => px_okN M.cd i r 2
  | .istore_n _ => px_okN M.cd i r 1
  | .istore _ => px_okN M.cd i r 2
  | .astore_n _ => px_okN M.cd i r 1
  | .astore _ => px_okN M.cd i r 2
  | .iinc _ n => px_okN M.cd i r 3 && decide (r.2.2.2.2 = .int (Int32.ofInt n))
  | .goto off => decide (r.2.2.1 = 3) && px_jp M.cd (px_nm r 0) r.1 off
  | .ifCond _ off => px_okN M.cd i r 3 && px_jp M.cd (px_nm r 0) r.1 off
  | .if_icmp _ off => px_okN M.cd i r 3 && px_jp M.cd (px_nm r 0) r.1 off
  | .tableswitch dflt lo hi offs => decide (r.2.2.2.1.length = offs.size + 1) && decide (lo + offs.size = hi + 1) && (r.2.2.2.1.zip (dflt :: offs.toList)).all (fun q => px_jp M.cd q.1 r.1 q.2)
  | .lookupswitch dflt ps => decide (r.2.2.2.1.length = ps.size + 1) && ((ps.toList.zip (ps.toList.drop 1)).all (fun (a, next) => a.1 < next.1)) && (r.2.2.2.1.zip (dflt :: ps.toList.map (fun q => q.2))).all (fun q => px_jp M.cd q.1 r.1 q.2)
  | .getfield idx => px_okN M.cd i r 3 && px_okF tb cl M.nm.cls idx (px_nm r 0) (px_nm r 1) (px_nm r 2)
  | .putfield idx => px_okN M.cd i r 3 && px_okF tb cl M.nm.cls idx (px_nm r 0) (px_nm r 1) (px_nm r 2) && px_okW cl M.nm.cls M.nm.name (px_nm r 0) (px_nm r 1)
  | .newarray .int => px_okN M.cd i r 2 && px_in tb (px_nm r 0) (.arrayClass .int)
  | .newarray .boolean => px_okN M.cd i r 2 && px_in tb (px_nm r 0) (.arrayClass .boolean)
  | .newarray .long => px_okN M.cd i r 2 && px_in tb (px_nm r 0) (.arrayClass .long)
  | .new idx => px_okN M.cd i r 3 && (match cl[px_nm r 0]? with
    | some (C, _, N) => decide (0 < N) && px_in tb (px_nm r 2) (.classLink M.nm.cls idx C) && px_in tb (px_nm r 3) (.instantiable C N) && px_in tb (px_nm r 4) (.initialized C)
    | none => false)
  | .invokestatic idx => px_okN M.cd i r 3 && px_in tb (px_nm r 1) (.methodLink M.nm.cls idx arraycopyName) && px_in tb (px_nm r 2) (.native arraycopyName) && px_in tb (px_nm r 3) (.static arraycopyName) && px_in tb (px_nm r 4) (.initialized "java/lang/System")
  | .invokespecial idx => px_okN M.cd i r 3 && px_in tb (px_nm r 1) (.methodLink M.nm.cls idx objectInit) && px_in tb (px_nm r 2) (.instanceMethod objectInit) && px_in tb (px_nm r 3) (.code objectInit ⟨#[0xb1]⟩ 1 none)
  | _ => px_okN M.cd i r 1
/-- what the tables say of the classes -/
def px_okC (tb : List Cond) (cl : List vw_C) (E : px_T) : Prop := ∀ (ci : Nat) (C : String) (T : u_T) (N : Nat), cl[ci]? = some (C, T, N) → (∀ w ∈ u_ws C T N, w ∈ tb) ∧ (∀ k, k < N → parseFieldDescriptor (T k).2.2.1 = some (E.2 ci k)) ∧ (∀ a, a < N → ∀ c, c < N → a ≠ c → (T a).2.1 ≠ (T c).2.1) ∧ (0 < N → (E.1 ci).length = N ∧ (∀ j, j < N → defaultValue (E.2 ci j) = vp_V (E.1 ci) j) ∧ ∀ v ∈ E.1 ci, ∀ a, v ≠ .ref a)
/-- what a walk of the method M has: the machine, the code, the words -/
def px_B (tb : List Cond) (p : Program) (s : State) (m : MethodId) (args : Array Value) (meth : Method) (c : Code) (M : px_M) : Prop :=
  p.tables.exec = Jvm.exec ∧ c.code = M.by ∧ c.maxLocals = M.ml ∧ s.vm.findClass M.nm.cls = some m.cls ∧ (∀ w ∈ tb, w.before args s = true) ∧ meth.sig.returnType = M.rt ∧ meth.locks = false ∧ meth.name = M.nm.name
abbrev px_tys (cA : Nat → ClassId) : List (ClassId × FieldType) := [(cA 0, .int), (cA 1, .boolean), (cA 2, .long)]
/-- the cells of the pure machine are those of the heap -/
def px_I (D : va_G) (cl : List vw_C) (cA : Nat → ClassId) (b base : Nat) (w : px_W) (s : State) (H : Heap) : Prop :=
  va_K D cl (px_tys cA) s ∧ va_P D cl (px_cw cA b base w) H ∧ ∃ (n : Nat) (xs : Nat → Int32), w[0]? = some (.inl (0, n, .inl xs)) ∧ va_X b n xs s H ∧ b < base
theorem px_W_mono {p : Program} {l : Launch} {e : Env} {R : Room} {s : State} {m : MethodId} {args : Array Value} {below : List Frame} {meth : Method} {c : Code} {H : Heap} {locs : List Loc} {cells slots : Nat} {Q Q' : State → Prop} {g : JFrame} (h : ∀ t, Q t → Q' t) (k : W p l e R s m args below meth c H locs cells slots Q g) : W p l e R s m args below meth c H locs cells slots Q' g := by
  intro T hT X
  obtain ⟨t, a, q⟩ := k T hT X
  exact ⟨t, a, h t q⟩
theorem px_S_tr {A : Nat → Prop} {H0 H H1 : Heap} {locs locs1 : List Loc} (h : va_S A H0 H locs) (h1 : va_S A H H1 locs1) : va_S A H0 H1 locs1 :=
  ⟨Nat.le_trans h.1 h1.1, fun q a n => (h1.2.1 q (Nat.lt_of_lt_of_le a h.1) n).trans (h.2.1 q a n), h1.2.2⟩
theorem px_S_here {A : Nat → Prop} {H0 H : Heap} {locs : List Loc} (h : va_S A H0 H locs) : va_S A H H locs := ⟨Nat.le_refl _, fun _ _ _ => rfl, h.2.2⟩
theorem px_X_kept {A : Nat → Prop} {H H1 : Heap} {locs : List Loc} {b n : Nat} {xs : Nat → Int32} {s : State} (hX : va_X b n xs s H) (hA : ¬ A b) (h : va_S A H H1 locs) : va_X b n xs s H1 := by
  obtain ⟨scr, h1, h2⟩ := hX
  exact ⟨scr, by rw [h.2.1 b (Array.getElem?_eq_some_iff.mp h1).1 hA]; exact h1, h2⟩
theorem px_fit_ok {b base : Nat} {ty : FieldType} {v : Value} (h : px_all (px_fit ty v)) : narrow ty (px_cv b base v) = px_cv b base v ∧ fits ty (px_cv b base v) = true := by
  unfold px_fit at h
  split at h
  · exact ⟨rfl, rfl⟩
  · exact ⟨rfl, rfl⟩
  · rcases h with h | h <;> subst h <;> exact ⟨rfl, rfl⟩
  · exact ⟨rfl, rfl⟩
  · exact ⟨rfl, rfl⟩
  · exact absurd h id
theorem px_lk_at {M : px_M} {pc : Nat} {x : Int} {dflt : Int} {ps : Array (Int × Int)} {nums : List Nat} (hlen : nums.length = ps.size + 1)
    (hall : ((nums.zip (dflt :: ps.toList.map (fun q => q.2))).all (fun q => px_jp M.cd q.1 pc q.2)) = true) :
    ∃ rg : px_R, M.cd[px_lkI x (nums.getD 0 0) ps.toList (nums.drop 1)]? = some rg ∧ (pc : Int) + Op.lookupswitch.offset ps.toList dflt x = (rg.1 : Int) := by
  cases nums with
  | nil => simp at hlen
  | cons n0 ns =>
    have hl : ns.length = ps.toList.length := by simpa using hlen
    simp only [List.zip_cons_cons, List.all_cons, Bool.and_eq_true] at hall
    obtain ⟨h0, h1⟩ := hall
    show ∃ rg : px_R, M.cd[px_lkI x n0 ps.toList ns]? = some rg ∧ _
    generalize ps.toList = pl at h1 hl ⊢
    clear hlen
    induction pl generalizing ns with
    | nil =>
      have : px_lkI x n0 [] ns = n0 := by cases ns <;> rfl
      rw [this, Op.lookupswitch.offset_nil]
      exact px_jp_ex h0
    | cons q pl ih =>
      obtain ⟨k, o⟩ := q
      cases ns with
      | nil => simp at hl
      | cons t ts =>
        simp only [List.map_cons, List.zip_cons_cons, List.all_cons, Bool.and_eq_true] at h1
        rw [Op.lookupswitch.offset_cons]
        show ∃ rg : px_R, M.cd[if k = x then t else px_lkI x n0 pl ts]? = some rg ∧ _
        by_cases hk : k = x
        · rw [if_pos hk, if_pos hk]
          exact px_jp_ex h1.1
        · rw [if_neg hk, if_neg hk]
          exact ih ts h1.2 (by simpa using hl)
theorem px_adr_len {b base n : Nat} (h : 0 < n) : px_adr b base n = base + (n - 1) := by
  cases n with
  | zero => omega
  | succ k => rfl
/-- a new cell lies where the next one must -/
theorem px_born {cl : List vw_C} {D : va_G} {cA : Nat → ClassId} {b base : Nat} {p : Program} {l : Launch} {e : Env} {R : Room} {s : State} {m : MethodId} {args : Array Value} {below : List Frame} {meth : Method} {c : Code} {H1 : Heap} {locs : List Loc} {cells slots : Nat} {Q : State → Prop} {g : JFrame} {w : px_W} {a : Nat} {x : va_E}
    (hw : 0 < w.length) (hcw : base + (w.length - 1) = s.heap.size + cells) (hz : base + (w.length - 1) ≤ H1.size) (hP1 : va_P D cl (px_cw cA b base w ++ [(a, px_ce cA b base x)]) H1) (hD1 : va_D (fun q => base ≤ q) (px_cw cA b base w ++ [(a, px_ce cA b base x)]))
    (k : a = base + (w.length - 1) → va_P D cl (px_cw cA b base (w ++ [x])) H1 → base + w.length ≤ H1.size → W p l e R s m args below meth c H1 locs (cells + 1) slots Q g) : W p l e R s m args below meth c H1 locs (cells + 1) slots Q g := by
  intro T hT X
  have h1 := X.heapSize
  rw [hT] at h1
  have hlast : (px_cw cA b base w ++ [(a, px_ce cA b base x)])[w.length - 1]? = some (a, px_ce cA b base x) := by
    rw [List.getElem?_append_right (by rw [px_cw_len]; exact Nat.le_refl _), px_cw_len, Nat.sub_self]; rfl
  have h2 : a < H1.size := (hP1 _ _ hlast).lt
  have h3 : base ≤ a := hD1.2 _ _ hlast
  have ha : a = base + (w.length - 1) := by
    by_cases hlt : a - base < w.length - 1
    · exfalso
      obtain ⟨y, hy⟩ : ∃ y, w[a - base + 1]? = some y := ⟨_, List.getElem?_eq_getElem (by omega)⟩
      have h4 : (px_cw cA b base w ++ [(a, px_ce cA b base x)])[a - base]? = some (base + (a - base), px_ce cA b base y) := by
        rw [List.getElem?_append_left (by rw [px_cw_len]; exact hlt)]
        exact px_cw_at hy
      have h5 := hD1.1 _ _ _ _ h4 hlast (by show base + (a - base) = a; omega)
      omega
    · omega
  refine k ha ?_ (by omega) T hT X
  rw [px_cw_app hw, ← ha]
  exact hP1
