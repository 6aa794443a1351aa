/-! THE REFERENCE'S TREE -/
/-- the tree's rows are those of the specification -/
def zRj (s : px_S) (T : ZTs) : Prop := (∀ b w, b < 106 → w < 16 → s.2.2.1 39 (16 * b + w) = T.wd b w) ∧ (∀ b w, b < 106 → w < 16 → T.kt b = true → s.2.2.1 40 (16 * b + w) = T.kp b w) ∧ (∀ b, b < 106 → s.2.2.1 41 b = bN (T.ch b)) ∧ (∀ b, b < 106 → s.2.2.1 42 b = bN (T.kt b)) ∧ s.1 36 = iN T.sq ∧ s.1 37 = iN T.jr
def zRt (s : px_S) (T : ZTs) : Prop := zRv s T.tv ∧ zRj s T
/-- nothing changes but the reference's own -/
def zFt (s u : px_S) : Prop := (∀ c, c < 29 ∨ 45 < c → u.2.2.1 c = s.2.2.1 c) ∧ (∀ r, r < 29 ∨ 37 < r → u.1 r = s.1 r) ∧ u.2.1 = s.2.1 ∧ u.2.2.2 = s.2.2.2
theorem zFt_refl (s : px_S) : zFt s s := ⟨fun _ _ => rfl, fun _ _ => rfl, rfl, rfl⟩
theorem zFt_trans {s u v : px_S} (h1 : zFt s u) (h2 : zFt u v) : zFt s v := ⟨fun c hc => (h2.1 c hc).trans (h1.1 c hc), fun r a => (h2.2.1 r a).trans (h1.2.1 r a), h2.2.2.1.trans h1.2.2.1, h2.2.2.2.trans h1.2.2.2⟩
theorem zFt_fv {s u : px_S} (h : zFv s u) : zFt s u := ⟨fun c hc => h.1 c (by omega), fun r a => h.2.1 r (by omega), h.2.2.1, h.2.2.2⟩
theorem zFt_sF {s : px_S} {c : Nat} {g : Nat → Int32} (hc : 29 ≤ c ∧ c ≤ 45) : zFt s (sF s c g) := ⟨fun d hd => sF_arr_ne (by omega), fun _ _ => rfl, rfl, rfl⟩
theorem zFt_sA {s : px_S} {c j : Nat} {x : Int32} (hc : 29 ≤ c ∧ c ≤ 45) : zFt s (sA s c j x) := ⟨fun d hd => by rw [sA_eq, sF_arr_ne (by omega)], fun _ _ => rfl, rfl, rfl⟩
theorem zFt_sR {s : px_S} {r : Nat} {x : Int32} (hr : 29 ≤ r ∧ r ≤ 37) : zFt s (sR s r x) := ⟨fun _ _ => rfl, fun q hq => by rw [sR_1, if_neg (by omega)], rfl, rfl⟩
theorem zRj_fv {s u : px_S} {T : ZTs} (h : zRj s T) (hf : zFv s u) : zRj u T := by
  obtain ⟨h1, h2, h3, h4, h5, h6⟩ := h
  refine ⟨fun b w hb hw => by rw [hf.1 39 (by omega)]; exact h1 b w hb hw, fun b w hb hw => by rw [hf.1 40 (by omega)]; exact h2 b w hb hw, fun b hb => by rw [hf.1 41 (by omega)]; exact h3 b hb, fun b hb => by rw [hf.1 42 (by omega)]; exact h4 b hb, by rw [hf.2.1 36 (by omega)]; exact h5, by rw [hf.2.1 37 (by omega)]; exact h6⟩
theorem zRj_row {s : px_S} {T : ZTs} (h : zRj s T) {c : Nat} {g : Nat → Int32} (hc : c < 39 ∨ 42 < c) : zRj (sF s c g) T := by
  obtain ⟨h1, h2, h3, h4, h5, h6⟩ := h
  exact ⟨fun b w hb hw => by rw [sF_arr_ne (by omega)]; exact h1 b w hb hw, fun b w hb hw => by rw [sF_arr_ne (by omega)]; exact h2 b w hb hw, fun b hb => by rw [sF_arr_ne (by omega)]; exact h3 b hb, fun b hb => by rw [sF_arr_ne (by omega)]; exact h4 b hb, h5, h6⟩
theorem bN_0 (f : Bool) : bN f = 0 ↔ f = false := by cases f <;> decide
/-- how many of the first blocks -/
theorem zCnt_succ (f : Nat → Bool) (i : Nat) : ((List.range (i + 1)).filter f).length = ((List.range i).filter f).length + (if f i = true then 1 else 0) := by
  rw [List.range_succ, List.filter_append, List.length_append]
  congr 1
  cases h : f i
  · rw [List.filter_cons_of_neg (by rw [h]; exact Bool.noConfusion)]; rfl
  · rw [List.filter_cons_of_pos h]; rfl
theorem zCnt_le (f : Nat → Bool) (i : Nat) : ((List.range i).filter f).length ≤ i := Nat.le_trans (List.length_filter_le _ _) (by rw [List.length_range]; exact Nat.le_refl _)
theorem m_changes_loop (K : px_K) (N : Nat) (hK : zKm K) (t : px_W) (s : px_S) (f : Nat → Bool) (h : ∀ b, b < 106 → s.2.2.1 41 b = bN (f b)) : ∀ (d i n : Nat), i + d = 106 → d < n → l_M_changes_28_4 K N n (iN ((List.range i).filter f).length) (iN i) s t = some (.inl (20, [iN (zCl f).length], s, t)) := by
  have h41 : K.2.2 41 = 106 := hK.2.2.2.2.2.2.2.2.2.2.2.2.1
  have i106 : (106 : Int32) = iN 106 := rfl
  intro d
  induction d with
  | zero =>
    intro i n hi hn
    obtain ⟨n, rfl⟩ : ∃ n', n = n' + 1 := ⟨n - 1, by omega⟩
    have hi : i = 106 := by omega
    subst hi
    unfold l_M_changes_28_4
    rw [if_pos (by decide)]; rfl
  | succ d ih =>
    intro i n hi hn
    obtain ⟨n, rfl⟩ : ∃ n', n = n' + 1 := ⟨n - 1, by omega⟩
    have hstep := ih (i + 1) n (by omega) (by omega)
    rw [zCnt_succ] at hstep
    unfold l_M_changes_28_4 px_let
    rw [if_neg (by rw [i106, iN_le (by omega) (by omega)]; omega), px_gd_of (by rw [h41]; exact iN_in (by omega) (by omega)), iN_nat (by omega), h i (by omega)]
    have e3 : iN i + (1 : Int32) = iN (i + 1) := by rw [iL1, iN_add]
    have ea : iN ((List.range i).filter f).length + (if bN (f i) = 0 then (0 : Int32) else (1 : Int32)) = iN (((List.range i).filter f).length + (if f i = true then 1 else 0)) := by
      cases hfi : f i
      · rw [if_pos (by decide), if_neg Bool.noConfusion, iL0, iN_add]
      · rw [if_neg (by decide), if_pos rfl, iL1, iN_add]
    dsimp only
    rw [ea, e3]
    exact hstep
theorem m_changes (K : px_K) (N : Nat) (hN : 2000 ≤ N) (hK : zKm K) (t : px_W) (s : px_S) (T : ZTs) (h : zRj s T) : f_M_changes_28 K N s t = some (.inl (some (.int (iN (zCl T.ch).length))), s, t) := by
  have := m_changes_loop K N hK t s T.ch h.2.2.1 106 0 N (by omega) (by omega)
  have this : l_M_changes_28_4 K N N (0 : Int32) (0 : Int32) s t = some (.inl (20, [iN (zCl T.ch).length], s, t)) := this
  unfold f_M_changes_28
  rw [this]; rfl
theorem m_keeps_loop (K : px_K) (N : Nat) (hK : zKm K) (t : px_W) (s : px_S) (f : Nat → Bool) (h : ∀ b, b < 106 → s.2.2.1 42 b = bN (f b)) : ∀ (d i n : Nat), i + d = 106 → d < n → l_M_keeps_28_4 K N n (iN ((List.range i).filter f).length) (iN i) s t = some (.inl (20, [iN (zCl f).length], s, t)) := by
  have h42 : K.2.2 42 = 106 := hK.2.2.2.2.2.2.2.2.2.2.2.2.2.1
  have i106 : (106 : Int32) = iN 106 := rfl
  intro d
  induction d with
  | zero =>
    intro i n hi hn
    obtain ⟨n, rfl⟩ : ∃ n', n = n' + 1 := ⟨n - 1, by omega⟩
    have hi : i = 106 := by omega
    subst hi
    unfold l_M_keeps_28_4
    rw [if_pos (by decide)]; rfl
  | succ d ih =>
    intro i n hi hn
    obtain ⟨n, rfl⟩ : ∃ n', n = n' + 1 := ⟨n - 1, by omega⟩
    have hstep := ih (i + 1) n (by omega) (by omega)
    rw [zCnt_succ] at hstep
    unfold l_M_keeps_28_4 px_let
    rw [if_neg (by rw [i106, iN_le (by omega) (by omega)]; omega), px_gd_of (by rw [h42]; exact iN_in (by omega) (by omega)), iN_nat (by omega), h i (by omega)]
    have e3 : iN i + (1 : Int32) = iN (i + 1) := by rw [iL1, iN_add]
    have ea : iN ((List.range i).filter f).length + (if bN (f i) = 0 then (0 : Int32) else (1 : Int32)) = iN (((List.range i).filter f).length + (if f i = true then 1 else 0)) := by
      cases hfi : f i
      · rw [if_pos (by decide), if_neg Bool.noConfusion, iL0, iN_add]
      · rw [if_neg (by decide), if_pos rfl, iL1, iN_add]
    dsimp only
    rw [ea, e3]
    exact hstep
theorem m_keeps (K : px_K) (N : Nat) (hN : 2000 ≤ N) (hK : zKm K) (t : px_W) (s : px_S) (T : ZTs) (h : zRj s T) : f_M_keeps_28 K N s t = some (.inl (some (.int (iN (zCl T.kt).length))), s, t) := by
  have := m_keeps_loop K N hK t s T.kt h.2.2.2.1 106 0 N (by omega) (by omega)
  have this : l_M_keeps_28_4 K N N (0 : Int32) (0 : Int32) s t = some (.inl (20, [iN (zCl T.kt).length], s, t)) := this
  unfold f_M_keeps_28
  rw [this]; rfl
/-! SEQUENCES OF WRITES that are safe -/
def zAw (P : Nat → ZSt → Prop) (v : ZVs) : Prop := v.wf = true → zAl P v
def zSq (P : Nat → ZSt → Prop) : List (Nat × ZBk) → ZVs → Prop
  | [], _ => True
  | e :: l, v => zAw P v ∧ v.p.na + 10000 < 2147483648 ∧ e.1 < 106 ∧ zSq P l (v.wrv e.1 e.2)
theorem zAw_iv {P : Nat → ZSt → Prop} {Q : ZSt → Prop} {v : ZVs} (h : ZOk P (fun u => ZIv P Q u) v) : zAw P v := by
  intro hw
  rcases h with ⟨h1, h2⟩ | h
  · rcases h2 with ⟨a, b, c⟩ | h2
    · exact Or.inl ⟨h1, a, c _ b⟩
    · have := h2.wf; rw [hw] at this; cases this
  · exact Or.inr h
theorem zSq_iv {P : Nat → ZSt → Prop} (hP : ∀ m m' V, m ≤ m' → P m V → P m' V) {Q : ZSt → Prop} : ∀ (l : List (Nat × ZBk)) (v : ZVs), ZOk P (fun u => ZIv P Q u) v → ZSz v.sets v.ways v.eps → (∀ e ∈ l, e.1 < 106 ∧ ∀ V, Q V → Q (zu V e.1 e.2)) → v.p.na + 7276 * l.length + 10000 < 2147483648 → zSq P l v := by
  intro l
  induction l with
  | nil => intro v _ _ _ _; trivial
  | cons e l ih =>
    intro v h hz hq hn
    rw [List.length_cons] at hn
    obtain ⟨e1, e2⟩ := hq e List.mem_cons_self
    have hf := zfr_wrv v e.1 e.2 hz
    have hn2 := hf.n2
    refine ⟨zAw_iv h, by omega, e1, ih _ ?_ (hf.sz hz) (fun e' he' => hq e' (List.mem_cons_of_mem _ he')) (by omega)⟩
    rcases h with ⟨h1, h2⟩ | h
    · exact (h2.wrv hP e1 e2 (by omega)).imp (fun _ q => q.1)
    · exact Or.inr (hf.dnn h)
theorem zSq_dn {P : Nat → ZSt → Prop} : ∀ (l : List (Nat × ZBk)) (v : ZVs), ZDn P v → v.p.na + 10000 < 2147483648 → (∀ e ∈ l, e.1 < 106) → zSq P l v := by
  intro l
  induction l with
  | nil => intro v _ _ _; trivial
  | cons e l ih =>
    intro v h hn hq
    have hf := zfr_wrv v e.1 e.2 h.sz
    refine ⟨fun _ => Or.inr h, hn, hq e List.mem_cons_self, ih _ (hf.dnn h) ?_ (fun e' he' => hq e' (List.mem_cons_of_mem _ he'))⟩
    rw [hf.dn h.up]; exact hn
/-- the blocks from a number on -/
def zFrom (f : Nat → Bool) (i : Nat) : List Nat := (List.range' i (106 - i)).filter f
theorem zFrom_0 (f : Nat → Bool) : zFrom f 0 = zCl f := by unfold zFrom zCl; rw [List.range_eq_range']
theorem zFrom_succ (f : Nat → Bool) {i : Nat} (hi : i < 106) : zFrom f i = if f i = true then i :: zFrom f (i + 1) else zFrom f (i + 1) := by
  unfold zFrom
  have e : 106 - i = (106 - (i + 1)) + 1 := by omega
  rw [e, List.range'_succ]
  cases h : f i
  · rw [List.filter_cons_of_neg (by rw [h]; exact Bool.noConfusion), if_neg Bool.noConfusion]
  · rw [List.filter_cons_of_pos h, if_pos rfl]
theorem zFrom_end (f : Nat → Bool) : zFrom f 106 = [] := rfl
theorem zRv_int {s : px_S} {v : ZVs} (h : zRv s v) {r : Nat} {x : Int32} (hr : 35 < r) : zRv (sR s r x) v := by
  obtain ⟨r1, r2, r3, r4, r5, r6, r7, r8, r9, r10⟩ := h.2
  exact ⟨zRw_int h.1 (by omega), by rw [sR_1, if_neg (by omega)]; exact r1, by rw [sR_1, if_neg (by omega)]; exact r2, by rw [sR_1, if_neg (by omega)]; exact r3, by rw [sR_1, if_neg (by omega)]; exact r4, by rw [sR_1, if_neg (by omega)]; exact r5, by rw [sR_1, if_neg (by omega)]; exact r6, by rw [sR_1, if_neg (by omega)]; exact r7, by rw [sR_1, if_neg (by omega)]; exact r8, r9, r10⟩
/-! COMING HOME (the reference) -/
theorem m_bh1 {P : Nat → ZSt → Prop} (hP : ∀ m m' V, m ≤ m' → P m V → P m' V) (K : px_K) (N : Nat) (hN : 2000 ≤ N) (hK : zKm K) (t : px_W) (T : ZTs) : ∀ (d i n : Nat) (s : px_S) (v : ZVs), i + d = 106 → d < n → zRv s v → zRj s T → zMm v → zSq P ((zFrom T.kt i).map fun b => (b, T.kp b)) v → wp (l_M_bringHome_28_6 K N n (iN i) s t) (zC 24 [] t (fun s' => zRv s' (ZVs.wrAll ((zFrom T.kt i).map fun b => (b, T.kp b)) v) ∧ zMm (ZVs.wrAll ((zFrom T.kt i).map fun b => (b, T.kp b)) v) ∧ zFv s s')) := by
  have h40 : K.2.2 40 = 1696 := hK.2.2.2.2.2.2.2.2.2.2.2.1
  have h42 : K.2.2 42 = 106 := hK.2.2.2.2.2.2.2.2.2.2.2.2.2.1
  have i106 : (106 : Int32) = iN 106 := rfl
  intro d
  induction d with
  | zero =>
    intro i n s v hi hn h hj hm hq
    obtain ⟨n, rfl⟩ : ∃ n', n = n' + 1 := ⟨n - 1, by omega⟩
    have hi : i = 106 := by omega
    subst hi
    unfold l_M_bringHome_28_6
    exact wp_if (by decide) (wp_rC ⟨h, hm, zFv_refl s⟩)
  | succ d ih =>
    intro i n s v hi hn h hj hm hq
    obtain ⟨n, rfl⟩ : ∃ n', n = n' + 1 := ⟨n - 1, by omega⟩
    have e3 : iN i + (1 : Int32) = iN (i + 1) := by rw [iL1, iN_add]
    have e16 : (16 : Int32) * iN i = iN (16 * i) := by rw [iL16, iN_mul]
    unfold l_M_bringHome_28_6
    rw [e3, e16, iN_nat (by omega), hj.2.2.2.1 i (by omega)]
    refine wp_ifn (by rw [i106, iN_le (by omega) (by omega)]; omega) (wp_gd (by rw [h42]; exact iN_in (by omega) (by omega)) ?_)
    rw [zFrom_succ T.kt (show i < 106 by omega)] at hq ⊢
    cases hf : T.kt i with
    | false =>
      rw [hf] at hq
      rw [if_neg (c := false = true) Bool.noConfusion] at hq ⊢
      exact wp_if rfl (ih (i + 1) n s v (by omega) (by omega) h hj hm hq)
    | true =>
      rw [hf] at hq
      rw [if_pos (c := true = true) rfl, List.map_cons] at hq ⊢
      obtain ⟨q1, q2, q3, q4⟩ := hq
      refine wp_ifn (by decide) ?_
      obtain ⟨s1, a1, a2, a3, a4⟩ := m_wrv_40 hP K N hN hK t i (16 * i) (T.kp i) (by omega) (by omega) (by omega) s v h hm q1 q2 (fun w hw => hj.2.1 i w (by omega) hw hf)
      refine wp_bv a1 ?_
      refine wp_imp (ih (i + 1) n s1 _ (by omega) (by omega) a2 (zRj_fv hj a4) a3 q4) ?_
      rintro r ⟨s', h1, h2, h3, h4⟩
      exact ⟨s', h1, h2, h3, zFv_trans a4 h4⟩
theorem m_bh2 (K : px_K) (N : Nat) (hN : 2000 ≤ N) (hK : zKm K) (t : px_W) : ∀ (d i n : Nat) (s : px_S), i + d = 106 → d < n → wp (l_M_bringHome_28_44 K N n (iN i) s t) (zC 54 [] t (fun s' => (∃ g, s' = sF s 42 g) ∧ ∀ b, b < 106 → s'.2.2.1 42 b = if i ≤ b then 0 else s.2.2.1 42 b)) := by
  have h42 : K.2.2 42 = 106 := hK.2.2.2.2.2.2.2.2.2.2.2.2.2.1
  have i106 : (106 : Int32) = iN 106 := rfl
  intro d
  induction d with
  | zero =>
    intro i n s hi hn
    obtain ⟨n, rfl⟩ : ∃ n', n = n' + 1 := ⟨n - 1, by omega⟩
    have hi : i = 106 := by omega
    subst hi
    unfold l_M_bringHome_28_44
    exact wp_if (by decide) (wp_rC ⟨⟨s.2.2.1 42, by rw [sF_triv]⟩, fun b hb => by rw [if_neg (by omega)]⟩)
  | succ d ih =>
    intro i n s hi hn
    obtain ⟨n, rfl⟩ : ∃ n', n = n' + 1 := ⟨n - 1, by omega⟩
    have e3 : iN i + (1 : Int32) = iN (i + 1) := by rw [iL1, iN_add]
    unfold l_M_bringHome_28_44
    rw [e3, iN_nat (by omega)]
    refine wp_ifn (by rw [i106, iN_le (by omega) (by omega)]; omega) (wp_gd (by rw [h42]; exact iN_in (by omega) (by omega)) (wp_let ?_))
    refine wp_imp (ih (i + 1) n _ (by omega) (by omega)) ?_
    rintro r ⟨s', h1, ⟨g, h2⟩, h3⟩
    refine ⟨s', h1, ⟨g, by rw [h2, sA_eq, sF_sF]⟩, fun b hb => ?_⟩
    rw [h3 b hb, sA_arr]
    by_cases hbi : b = i
    · subst hbi; rw [if_neg (by omega), if_pos (by omega), upd_self]
    · rw [upd_ne hbi]
      by_cases hle : i ≤ b
      · rw [if_pos (by omega), if_pos hle]
      · rw [if_neg (by omega), if_neg hle]
/-- what a call's beginning, or what is left of a call after a crash, may be -/
def zTa (W : ZSt → Prop) (T : ZTs) : Prop := (T.tv.p.up = true ∧ ZTi W T) ∨ ZDn (zGood W) T.tv
theorem m_home {W : ZSt → Prop} (hW : ∀ T T', (∀ b, 29 ≤ b → T b = T' b) → W T → W T') (K : px_K) (N : Nat) (hN : 2000 ≤ N) (hK : zKm K) (t : px_W) (s : px_S) (T : ZTs) (h : zRt s T) (hm : zMm T.tv) {jj : Nat} (ht : zTa W (T.s_jr jj)) (hn : T.tv.p.na + 1000000 < 2147483648) : ∃ s', f_M_bringHome_28 K N s t = some (.inl none, s', t) ∧ zRt s' T.home ∧ zMm T.home.tv ∧ zFt s s' := by
  apply wp_B
  have hP := zGood_mono W
  have h44 : K.2.2 44 = 16 := hK.2.2.2.2.2.2.2.2.2.2.2.2.2.2.2.1
  have hlen : (zCl T.kt).length ≤ 106 := zCnt_le _ _
  unfold f_M_bringHome_28
  refine wp_bi (m_keeps K N hN hK t s T h.2) ?_
  by_cases hc : zCl T.kt = []
  · have e : T.home = T := by unfold ZTs.home; rw [if_pos hc]
    rw [e, hc]
    exact wp_ifn (fun hx => hx rfl) (wp_rB ⟨h, hm, zFt_refl s⟩)
  have hpos : 0 < (zCl T.kt).length := List.length_pos_iff.mpr hc
  refine wp_if (by rw [iL0, iN_eq (by omega) (by omega)]; omega) ?_
  have e : T.home = ZTs.mk ((((ZVs.wrAll ((zCl T.kt).map fun b => (b, T.kp b)) T.tv).flv).wrv 0 (zThree T.sq 0 0)).flv) T.wd T.kp T.ch (fun _ => false) T.sq 1 := by unfold ZTs.home; rw [if_neg hc]
  rw [e]
  obtain ⟨l, hl⟩ : ∃ l, l = (zCl T.kt).map fun b => (b, T.kp b) := ⟨_, rfl⟩
  rw [← hl]
  have hll : l.length = (zCl T.kt).length := by rw [hl, List.length_map]
  have hz : ZSz T.tv.sets T.tv.ways T.tv.eps := hm.1.1
  -- the writes are safe
  have safe : zSq (zGood W) l T.tv ∧ zAw (zGood W) (ZVs.wrAll l T.tv) ∧ zAw (zGood W) ((ZVs.wrAll l T.tv).flv) ∧ zAw (zGood W) (((ZVs.wrAll l T.tv).flv).wrv 0 (zThree T.sq 0 0)) := by
    have hb : ∀ e ∈ l, e.1 < 106 := by
      intro e he
      rw [hl] at he
      obtain ⟨c, hc, rfl⟩ := List.mem_map.mp he
      exact (mem_zCl.mp hc).1
    have ht' : (T.tv.p.up = true ∧ ZTi W (T.s_jr jj)) ∨ ZDn (zGood W) T.tv := ht
    rcases ht' with ⟨h1, h2⟩ | hd
    · obtain ⟨Q1, q1, q2, q3, q4⟩ : ∃ Q1 : ZSt → Prop, Q1 T.tv.cur ∧ (∀ e ∈ (zCl T.kt).map fun b => (b, T.kp b), e.1 < 106 ∧ ∀ V, Q1 V → Q1 (zu V e.1 e.2)) ∧ (∀ V, Q1 V → zGood W (T.tv.p.na + 1) V) ∧ zGood W (T.tv.p.na + 2) (zu (zov T.tv.cur ((zCl T.kt).map fun b => (b, T.kp b))) 0 (zThree T.sq 0 0)) := h2.homeQ hW hc
      rw [← hl] at q2 q4
      have hiv0 : ZIv (zGood W) (fun V => V = T.tv.cur) T.tv := h2.iv
      have hiv : ZIv (zGood W) Q1 T.tv := hiv0.re (fun V hV => by rw [hV]; exact q1) q3
      obtain ⟨s1, s2, s3⟩ := ZIv.three hP hiv0 q1 q2 q3 (by omega) (by omega) q4 (by omega)
      exact ⟨zSq_iv hP l T.tv (Or.inl ⟨h1, hiv⟩) hz q2 (by omega), zAw_iv (s1.imp (fun _ q => q.1)), zAw_iv (s2.imp (fun _ q => q.1)), zAw_iv (s3.imp (fun _ q => q.1))⟩
    · have d1 := (zfr_wrAll l T.tv hz).dnn hd
      have d2 := (zfr_flv _ d1.sz).dnn d1
      have d3 := (zfr_wrv _ 0 (zThree T.sq 0 0) d2.sz).dnn d2
      exact ⟨zSq_dn l T.tv hd (by omega) hb, fun _ => Or.inr d1, fun _ => Or.inr d2, fun _ => Or.inr d3⟩
  obtain ⟨f1, f2, f3, f4⟩ := safe
  have n1 := (zfr_wrAll l T.tv hz).n2
  have z1 := (zfr_wrAll l T.tv hz).sz hz
  have n2 := (zfr_flv _ z1).n2
  have z2 := (zfr_flv _ z1).sz z1
  have n3 := (zfr_wrv _ 0 (zThree T.sq 0 0) z2).n2
  have b1 := m_bh1 hP K N hN hK t T 106 0 N s T.tv (by omega) (by omega) h.1 h.2 hm (by rw [zFrom_0, ← hl]; exact f1)
  rw [zFrom_0, ← hl] at b1
  obtain ⟨s1, a1, a2, a3, a4⟩ := wp_C b1
  refine wp_lp a1 (wp_if rfl ?_)
  show wp (px_bv _ _ _) _
  obtain ⟨v1, hv1⟩ : ∃ v1, v1 = ZVs.wrAll l T.tv := ⟨_, rfl⟩
  rw [← hv1] at a2 a3 f2 f3 f4 n1 n2 n3 ⊢
  obtain ⟨s2, c1, c2, c3, c4⟩ := m_flv hP K N hN hK t s1 v1 a2 a3 f2 (by omega)
  refine wp_bv c1 ?_
  obtain ⟨v2, hv2⟩ : ∃ v2, v2 = v1.flv := ⟨_, rfl⟩
  rw [← hv2] at c2 c3 f3 f4 n2 n3 ⊢
  have hj2 : zRj s2 T := zRj_fv (zRj_fv h.2 a4) c4
  rw [hj2.2.2.2.2.1]
  obtain ⟨g, d1, d2⟩ := m_three_44 K N (by omega) h44 T.sq 0 0 s2 t
  refine wp_bv d1 ?_
  obtain ⟨s3, e1, e2, e3, e4⟩ := m_wrv_44 hP K N hN hK t 0 0 (zThree T.sq 0 0) (by omega) (by omega) (by omega) (sF s2 44 g) v2 (zRv_row c2 (by omega)) c3 f3 (by omega) (fun w hw => by rw [Nat.zero_add, sF_arr]; exact d2 w hw)
  refine wp_bv e1 ?_
  obtain ⟨v3, hv3⟩ : ∃ v3, v3 = v2.wrv 0 (zThree T.sq 0 0) := ⟨_, rfl⟩
  rw [← hv3] at e2 e3 f4 n3 ⊢
  obtain ⟨s4, g1, g2, g3, g4⟩ := m_flv hP K N hN hK t s3 v3 e2 e3 f4 (by omega)
  refine wp_bv g1 ?_
  obtain ⟨s5, k1, ⟨g5, k2⟩, k3⟩ := wp_C (m_bh2 K N hN hK t 106 0 N s4 (by omega) (by omega))
  refine wp_lp k1 (wp_if rfl (wp_let ?_))
  have hj4 : zRj s4 T := zRj_fv (zRj_fv (zRj_row hj2 (by omega)) e4) g4
  have hv5 : zRv s5 v3.flv := by rw [k2]; exact zRv_row g2 (by omega)
  refine wp_rB ⟨⟨zRv_int hv5 (by omega), ?_⟩, g3, ?_⟩
  · obtain ⟨h1, h2, h3, h4, h5, h6⟩ := hj4
    refine ⟨fun b w hb hw => ?_, fun b w hb hw hx => (by cases hx), fun b hb => ?_, fun b hb => ?_, ?_, rfl⟩
    · show s5.2.2.1 39 _ = _
      rw [k2, sF_arr_ne (by omega)]; exact h1 b w hb hw
    · show s5.2.2.1 41 b = _
      rw [k2, sF_arr_ne (by omega)]; exact h3 b hb
    · show s5.2.2.1 42 b = _
      rw [k3 b hb, if_pos (Nat.zero_le _)]; rfl
    · rw [sR_1, if_neg (by omega), k2]; exact h5
  · have q1 : zFt s s2 := zFt_fv (zFv_trans a4 c4)
    have q2 : zFt s2 (sF s2 44 g) := zFt_sF (by omega)
    have q3 : zFt (sF s2 44 g) s4 := zFt_fv (zFv_trans e4 g4)
    have q4 : zFt s4 s5 := by rw [k2]; exact zFt_sF (by omega)
    exact zFt_trans q1 (zFt_trans q2 (zFt_trans q3 (zFt_trans q4 (zFt_sR (by omega)))))
/-! A COMMIT (the reference) -/
theorem zEn_snoc (wd : ZSt) (b : Nat) : ∀ l : List Nat, zEn wd (l ++ [b]) = zEn wd l + zE1 (wd b 0) * 4 ^ l.length := by
  intro l
  induction l with
  | nil => show zE1 (wd b 0) + 4 * 0 = 0 + zE1 (wd b 0) * 1; omega
  | cons c l ih =>
    show zE1 (wd c 0) + 4 * zEn wd (l ++ [b]) = zE1 (wd c 0) + 4 * zEn wd l + zE1 (wd b 0) * 4 ^ (l.length + 1)
    rw [ih, Nat.pow_succ, Nat.mul_add, ← Nat.add_assoc]
    congr 1
    rw [Nat.mul_left_comm, Nat.mul_comm 4 (4 ^ l.length)]
theorem esc_sh : ∀ j, j < 12 → ((1 : Int32) <<< ((2 : Int32) * iN j &&& 31) = iN (1 * 4 ^ j)) ∧ ((2 : Int32) <<< ((2 : Int32) * iN j &&& 31) = iN (2 * 4 ^ j)) := by decide
/-- the row that begins a commit, as far as it is made -/
def zHr (sq n : Nat) (l : List Nat) (wd : ZSt) (g : Nat → Int32) : Prop := g 0 = 1 ∧ g 1 = iN sq ∧ g 2 = iN n ∧ g 15 = iN (zEn wd l) ∧ ∀ w, 3 ≤ w → w < 15 → g w = match l[w - 3]? with
    | some b => iN b
    | none => 0
theorem zHr_hdr {sq : Nat} {l : List Nat} {wd : ZSt} {g : Nat → Int32} (h : zHr sq l.length l wd g) : ∀ w, w < 16 → g w = zHdr sq l wd w := by
  obtain ⟨h0, h1, h2, h15, h3⟩ := h
  intro w hw
  unfold zHdr
  by_cases w0 : w = 0
  · rw [if_pos w0, w0]; exact h0
  rw [if_neg w0]
  by_cases w1 : w = 1
  · rw [if_pos w1, w1]; exact h1
  rw [if_neg w1]
  by_cases w2 : w = 2
  · rw [if_pos w2, w2]; exact h2
  rw [if_neg w2]
  by_cases w15 : w = 15
  · rw [if_pos w15, w15]; exact h15
  rw [if_neg w15]
  exact h3 w (by omega) (by omega)
theorem m_word (K : px_K) (N : Nat) (hK : zKm K) (t : px_W) (s : px_S) (b w : Nat) (hb : b < 106) (hw : w < 16) : f_M_word_28 K N (iN b) (iN w) s t = some (.inl (some (.int (s.2.2.1 39 (16 * b + w)))), s, t) := by
  have h39 : K.2.2 39 = 1696 := hK.2.2.2.2.2.2.2.2.2.2.1
  unfold f_M_word_28
  have e : (16 : Int32) * iN b + iN w = iN (16 * b + w) := by rw [iL16, iN_mul, iN_add]
  rw [e, px_gd_of (by rw [h39]; exact iN_in (by omega) (by omega)), iN_nat (by omega)]
theorem m_esc (K : px_K) (N : Nat) (x : Int32) (s : px_S) (t : px_W) : f_M_isEscaped K N x s t = some (.inl (some (.int (if zE1 x = 0 then 0 else 1))), s, t) := by
  unfold f_M_isEscaped zE1
  by_cases h1 : x = 1
  · rw [if_pos h1, if_pos h1, px_gd_of (Or.inr rfl)]; rfl
  · rw [if_neg h1, if_neg h1]
    by_cases h2 : x = 2
    · rw [if_neg (fun hx => hx h2), if_pos h2, px_gd_of (Or.inr rfl)]; rfl
    · rw [if_pos h2, if_neg h2, px_gd_of (Or.inl rfl)]; rfl
theorem m_cm1 (K : px_K) (N : Nat) (hN : 2000 ≤ N) (hK : zKm K) (t : px_W) (T : ZTs) (n0 : Nat) (h12 : (zCl T.ch).length ≤ 12) : ∀ (d i n : Nat) (s : px_S), i + d = 106 → d < n → zRj s T → zHr T.sq n0 ((List.range i).filter T.ch) T.wd (s.2.2.1 44) → wp (l_M_commit_28_28 K N n (iN ((List.range i).filter T.ch).length) (iN i) s t) (zC 70 [] t (fun s' => (∃ g, s' = sF s 44 g) ∧ zHr T.sq n0 (zCl T.ch) T.wd (s'.2.2.1 44))) := by
  have h44 : K.2.2 44 = 16 := hK.2.2.2.2.2.2.2.2.2.2.2.2.2.2.2.1
  have h41 : K.2.2 41 = 106 := hK.2.2.2.2.2.2.2.2.2.2.2.2.1
  have i106 : (106 : Int32) = iN 106 := rfl
  intro d
  induction d with
  | zero =>
    intro i n s hi hn hj hh
    obtain ⟨n, rfl⟩ : ∃ n', n = n' + 1 := ⟨n - 1, by omega⟩
    have hi : i = 106 := by omega
    subst hi
    unfold l_M_commit_28_28
    exact wp_if (by decide) (wp_rC ⟨⟨s.2.2.1 44, by rw [sF_triv]⟩, hh⟩)
  | succ d ih =>
    intro i n s hi hn hj hh
    obtain ⟨n, rfl⟩ : ∃ n', n = n' + 1 := ⟨n - 1, by omega⟩
    have e3 : iN i + (1 : Int32) = iN (i + 1) := by rw [iL1, iN_add]
    have hrs : (List.range (i + 1)).filter T.ch = (List.range i).filter T.ch ++ (if T.ch i = true then [i] else []) := by
      rw [List.range_succ, List.filter_append]
      congr 1
      cases h : T.ch i
      · rw [List.filter_cons_of_neg (by rw [h]; exact Bool.noConfusion)]; rfl
      · rw [List.filter_cons_of_pos h]; rfl
    unfold l_M_commit_28_28
    rw [e3, iN_nat (show i < 2147483648 by omega), hj.2.2.1 i (by omega)]
    refine wp_ifn (by rw [i106, iN_le (by omega) (by omega)]; omega) (wp_gd (by rw [h41]; exact iN_in (by omega) (by omega)) ?_)
    cases hf : T.ch i with
    | false =>
      rw [hf, if_neg Bool.noConfusion, List.append_nil] at hrs
      refine wp_ifn (fun hx => hx rfl) ?_
      have := ih (i + 1) n s (by omega) (by omega) hj (by rw [hrs]; exact hh)
      rw [hrs] at this
      exact this
    | true =>
      rw [hf, if_pos rfl] at hrs
      obtain ⟨l, hl⟩ : ∃ l, l = (List.range i).filter T.ch := ⟨_, rfl⟩
      rw [← hl] at hh hrs ⊢
      have hlt : l.length < 12 := by
        have hsub : ((List.range (i + 1)).filter T.ch).length ≤ (zCl T.ch).length := by
          exact ((List.range_sublist.mpr (by omega)).filter T.ch).length_le
        rw [hrs, List.length_append] at hsub
        have : [i].length = 1 := rfl
        omega
      have e3j : (3 : Int32) + iN l.length = iN (3 + l.length) := by show iN 3 + iN l.length = _; rw [iN_add]
      have ej : iN l.length + (1 : Int32) = iN (l.length + 1) := by rw [iL1, iN_add]
      have n15 : (15 : Int32).toNatClampNeg = 15 := rfl
      rw [e3j, ej, iN_nat (by omega), n15]
      refine wp_if (by decide) (wp_gd (by rw [h44]; exact iN_in (by omega) (by omega)) (wp_let (wp_gd (by rw [h44]; exact iN_in (a := 15) (by omega) (by omega)) ?_)))
      have hw0 := m_word K N hK t (sA s 44 (3 + l.length) (iN i)) i 0 (by omega) (by omega)
      rw [sA_arr_ne (by omega), hj.1 i 0 (by omega) (by omega)] at hw0
      refine wp_bi hw0 (wp_bi (m_esc K N _ _ t) ?_)
      have e15 : (sA s 44 (3 + l.length) (iN i)).2.2.1 44 15 = iN (zEn T.wd l) := by
        rw [sA_arr, upd_ne (by omega)]; exact hh.2.2.2.1
      rw [e15]
      -- with the row told
      have fin : ∀ x : Int32, x = iN (zEn T.wd (l ++ [i])) → wp (l_M_commit_28_28 K N n (iN (l.length + 1)) (iN (i + 1)) (sA (sA s 44 (3 + l.length) (iN i)) 44 15 x) t) (zC 70 [] t (fun s' => (∃ g, s' = sF s 44 g) ∧ zHr T.sq n0 (zCl T.ch) T.wd (s'.2.2.1 44))) := by
        intro x hx
        have hle : (l ++ [i]).length = l.length + 1 := by rw [List.length_append]; rfl
        have hih := ih (i + 1) n (sA (sA s 44 (3 + l.length) (iN i)) 44 15 x) (by omega) (by omega) (zRj_row (zRj_row hj (by omega)) (by omega)) (by
          rw [hrs]
          obtain ⟨g0, g1, g2, g15, g3⟩ := hh
          have arr : (sA (sA s 44 (3 + l.length) (iN i)) 44 15 x).2.2.1 44 = upd (upd (s.2.2.1 44) (3 + l.length) (iN i)) 15 x := by rw [sA_arr, sA_arr]
          rw [arr]
          refine ⟨by rw [upd_ne (by omega), upd_ne (by omega)]; exact g0, by rw [upd_ne (by omega), upd_ne (by omega)]; exact g1, by rw [upd_ne (by omega), upd_ne (by omega)]; exact g2, by rw [upd_self]; exact hx, fun w w1 w2 => ?_⟩
          rw [upd_ne (by omega)]
          by_cases hw : w = 3 + l.length
          · rw [hw, upd_self]
            have e : 3 + l.length - 3 = l.length := by omega
            rw [e, List.getElem?_append_right (Nat.le_refl _), Nat.sub_self]; rfl
          · rw [upd_ne hw, g3 w w1 w2]
            by_cases hlw : w - 3 < l.length
            · rw [List.getElem?_append_left hlw]
            · rw [List.getElem?_eq_none (by omega), List.getElem?_eq_none (by rw [hle]; omega)])
        rw [hrs, hle] at hih
        refine wp_imp hih ?_
        rintro r ⟨s', h1, ⟨g, h2⟩, h3⟩
        exact ⟨s', h1, ⟨g, by rw [h2, sA_eq, sA_eq, sF_sF, sF_sF]⟩, h3⟩
      by_cases hz : zE1 (T.wd i 0) = 0
      · rw [if_pos hz]
        refine wp_if rfl (wp_gd (by rw [h44]; exact iN_in (a := 15) (by omega) (by omega)) (wp_let (fin _ ?_)))
        rw [zEn_snoc, hz, Nat.zero_mul, iL0, iN_add]
      · rw [if_neg hz]
        refine wp_ifn (by decide) (wp_bi hw0 (wp_gd (by rw [h44]; exact iN_in (a := 15) (by omega) (by omega)) (wp_let (fin _ ?_))))
        rw [zEn_snoc]
        obtain ⟨sh1, sh2⟩ := esc_sh l.length hlt
        have hcase : (T.wd i 0 = 1 ∧ zE1 (T.wd i 0) = 1) ∨ (T.wd i 0 = 2 ∧ zE1 (T.wd i 0) = 2) := by
          unfold zE1 at hz ⊢
          by_cases c1 : T.wd i 0 = 1
          · left; rw [if_pos c1]; exact ⟨c1, rfl⟩
          · by_cases c2 : T.wd i 0 = 2
            · right; rw [if_neg c1, if_pos c2]; exact ⟨c2, rfl⟩
            · rw [if_neg c1, if_neg c2] at hz; exact absurd rfl hz
        rcases hcase with ⟨c1, c2⟩ | ⟨c1, c2⟩
        · rw [c2, c1, sh1, iN_add]
        · rw [c2, c1, sh2, iN_add]
/-- a block goes to the kept ones and, escaped, to the row -/
theorem m_cm96 (K : px_K) (N : Nat) (hN : 2000 ≤ N) (hK : zKm K) (t : px_W) (b : Nat) (hb : b < 106) (x : ZBk) : ∀ (d m n : Nat) (s : px_S), m + d = 16 → d < n → (∀ w, w < 16 → s.2.2.1 39 (16 * b + w) = x w) → wp (l_M_commit_28_96 K N n (iN b) (iN m) s t) (zC 131 [] t (fun s' => ∃ g40 g44, s' = sF (sF s 40 g40) 44 g44 ∧ (∀ w, w < 16 → g44 w = if m ≤ w then zEsc x w else s.2.2.1 44 w) ∧ ∀ c w, w < 16 → g40 (16 * c + w) = if c = b ∧ m ≤ w then x w else s.2.2.1 40 (16 * c + w))) := by
  have h44 : K.2.2 44 = 16 := hK.2.2.2.2.2.2.2.2.2.2.2.2.2.2.2.1
  have h40 : K.2.2 40 = 1696 := hK.2.2.2.2.2.2.2.2.2.2.2.1
  intro d
  induction d with
  | zero =>
    intro m n s hm hn hx
    obtain ⟨n, rfl⟩ : ∃ n', n = n' + 1 := ⟨n - 1, by omega⟩
    have hm : m = 16 := by omega
    subst hm
    unfold l_M_commit_28_96
    refine wp_if (by decide) (wp_rC ⟨s.2.2.1 40, s.2.2.1 44, ?_, fun w hw => by rw [if_neg (by omega)], fun c w hw => by rw [if_neg (by omega)]⟩)
    rw [sF_triv, sF_triv]
  | succ d ih =>
    intro m n s hm hn hx
    obtain ⟨n, rfl⟩ : ∃ n', n = n' + 1 := ⟨n - 1, by omega⟩
    have e3 : iN m + (1 : Int32) = iN (m + 1) := by rw [iL1, iN_add]
    have e16 : (16 : Int32) * iN b + iN m = iN (16 * b + m) := by rw [iL16, iN_mul, iN_add]
    have hw1 := m_word K N hK t s b m hb (by omega)
    rw [hx m (by omega)] at hw1
    have hw2 : ∀ y, f_M_word_28 K N (iN b) (iN m) (sA s 40 (16 * b + m) y) t = some (.inl (some (.int (x m))), sA s 40 (16 * b + m) y, t) := by
      intro y
      have := m_word K N hK t (sA s 40 (16 * b + m) y) b m hb (by omega)
      rw [sA_arr_ne (by omega), hx m (by omega)] at this
      exact this
    unfold l_M_commit_28_96
    rw [e3, e16, iN_nat (by omega), iN_nat (by omega)]
    refine wp_ifn (by rw [iL16, iN_le (by omega) (by omega)]; omega) (wp_bi hw1 (wp_gd (by rw [h40]; exact iN_in (by omega) (by omega)) (wp_let ?_)))
    have fin : ∀ y : Int32, y = zEsc x m → wp (l_M_commit_28_96 K N n (iN b) (iN (m + 1)) (sA (sA s 40 (16 * b + m) (x m)) 44 m y) t) (zC 131 [] t (fun s' => ∃ g40 g44, s' = sF (sF s 40 g40) 44 g44 ∧ (∀ w, w < 16 → g44 w = if m ≤ w then zEsc x w else s.2.2.1 44 w) ∧ ∀ c w, w < 16 → g40 (16 * c + w) = if c = b ∧ m ≤ w then x w else s.2.2.1 40 (16 * c + w))) := by
      intro y hy
      refine wp_imp (ih (m + 1) n _ (by omega) (by omega) (fun w hw => by rw [sA_arr_ne (by omega), sA_arr_ne (by omega)]; exact hx w hw)) ?_
      rintro r ⟨s', h1, g40, g44, h2, h3, h4⟩
      refine ⟨s', h1, g40, g44, ?_, fun w hw => ?_, fun c w hw => ?_⟩
      · rw [h2]
        have : ∀ (u : px_S) (p q p' q' : Nat → Int32), sF (sF (sF (sF u 40 p) 44 q) 40 p') 44 q' = sF (sF u 40 p') 44 q' := by
          intro u p q p' q'
          unfold sF
          dsimp only
          congr 1
          congr 1
          congr 1
          funext c
          unfold gA
          by_cases c1 : c = 44
          · simp [c1]
          · by_cases c2 : c = 40 <;> simp [c1, c2]
        rw [sA_eq, sA_eq, this]
      · rw [h3 w hw, sA_arr, sA_arr_ne (by omega)]
        by_cases hwm : w = m
        · rw [hwm, if_neg (by omega), if_pos (Nat.le_refl _), upd_self]; exact hy
        · rw [upd_ne hwm]
          by_cases hle : m ≤ w
          · rw [if_pos (by omega), if_pos hle]
          · rw [if_neg (by omega), if_neg hle]
      · rw [h4 c w hw, sA_arr_ne (by omega), sA_arr]
        by_cases hcb : c = b ∧ w = m
        · rw [hcb.1, hcb.2, if_neg (by omega), if_pos ⟨rfl, Nat.le_refl _⟩, upd_self]
        · rw [upd_ne (by omega)]
          by_cases hle : c = b ∧ m ≤ w
          · rw [if_pos (by omega), if_pos hle]
          · rw [if_neg (by omega), if_neg hle]
    by_cases hm0 : m = 0
    · subst hm0
      refine wp_ifn (fun hx => hx rfl) (wp_bi (hw2 _) (wp_bi (m_esc K N _ _ t) ?_))
      by_cases hz : zE1 (x 0) = 0
      · rw [if_pos hz]
        refine wp_if rfl (wp_bi (hw2 _) (wp_gd (by rw [h44]; exact iN_in (a := 0) (by omega) (by omega)) (wp_let (fin _ ?_))))
        unfold zEsc; rw [if_neg (fun hx => hx.2 hz)]
      · rw [if_neg hz]
        refine wp_ifn (by decide) (wp_gd (by rw [h44]; exact iN_in (a := 0) (by omega) (by omega)) (wp_let (fin _ ?_)))
        unfold zEsc; rw [if_pos ⟨rfl, hz⟩]
    · refine wp_if (by rw [iL0, iN_eq (by omega) (by omega)]; exact hm0) (wp_bi (hw2 _) (wp_gd (by rw [h44]; exact iN_in (by omega) (by omega)) (wp_let (fin _ ?_))))
      unfold zEsc; rw [if_neg (fun hx => hm0 hx.1)]
/-- the journal's rows behind a commit's beginning -/
def zRowsF (wd : ZSt) : Nat → List Nat → List (Nat × ZBk)
  | _, [] => []
  | q, b :: l => (q + 1, zEsc (wd b)) :: zRowsF wd (q + 1) l
theorem zRowsF_eq (wd : ZSt) : ∀ (l : List Nat) (q : Nat), zRows q l wd = zRowsF wd q l := by
  intro l
  induction l with
  | nil => intro q; rfl
  | cons b l ih =>
    intro q
    unfold zRows
    rw [List.length_cons, List.range_succ_eq_map, List.map_cons, List.map_map]
    show (q + 1 + 0, zEsc (wd b)) :: _ = (q + 1, zEsc (wd b)) :: zRowsF wd (q + 1) l
    rw [← ih (q + 1)]
    congr 1
    unfold zRows
    refine List.map_congr_left (fun j _ => ?_)
    show (q + 1 + (j + 1), zEsc (wd ((b :: l).getD (j + 1) 0))) = (q + 1 + 1 + j, zEsc (wd (l.getD j 0)))
    rw [show q + 1 + (j + 1) = q + 1 + 1 + j by omega]
    rfl
theorem zFrom_congr {f g : Nat → Bool} {i : Nat} (h : ∀ b, i ≤ b → f b = g b) : zFrom f i = zFrom g i := by
  unfold zFrom
  refine List.filter_congr (fun b hb => ?_)
  have := List.mem_range'_1.mp hb
  exact h b this.1
/-- what a commit has made of the tree's rows from a block on -/
def zCq (T : ZTs) (i : Nat) (v : ZVs) (q : Nat) : ZTs := ZTs.mk v T.wd (fun b => if (decide (i ≤ b) && T.ch b) = true then T.wd b else T.kp b) (fun b => T.ch b && !decide (i ≤ b)) (fun b => T.kt b || (decide (i ≤ b) && T.ch b)) T.sq q
theorem zCq_skip {T : ZTs} {i : Nat} {v : ZVs} {q : Nat} (h : T.ch i = false) : zCq T i v q = zCq T (i + 1) v q := by
  have key : ∀ b, (decide (i ≤ b) && T.ch b) = (decide (i + 1 ≤ b) && T.ch b) ∧ (T.ch b && !decide (i ≤ b)) = (T.ch b && !decide (i + 1 ≤ b)) := by
    intro b
    by_cases hb : b = i
    · rw [hb, h]; simp
    · have : decide (i ≤ b) = decide (i + 1 ≤ b) := decide_eq_decide.mpr (by omega)
      rw [this]; exact ⟨rfl, rfl⟩
  unfold zCq
  congr 1
  · funext b; rw [(key b).1]
  · funext b; rw [(key b).2]
  · funext b; rw [(key b).1]
theorem zCq_step {T : ZTs} {i : Nat} {v v1 : ZVs} {q q1 : Nat} (h : T.ch i = true) : zCq T i v q = zCq (ZTs.mk v1 T.wd (zu T.kp i (T.wd i)) (zu T.ch i false) (zu T.kt i true) T.sq q1) (i + 1) v q := by
  unfold zCq
  show ZTs.mk _ _ _ _ _ _ _ = ZTs.mk _ _ _ _ _ _ _
  congr 1
  · funext b
    show _ = if (decide (i + 1 ≤ b) && zu T.ch i false b) = true then T.wd b else zu T.kp i (T.wd i) b
    by_cases hb : b = i
    · rw [hb, zu_self, zu_self, h]; simp
    · have : decide (i ≤ b) = decide (i + 1 ≤ b) := decide_eq_decide.mpr (by omega)
      rw [zu_ne _ _ hb, zu_ne _ _ hb, this]
  · funext b
    show _ = (zu T.ch i false b && !decide (i + 1 ≤ b))
    by_cases hb : b = i
    · rw [hb, zu_self]; simp
    · have : decide (i ≤ b) = decide (i + 1 ≤ b) := decide_eq_decide.mpr (by omega)
      rw [zu_ne _ _ hb, this]
  · funext b
    show _ = (zu T.kt i true b || (decide (i + 1 ≤ b) && zu T.ch i false b))
    by_cases hb : b = i
    · rw [hb, zu_self, zu_self, h]; simp
    · have : decide (i ≤ b) = decide (i + 1 ≤ b) := decide_eq_decide.mpr (by omega)
      rw [zu_ne _ _ hb, zu_ne _ _ hb, this]
theorem m_cm2 {P : Nat → ZSt → Prop} (hP : ∀ m m' V, m ≤ m' → P m V → P m' V) (K : px_K) (N : Nat) (hN : 2000 ≤ N) (hK : zKm K) (t : px_W) : ∀ (d i n : Nat) (s : px_S) (T : ZTs), i + d = 106 → d < n → zRt s T → zMm T.tv → zSq P (zRowsF T.wd T.jr (zFrom T.ch i)) T.tv → wp (l_M_commit_28_79 K N n (iN i) s t) (zC 150 [] t (fun s' => zRt s' (zCq T i (ZVs.wrAll (zRowsF T.wd T.jr (zFrom T.ch i)) T.tv) (T.jr + (zFrom T.ch i).length)) ∧ zMm (ZVs.wrAll (zRowsF T.wd T.jr (zFrom T.ch i)) T.tv) ∧ zFt s s')) := by
  have h40 : K.2.2 40 = 1696 := hK.2.2.2.2.2.2.2.2.2.2.2.1
  have h41 : K.2.2 41 = 106 := hK.2.2.2.2.2.2.2.2.2.2.2.2.1
  have h42 : K.2.2 42 = 106 := hK.2.2.2.2.2.2.2.2.2.2.2.2.2.1
  have h44 : K.2.2 44 = 16 := hK.2.2.2.2.2.2.2.2.2.2.2.2.2.2.2.1
  have i106 : (106 : Int32) = iN 106 := rfl
  intro d
  induction d with
  | zero =>
    intro i n s T hi hn h hm hq
    obtain ⟨n, rfl⟩ : ∃ n', n = n' + 1 := ⟨n - 1, by omega⟩
    have hi : i = 106 := by omega
    subst hi
    unfold l_M_commit_28_79
    refine wp_if (by decide) (wp_rC ⟨⟨h.1, ?_⟩, hm, zFt_refl s⟩)
    obtain ⟨h1, h2, h3, h4, h5, h6⟩ := h.2
    have hd : ∀ b, b < 106 → decide (106 ≤ b) = false := fun b hb => decide_eq_false (by omega)
    refine ⟨h1, fun b w hb hw hx => ?_, fun b hb => ?_, fun b hb => ?_, h5, h6⟩
    · show _ = (if (decide (106 ≤ b) && T.ch b) = true then T.wd b else T.kp b) w
      rw [hd b hb, Bool.false_and, if_neg Bool.noConfusion]
      have hx : (T.kt b || (decide (106 ≤ b) && T.ch b)) = true := hx
      rw [hd b hb, Bool.false_and, Bool.or_false] at hx
      exact h2 b w hb hw hx
    · show _ = bN (T.ch b && !decide (106 ≤ b))
      rw [hd b hb, Bool.not_false, Bool.and_true]; exact h3 b hb
    · show _ = bN (T.kt b || (decide (106 ≤ b) && T.ch b))
      rw [hd b hb, Bool.false_and, Bool.or_false]; exact h4 b hb
  | succ d ih =>
    intro i n s T hi hn h hm hq
    obtain ⟨n, rfl⟩ : ∃ n', n = n' + 1 := ⟨n - 1, by omega⟩
    have e3 : iN i + (1 : Int32) = iN (i + 1) := by rw [iL1, iN_add]
    obtain ⟨j1, j2, j3, j4, j5, j6⟩ := h.2
    unfold l_M_commit_28_79
    rw [e3, iN_nat (show i < 2147483648 by omega), j3 i (by omega)]
    refine wp_ifn (by rw [i106, iN_le (by omega) (by omega)]; omega) (wp_gd (by rw [h41]; exact iN_in (by omega) (by omega)) ?_)
    cases hf : T.ch i with
    | false =>
      rw [zFrom_succ T.ch (show i < 106 by omega), hf, if_neg (c := false = true) Bool.noConfusion] at hq ⊢
      rw [zCq_skip hf]
      exact wp_ifn (fun hx => hx rfl) (ih (i + 1) n s T (by omega) (by omega) h hm hq)
    | true =>
      rw [zFrom_succ T.ch (show i < 106 by omega), hf, if_pos (c := true = true) rfl] at hq ⊢
      obtain ⟨q1, q2, q3, q4⟩ := hq
      have q3 : T.jr + 1 < 106 := q3
      have ejr : s.1 37 + (1 : Int32) = iN (T.jr + 1) := by rw [j6, iL1, iN_add]
      rw [ejr]
      refine wp_if (by decide) (wp_let ?_)
      obtain ⟨s1, a1, g40, g44, a2, a3, a4⟩ := wp_C (m_cm96 K N hN hK t i (by omega) (T.wd i) 16 0 N (sR s 37 (iN (T.jr + 1))) (by omega) (by omega) (fun w hw => j1 i w (by omega) hw))
      refine wp_lp a1 (wp_if rfl ?_)
      show wp (px_bv _ _ _) _
      have hv1 : zRv s1 T.tv := by rw [a2]; exact zRv_row (zRv_row (zRv_int h.1 (by omega)) (by omega)) (by omega)
      have e37 : s1.1 37 = iN (T.jr + 1) := by rw [a2]; rfl
      rw [e37]
      obtain ⟨s2, b1, b2, b3, b4⟩ := m_wrv_44 hP K N hN hK t (T.jr + 1) 0 (zEsc (T.wd i)) q3 (by omega) (by omega) s1 T.tv hv1 hm q1 q2 (fun w hw => by
        rw [Nat.zero_add, a2, sF_arr, a3 w hw, if_pos (Nat.zero_le _)])
      refine wp_bv b1 (wp_gd (by rw [h41]; exact iN_in (by omega) (by omega)) (wp_let (wp_gd (by rw [h42]; exact iN_in (by omega) (by omega)) (wp_let ?_))))
      obtain ⟨v1, hv⟩ : ∃ v1, v1 = T.tv.wrv (T.jr + 1) (zEsc (T.wd i)) := ⟨_, rfl⟩
      have q4 : zSq P (zRowsF T.wd (T.jr + 1) (zFrom T.ch (i + 1))) (T.tv.wrv (T.jr + 1) (zEsc (T.wd i))) := q4
      have hwa : ZVs.wrAll (zRowsF T.wd T.jr (i :: zFrom T.ch (i + 1))) T.tv = ZVs.wrAll (zRowsF T.wd (T.jr + 1) (zFrom T.ch (i + 1))) (T.tv.wrv (T.jr + 1) (zEsc (T.wd i))) := rfl
      rw [hwa, List.length_cons]
      rw [← hv] at b2 b3 q4 ⊢
      have hfr : zFrom (zu T.ch i false) (i + 1) = zFrom T.ch (i + 1) := zFrom_congr (fun b hb => zu_ne _ _ (by omega))
      have hT1 : zRt (sA (sA s2 41 i (0 : Int32)) 42 i (1 : Int32)) (ZTs.mk v1 T.wd (zu T.kp i (T.wd i)) (zu T.ch i false) (zu T.kt i true) T.sq (T.jr + 1)) := by
        refine ⟨zRv_row (zRv_row b2 (by omega)) (by omega), fun b w hb hw => ?_, fun b w hb hw hx => ?_, fun b hb => ?_, fun b hb => ?_, ?_, ?_⟩
        · rw [sA_arr_ne (by omega), sA_arr_ne (by omega), b4.1 39 (by omega), a2, sF_arr_ne (by omega), sF_arr_ne (by omega)]
          exact j1 b w hb hw
        · rw [sA_arr_ne (by omega), sA_arr_ne (by omega), b4.1 40 (by omega), a2, sF_arr_ne (by omega), sF_arr, a4 b w hw]
          have hx : zu T.kt i true b = true := hx
          show _ = zu T.kp i (T.wd i) b w
          by_cases hbi : b = i
          · rw [if_pos ⟨hbi, Nat.zero_le _⟩, hbi, zu_self]
          · rw [if_neg (fun hx => hbi hx.1), zu_ne _ _ hbi]
            rw [zu_ne _ _ hbi] at hx
            exact j2 b w hb hw hx
        · rw [sA_arr_ne (by omega), sA_arr]
          show _ = bN (zu T.ch i false b)
          by_cases hbi : b = i
          · rw [hbi, upd_self, zu_self]; rfl
          · rw [upd_ne hbi, zu_ne _ _ hbi, b4.1 41 (by omega), a2, sF_arr_ne (by omega), sF_arr_ne (by omega)]
            exact j3 b hb
        · rw [sA_arr]
          show _ = bN (zu T.kt i true b)
          by_cases hbi : b = i
          · rw [hbi, upd_self, zu_self]; rfl
          · rw [upd_ne hbi, zu_ne _ _ hbi, sA_arr_ne (by omega), b4.1 42 (by omega), a2, sF_arr_ne (by omega), sF_arr_ne (by omega)]
            exact j4 b hb
        · show s2.1 36 = _
          rw [b4.2.1 36 (by omega), a2]; exact j5
        · show s2.1 37 = _
          rw [b4.2.1 37 (by omega)]; exact e37
      rw [zCq_step (v1 := v1) (q1 := T.jr + 1) hf]
      have hih := ih (i + 1) n _ _ (by omega) (by omega) hT1 b3 (by
        show zSq P (zRowsF T.wd (T.jr + 1) (zFrom (zu T.ch i false) (i + 1))) v1
        rw [hfr]; exact q4)
      have e1 : (ZTs.mk v1 T.wd (zu T.kp i (T.wd i)) (zu T.ch i false) (zu T.kt i true) T.sq (T.jr + 1)).ch = zu T.ch i false := rfl
      have e2 : (ZTs.mk v1 T.wd (zu T.kp i (T.wd i)) (zu T.ch i false) (zu T.kt i true) T.sq (T.jr + 1)).jr = T.jr + 1 := rfl
      have e4 : (ZTs.mk v1 T.wd (zu T.kp i (T.wd i)) (zu T.ch i false) (zu T.kt i true) T.sq (T.jr + 1)).wd = T.wd := rfl
      have e5 : (ZTs.mk v1 T.wd (zu T.kp i (T.wd i)) (zu T.ch i false) (zu T.kt i true) T.sq (T.jr + 1)).tv = v1 := rfl
      rw [e1, e2, e4, e5, hfr] at hih
      have e6 : T.jr + 1 + (zFrom T.ch (i + 1)).length = T.jr + ((zFrom T.ch (i + 1)).length + 1) := by omega
      rw [e6] at hih
      refine wp_imp hih ?_
      rintro r ⟨s', h1, h2, h3, h4⟩
      refine ⟨s', h1, h2, h3, ?_⟩
      have k1 : zFt s s1 := by rw [a2]; exact zFt_trans (zFt_sR (by omega)) (zFt_trans (zFt_sF (by omega)) (zFt_sF (by omega)))
      exact zFt_trans k1 (zFt_trans (zFt_fv b4) (zFt_trans (zFt_trans (zFt_sA (by omega)) (zFt_sA (by omega))) h4))
/-- a commit, once there is room in the journal -/
theorem m_cmt {W : ZSt → Prop} (hW : ∀ T T', (∀ b, 29 ≤ b → T b = T' b) → W T → W T') (K : px_K) (N : Nat) (hN : 2000 ≤ N) (hK : zKm K) (t : px_W) (s : px_S) (T : ZTs) (h : zRt s T) (hm : zMm T.tv) (ht : zTa W T) (hc : zCl T.ch ≠ []) (h12 : (zCl T.ch).length ≤ 12) (hroom : T.jr + (zCl T.ch).length + 1 ≤ 28) (hn : T.tv.p.na + 1000000 < 2147483648) {g0 g1 g3 g4 g5 g6 : Nat → px_S → px_W → Option px_Res} : wp (px_bv (f_M_three_28_44 K N (1 : Int32) (s.1 36) (iN (zCl T.ch).length) s t) (fun s8 t9 => (px_lp (l_M_commit_28_28 K N N (0 : Int32) (0 : Int32) s8 t9) (fun i13 vs14 s15 t16 => (if i13 = 70 then (px_v0 vs14 (px_bv (f_M_writeVolume_28_44 K N (s15.1 37) (0 : Int32) s15 t16) (fun s20 t21 => (px_lp (l_M_commit_28_79 K N N (0 : Int32) s20 t21) (fun i25 vs26 s27 t28 => (if i25 = 150 then (px_v0 vs26 (px_let (sR s27 37 ((s27.1 37) + (1 : Int32))) (fun s32 => (px_bv (f_M_flushVolume_28 K N s32 t28) (fun s34 t35 => (px_bv (f_M_three_28_44 K N (2 : Int32) (s34.1 36) (0 : Int32) s34 t35) (fun s39 t40 => (px_bv (f_M_writeVolume_28_44 K N (s39.1 37) (0 : Int32) s39 t40) (fun s44 t45 => (px_let (sR s44 37 ((s44.1 37) + (1 : Int32))) (fun s49 => (px_bv (f_M_flushVolume_28 K N s49 t45) (fun s51 t52 => (px_let (sR s51 36 ((s51.1 36) + (1 : Int32))) (fun s56 => (some (.inl none, s56, t52))))) g6)))) g5)) g4)) g3)))) else none)) (fun z30 => some z30))) g1)) else none)) (fun z18 => some z18))) g0) (zB t (fun s' => zRt s' (zCmt1 T (zCl T.ch)) ∧ zMm (zCmt1 T (zCl T.ch)).tv ∧ zFt s s')) := by
  have hP := zGood_mono W
  have h44 : K.2.2 44 = 16 := hK.2.2.2.2.2.2.2.2.2.2.2.2.2.2.2.1
  have hpos : 0 < (zCl T.ch).length := List.length_pos_iff.mpr hc
  have hz : ZSz T.tv.sets T.tv.ways T.tv.eps := hm.1.1
  obtain ⟨l, hl⟩ : ∃ l, l = zCl T.ch := ⟨_, rfl⟩
  have ecm : zCmt1 T l = ZTs.mk (((((ZVs.wrAll (zRowsF T.wd T.jr l) (T.tv.wrv T.jr (zHdr T.sq l T.wd))).flv).wrv (T.jr + l.length + 1) (zThree 2 T.sq 0)).flv)) T.wd (fun b => if T.ch b = true then T.wd b else T.kp b) (fun _ => false) (fun b => T.kt b || T.ch b) (T.sq + 1) (T.jr + (l.length + 2)) := by
    unfold zCmt1 zCmt; rw [zRowsF_eq]; rfl
  have safe : zAw (zGood W) T.tv ∧ zSq (zGood W) (zRowsF T.wd T.jr l) (T.tv.wrv T.jr (zHdr T.sq l T.wd)) ∧ zAw (zGood W) (ZVs.wrAll (zRowsF T.wd T.jr l) (T.tv.wrv T.jr (zHdr T.sq l T.wd))) ∧ zAw (zGood W) ((ZVs.wrAll (zRowsF T.wd T.jr l) (T.tv.wrv T.jr (zHdr T.sq l T.wd))).flv) ∧ zAw (zGood W) (((ZVs.wrAll (zRowsF T.wd T.jr l) (T.tv.wrv T.jr (zHdr T.sq l T.wd))).flv).wrv (T.jr + l.length + 1) (zThree 2 T.sq 0)) := by
    have hb : ∀ e ∈ zRowsF T.wd T.jr l, e.1 < 106 := by
      intro e he
      rw [← zRowsF_eq] at he
      obtain ⟨c, hc, rfl⟩ := List.mem_map.mp he
      have := List.mem_range.mp hc
      show T.jr + 1 + c < 106
      rw [hl] at this
      omega
    rcases ht with ⟨h1, h2⟩ | hd
    · obtain ⟨Q1, q1, q2, q3, q4⟩ := h2.cmtQ hW hc hroom hn
      have hiv : ZIv (zGood W) Q1 T.tv := h2.iv.re (fun V hV => by rw [hV]; exact q1) q3
      have hlen : ((T.jr, zHdr T.sq (zCl T.ch) T.wd) :: zRows T.jr (zCl T.ch) T.wd).length = l.length + 1 := by rw [hl]; unfold zRows; simp
      obtain ⟨s1, s2, s3⟩ := ZIv.three hP h2.iv q1 q2 q3 (by omega) (by rw [hlen]; exact Nat.succ_pos _) q4 (by rw [hlen, hl]; exact zBnd _ _ hn h12)
      have sq := zSq_iv hP _ T.tv (Or.inl ⟨h1, hiv⟩) hz q2 (by rw [hlen, hl]; exact Nat.lt_of_le_of_lt (Nat.add_le_add_left (by decide : 10000 ≤ 30000) _) (zBnd _ _ hn h12))
      rw [← hl, zRowsF_eq] at sq s1 s2 s3
      exact ⟨sq.1, sq.2.2.2, zAw_iv (s1.imp (fun _ q => q.1)), zAw_iv (s2.imp (fun _ q => q.1)), zAw_iv (s3.imp (fun _ q => q.1))⟩
    · have d0 := (zfr_wrv T.tv T.jr (zHdr T.sq l T.wd) hz).dnn hd
      have d1 := (zfr_wrAll (zRowsF T.wd T.jr l) _ d0.sz).dnn d0
      have d2 := (zfr_flv _ d1.sz).dnn d1
      have d3 := (zfr_wrv _ (T.jr + l.length + 1) (zThree 2 T.sq 0) d2.sz).dnn d2
      have hna : (T.tv.wrv T.jr (zHdr T.sq l T.wd)).p.na + 10000 < 2147483648 := by rw [(zfr_wrv T.tv T.jr (zHdr T.sq l T.wd) hz).dn hd.up]; omega
      exact ⟨fun _ => Or.inr hd, zSq_dn _ _ d0 hna hb, fun _ => Or.inr d1, fun _ => Or.inr d2, fun _ => Or.inr d3⟩
  obtain ⟨f0, f1, f2, f3, f4⟩ := safe
  obtain ⟨j1, j2, j3, j4, j5, j6⟩ := h.2
  rw [← hl, ecm]
  have hll : l.length = (zCl T.ch).length := by rw [hl]
  have hrl : (zRowsF T.wd T.jr l).length = l.length := by rw [← zRowsF_eq]; unfold zRows; simp
  have z0 := (zfr_wrv T.tv T.jr (zHdr T.sq l T.wd) hz).sz hz
  have n0 := (zfr_wrv T.tv T.jr (zHdr T.sq l T.wd) hz).n2
  have n1 := (zfr_wrAll (zRowsF T.wd T.jr l) _ z0).n2
  have z1 := (zfr_wrAll (zRowsF T.wd T.jr l) _ z0).sz z0
  have n2 := (zfr_flv _ z1).n2
  have z2 := (zfr_flv _ z1).sz z1
  have n3 := (zfr_wrv _ (T.jr + l.length + 1) (zThree 2 T.sq 0) z2).n2
  rw [hrl] at n1
  -- the beginning
  rw [j5]
  obtain ⟨g, a1, a2⟩ := m_three_44 K N (by omega) h44 1 T.sq l.length s t
  refine wp_bv a1 ?_
  have hj1 : zRj (sF s 44 g) T := zRj_row h.2 (by omega)
  have c1 := m_cm1 K N hN hK t T l.length h12 106 0 N (sF s 44 g) (by omega) (by omega) hj1 (by
    rw [sF_arr]
    refine ⟨a2 0 (by omega), a2 1 (by omega), a2 2 (by omega), a2 15 (by omega), fun w w1 w2 => ?_⟩
    rw [a2 w (by omega)]
    unfold zThree
    rw [if_neg (by omega), if_neg (by omega), if_neg (by omega)]; rfl)
  rw [← hl] at c1
  obtain ⟨s1, b1, ⟨g1', b2⟩, b3⟩ := wp_C c1
  refine wp_lp b1 (wp_if rfl ?_)
  show wp (px_bv _ _ _) _
  have hs1 : zRt s1 T := by
    rw [b2]; exact ⟨zRv_row (zRv_row h.1 (by omega)) (by omega), zRj_row hj1 (by omega)⟩
  rw [hs1.2.2.2.2.2.2]
  obtain ⟨s2, d1, d2, d3, d4⟩ := m_wrv_44 hP K N hN hK t T.jr 0 (zHdr T.sq l T.wd) (by omega) (by omega) (by omega) s1 T.tv hs1.1 hm f0 (by omega) (fun w hw => by rw [Nat.zero_add]; exact zHr_hdr b3 w hw)
  refine wp_bv d1 ?_
  obtain ⟨v1, hv1⟩ : ∃ v1, v1 = T.tv.wrv T.jr (zHdr T.sq l T.wd) := ⟨_, rfl⟩
  rw [← hv1] at d2 d3 f1 f2 f3 f4 n0 n1 n2 n3 ⊢
  have hT2 : zRt s2 (T.s_tv v1) := ⟨d2, zRj_fv hs1.2 d4⟩
  have c2 := m_cm2 hP K N hN hK t 106 0 N s2 (T.s_tv v1) (by omega) (by omega) hT2 d3 (by
    show zSq _ (zRowsF T.wd T.jr (zFrom T.ch 0)) v1
    rw [zFrom_0, ← hl]; exact f1)
  have e0 : (T.s_tv v1).wd = T.wd ∧ (T.s_tv v1).jr = T.jr ∧ (T.s_tv v1).ch = T.ch ∧ (T.s_tv v1).tv = v1 := ⟨rfl, rfl, rfl, rfl⟩
  rw [e0.1, e0.2.1, e0.2.2.1, e0.2.2.2, zFrom_0, ← hl] at c2
  obtain ⟨s3, k1, k2, k3, k4⟩ := wp_C c2
  refine wp_lp k1 (wp_if rfl (wp_let ?_))
  obtain ⟨v2, hv2⟩ : ∃ v2, v2 = ZVs.wrAll (zRowsF T.wd T.jr l) v1 := ⟨_, rfl⟩
  rw [← hv2] at k2 k3 f2 f3 f4 n1 n2 n3 ⊢
  have e37 : s3.1 37 + (1 : Int32) = iN (T.jr + l.length + 1) := by
    rw [k2.2.2.2.2.2.2, iL1]; show iN (T.jr + l.length) + iN 1 = _; rw [iN_add]
  rw [e37]
  obtain ⟨s4, p1, p2, p3, p4⟩ := m_flv hP K N hN hK t (sR s3 37 (iN (T.jr + l.length + 1))) v2 (zRv_int k2.1 (by omega)) k3 f2 (by omega)
  refine wp_bv p1 ?_
  obtain ⟨v3, hv3⟩ : ∃ v3, v3 = v2.flv := ⟨_, rfl⟩
  rw [← hv3] at p2 p3 f3 f4 n2 n3 ⊢
  have e36 : s4.1 36 = iN T.sq := by
    rw [p4.2.1 36 (by omega), sR_1, if_neg (by omega)]; exact k2.2.2.2.2.2.1
  rw [e36]
  obtain ⟨g5', q1, q2⟩ := m_three_44 K N (by omega) h44 2 T.sq 0 s4 t
  refine wp_bv q1 ?_
  have e37' : (sF s4 44 g5').1 37 = iN (T.jr + l.length + 1) := by
    show s4.1 37 = _
    rw [p4.2.1 37 (by omega)]; rfl
  rw [e37']
  obtain ⟨s5, r1, r2, r3, r4⟩ := m_wrv_44 hP K N hN hK t (T.jr + l.length + 1) 0 (zThree 2 T.sq 0) (by omega) (by omega) (by omega) (sF s4 44 g5') v3 (zRv_row p2 (by omega)) p3 f3 (by omega) (fun w hw => by rw [Nat.zero_add, sF_arr]; exact q2 w hw)
  refine wp_bv r1 (wp_let ?_)
  obtain ⟨v4, hv4⟩ : ∃ v4, v4 = v3.wrv (T.jr + l.length + 1) (zThree 2 T.sq 0) := ⟨_, rfl⟩
  rw [← hv4] at r2 r3 f4 n3 ⊢
  have e37c : s5.1 37 + (1 : Int32) = iN (T.jr + (l.length + 2)) := by
    rw [r4.2.1 37 (by omega), e37', iL1, iN_add]; congr 1
  rw [e37c]
  obtain ⟨s6, w1, w2, w3, w4⟩ := m_flv hP K N hN hK t (sR s5 37 (iN (T.jr + (l.length + 2)))) v4 (zRv_int r2 (by omega)) r3 f4 (by omega)
  refine wp_bv w1 (wp_let ?_)
  have e36c : s6.1 36 + (1 : Int32) = iN (T.sq + 1) := by
    rw [w4.2.1 36 (by omega), sR_1, if_neg (by omega), r4.2.1 36 (by omega)]
    show s4.1 36 + _ = _
    rw [e36, iL1, iN_add]
  rw [e36c]
  refine wp_rB ⟨⟨zRv_int w2 (by omega), ?_⟩, w3, ?_⟩
  · obtain ⟨y1, y2, y3, y4, y5, y6⟩ := k2.2
    have arr : ∀ c, c = 39 ∨ c = 40 ∨ c = 41 ∨ c = 42 → (sR s6 36 (iN (T.sq + 1))).2.2.1 c = s3.2.2.1 c := by
      intro c hc
      show s6.2.2.1 c = _
      rw [w4.1 c (by omega)]
      show s5.2.2.1 c = _
      rw [r4.1 c (by omega), sF_arr_ne (by omega), p4.1 c (by omega)]; rfl
    have hd0 : ∀ b : Nat, decide (0 ≤ b) = true := fun b => decide_eq_true (Nat.zero_le _)
    refine ⟨fun b w hb hw => by rw [arr 39 (by omega)]; exact y1 b w hb hw, fun b w hb hw hx => ?_, fun b hb => ?_, fun b hb => ?_, ?_, ?_⟩
    · rw [arr 40 (by omega)]
      have hx : (T.kt b || T.ch b) = true := hx
      have := y2 b w hb hw (by show (T.kt b || (decide (0 ≤ b) && T.ch b)) = true; rw [hd0, Bool.true_and]; exact hx)
      rw [this]
      show (if (decide (0 ≤ b) && T.ch b) = true then T.wd b else T.kp b) w = (if T.ch b = true then T.wd b else T.kp b) w
      rw [hd0, Bool.true_and]
    · rw [arr 41 (by omega), y3 b hb]
      show bN (T.ch b && !decide (0 ≤ b)) = bN false
      rw [hd0, Bool.not_true, Bool.and_false]
    · rw [arr 42 (by omega), y4 b hb]
      show bN (T.kt b || (decide (0 ≤ b) && T.ch b)) = bN (T.kt b || T.ch b)
      rw [hd0, Bool.true_and]
    · rw [sR_1, if_pos rfl]; rfl
    · rw [sR_1, if_neg (by omega), w4.2.1 37 (by omega)]; rfl
  · have t1 : zFt s s1 := by rw [b2]; exact zFt_trans (zFt_sF (by omega)) (zFt_sF (by omega))
    have t2 : zFt s1 s2 := zFt_fv d4
    have t4 : zFt s3 s4 := zFt_trans (zFt_sR (by omega)) (zFt_fv p4)
    have t5 : zFt s4 s5 := zFt_trans (zFt_sF (by omega)) (zFt_fv r4)
    have t6 : zFt s5 s6 := zFt_trans (zFt_sR (by omega)) (zFt_fv w4)
    exact zFt_trans t1 (zFt_trans t2 (zFt_trans k4 (zFt_trans t4 (zFt_trans t5 (zFt_trans t6 (zFt_sR (by omega)))))))
theorem home_same (T : ZTs) : T.home.ch = T.ch ∧ T.home.wd = T.wd ∧ T.home.sq = T.sq ∧ T.home.kp = T.kp := by
  unfold ZTs.home
  split
  · exact ⟨rfl, rfl, rfl, rfl⟩
  · exact ⟨rfl, rfl, rfl, rfl⟩
theorem zfr_home (T : ZTs) (hz : ZSz T.tv.sets T.tv.ways T.tv.eps) : ZFr 779402 T.tv T.home.tv := by
  unfold ZTs.home
  split
  · exact (ZFr.refl _).mono (Nat.zero_le _)
  · exact (zfr_cmtTail 106 0 (zThree T.sq 0 0) ((zCl T.kt).map fun b => (b, T.kp b)) (by rw [List.length_map]; exact zCnt_le _ _) T.tv hz).mono (by decide)
theorem home_jr {W : ZSt → Prop} {T : ZTs} (hi : ZTi W T) (hr : 29 - T.jr < (zCl T.ch).length + 2) : T.home.jr = 1 := by
  obtain ⟨s0, cs, hj, hk, hp⟩ := hi.jn
  have h12 := hi.cn
  by_cases hc : zCl T.kt = []
  · exfalso
    have hcs : cs = [] := by
      cases cs with
      | nil => rfl
      | cons l cs =>
        exfalso
        have hcm := hj.ch.1
        have hm : (l.getD 0 0, zDec T.tv.cur 1 0) ∈ zPr T.tv.cur 1 (l :: cs) := List.mem_append_left _ (List.mem_map.mpr ⟨0, List.mem_range.mpr (by have := hcm.2.2.2.1; omega), rfl⟩)
        have hh := (hk (l.getD 0 0)).mpr ⟨_, hm, rfl⟩
        have : l.getD 0 0 ∈ zCl T.kt := mem_zCl.mpr ⟨(ZTi.kb (W := W) hj hk hh).2, hh⟩
        rw [hc] at this; cases this
    have hjr := hj.jr
    rw [hcs] at hjr
    have hjr : T.jr = 1 + 0 := hjr
    omega
  · unfold ZTs.home; rw [if_neg hc]; rfl
set_option maxRecDepth 20000 in
theorem zBnd2 {a b : Nat} (h : a + 3000000 < 2147483648) (hb : b ≤ a + 779402) : a + 1000000 < 2147483648 ∧ b + 1000000 < 2147483648 := by omega
theorem m_commit {W : ZSt → Prop} (hW : ∀ T T', (∀ b, 29 ≤ b → T b = T' b) → W T → W T') (K : px_K) (N : Nat) (hN : 2000 ≤ N) (hK : zKm K) (t : px_W) (s : px_S) (T : ZTs) (h : zRt s T) (hm : zMm T.tv) (hi : ZTi W T) (hn : T.tv.p.na + 3000000 < 2147483648) : ∃ s', f_M_commit_28 K N s t = some (.inl none, s', t) ∧ zRt s' T.commit ∧ zMm T.commit.tv ∧ zFt s s' := by
  apply wp_B
  have hz : ZSz T.tv.sets T.tv.ways T.tv.eps := hm.1.1
  have hup := hi.iv.up
  have h12 := hi.cn
  have hfh := zfr_home T hz
  obtain ⟨hn1, hn2⟩ := zBnd2 hn hfh.n2
  unfold f_M_commit_28
  refine wp_bi (m_changes K N hN hK t s T h.2) ?_
  by_cases hc : zCl T.ch = []
  · have e : T.commit = T := by unfold ZTs.commit; rw [if_pos hc]
    rw [e, hc]
    exact wp_ifn (fun hx => hx rfl) (wp_rB ⟨h, hm, zFt_refl s⟩)
  have hpos : 0 < (zCl T.ch).length := List.length_pos_iff.mpr hc
  refine wp_if (by rw [iL0, iN_eq (by omega) (by omega)]; omega) ?_
  obtain ⟨s0, cs, hj, _, _⟩ := hi.jn
  have hjl := zCh_len hj.ch (by omega)
  have hjr := hj.jr
  have e29 : (29 : Int32) - s.1 37 = iN (29 - T.jr) := by
    rw [h.2.2.2.2.2.2]; show iN 29 - iN T.jr = _; rw [iN_sub (by omega)]
  have e2 : iN (zCl T.ch).length + (2 : Int32) = iN ((zCl T.ch).length + 2) := by rw [iL2, iN_add]
  rw [e29, e2]
  have hsp : T.commit = zCmt1 (if 29 - T.jr < (zCl T.ch).length + 2 then T.home else T) (zCl T.ch) := by unfold ZTs.commit; rw [if_neg hc]
  rw [hsp]
  by_cases hr : 29 - T.jr < (zCl T.ch).length + 2
  · rw [if_pos (c := 29 - T.jr < (zCl T.ch).length + 2) hr]
    refine wp_ifn (by rw [iN_le (by omega) (by omega)]; omega) ?_
    obtain ⟨s1, a1, a2, a3, a4⟩ := m_home hW K N hN hK t s T h hm (jj := T.jr) (Or.inl ⟨hup, hi⟩) hn1
    refine wp_bv a1 ?_
    obtain ⟨c1, c2, c3, c4⟩ := home_same T
    have hjr1 := home_jr hi hr
    have hta : zTa W T.home := by
      rcases hi.home hW hn1 with ⟨u1, u2⟩ | hd
      · exact Or.inl ⟨u1, u2.1⟩
      · exact Or.inr hd
    obtain ⟨U, hU⟩ : ∃ U, U = T.home := ⟨_, rfl⟩
    rw [← hU] at a2 a3 hta c1 hjr1 hn2 ⊢
    rw [← c1] at hc h12 ⊢
    refine wp_imp (m_cmt hW K N hN hK t s1 U a2 a3 hta hc h12 (by omega) hn2) ?_
    rintro r ⟨s', r1, r2, r3, r4⟩
    exact ⟨s', r1, r2, r3, zFt_trans a4 r4⟩
  · rw [if_neg (c := 29 - T.jr < (zCl T.ch).length + 2) hr]
    refine wp_if (by rw [iN_le (by omega) (by omega)]; omega) ?_
    exact m_cmt hW K N hN hK t s T h hm (Or.inl ⟨hup, hi⟩) hc h12 (by omega) hn1
/-- what a call does before it changes the tree -/
noncomputable def zBeg (T : ZTs) : ZTs := if 7 < (zCl T.ch).length then T.commit else T
theorem zRw_v {s : px_S} {p : ZPw} (h : zRw s p) : s.1 29 = bN p.up := h.2.1
theorem m_begins {W : ZSt → Prop} (hW : ∀ T T', (∀ b, 29 ≤ b → T b = T' b) → W T → W T') (K : px_K) (N : Nat) (hN : 2000 ≤ N) (hK : zKm K) (t : px_W) (s : px_S) (T : ZTs) (h : zRt s T) (hm : zMm T.tv) (hi : ZTi W T) (hn : T.tv.p.na + 3000000 < 2147483648) : ∃ s', f_M_begins_28 K N s t = some (.inl (some (.int (bN (zBeg T).tv.p.up))), s', t) ∧ zRt s' (zBeg T) ∧ zMm (zBeg T).tv ∧ zFt s s' := by
  apply wp_A
  have hup := hi.iv.up
  have h12 := hi.cn
  unfold f_M_begins_28 zBeg
  refine wp_ifn (by rw [zRw_v h.1.1, hup]; decide) (wp_bi (m_changes K N hN hK t s T h.2) ?_)
  have i7 : (7 : Int32) = iN 7 := rfl
  by_cases h7 : 7 < (zCl T.ch).length
  · rw [if_pos h7]
    refine wp_ifn (by rw [i7, iN_le (by omega) (by omega)]; omega) ?_
    obtain ⟨s1, a1, a2, a3, a4⟩ := m_commit hW K N hN hK t s T h hm hi hn
    refine wp_bv a1 ?_
    have e : s1.1 29 = bN T.commit.tv.p.up := zRw_v a2.1.1
    rw [e]
    refine wp_gd (by cases T.commit.tv.p.up <;> decide) (wp_rA ⟨a2, a3, a4⟩)
  · rw [if_neg h7]
    refine wp_if (by rw [i7, iN_le (by omega) (by omega)]; omega) ?_
    rw [zRw_v h.1.1]
    refine wp_gd (by cases T.tv.p.up <;> decide) (wp_rA ⟨h, hm, zFt_refl s⟩)
theorem m_answer (K : px_K) (N : Nat) (t : px_W) (s : px_S) (p : ZPw) (h : zRw s p) (x : Int32) : f_M_answer_28 K N x s t = some (.inl (some (.int (if p.up = true then x else -9))), s, t) := by
  unfold f_M_answer_28
  rw [zRw_v h]
  cases p.up <;> rfl
/-- the greatest closed epoch -/
def zClosed (v : ZVs) : Int32 := if v.wf = true then iN v.opn - 1 else v.dn 1 1
theorem m_closed (K : px_K) (N : Nat) (hN : 2000 ≤ N) (hK : zKm K) (t : px_W) (s : px_S) (v : ZVs) (h : zRv s v) : f_M_closed_28 K N s t = some (.inl (some (.int (zClosed v))), s, t) := by
  unfold f_M_closed_28 zClosed
  have hlan := m_landed K N (by omega) hK t s v.p.dv h.1.1
  rw [h.2.2.2.2.1]
  cases v.wf with
  | false => rw [if_pos (by decide), hlan]; rfl
  | true => rw [if_neg (by decide), h.2.2.2.2.2.1]; rfl
/-! SYNC, LAND, HOME, LIMIT, CRASH, LOSE of the reference -/
theorem zRj_25 {s : px_S} {T : ZTs} (h : zRj s T) (x : Int32) : zRj (sR s 25 x) T := h
theorem zRt_25 {s : px_S} {T : ZTs} (h : zRt s T) (x : Int32) : zRt (sR s 25 x) T := by
  refine ⟨⟨zRw_int h.1.1 (by omega), ?_⟩, zRj_25 h.2 x⟩
  obtain ⟨r1, r2, r3, r4, r5, r6, r7, r8, r9, r10⟩ := h.1.2
  exact ⟨r1, r2, r3, r4, r5, r6, r7, r8, r9, r10⟩
/-- the reference's own, and whether it has thrown -/
def zFu (s u : px_S) : Prop := (∀ c, c < 29 ∨ 45 < c → u.2.2.1 c = s.2.2.1 c) ∧ (∀ r, r < 25 ∨ 37 < r → u.1 r = s.1 r) ∧ (∀ r, r < 3 → u.2.1 r = s.2.1 r) ∧ u.2.2.2 = s.2.2.2
theorem zFu_t {s u : px_S} {x : Int32} (h : zFt (sR s 25 x) u) : zFu s u := ⟨h.1, fun r hr => by rw [h.2.1 r (by omega), sR_1, if_neg (by omega)], fun r _ => by rw [h.2.2.1]; rfl, h.2.2.2⟩
theorem zFu_refl (s : px_S) : zFu s s := ⟨fun _ _ => rfl, fun _ _ => rfl, fun _ _ => rfl, rfl⟩
theorem zFu_trans {s u v : px_S} (h1 : zFu s u) (h2 : zFu u v) : zFu s v := ⟨fun c hc => (h2.1 c hc).trans (h1.1 c hc), fun r a => (h2.2.1 r a).trans (h1.2.1 r a), fun r a => (h2.2.2.1 r a).trans (h1.2.2.1 r a), h2.2.2.2.trans h1.2.2.2⟩
theorem zFu_25 (s : px_S) (x : Int32) : zFu s (sR s 25 x) := ⟨fun _ _ => rfl, fun r hr => by rw [sR_1, if_neg (by omega)], fun _ _ => rfl, rfl⟩
theorem m_sync {W : ZSt → Prop} (hW : ∀ T T', (∀ b, 29 ≤ b → T b = T' b) → W T → W T') (K : px_K) (N : Nat) (hN : 2000 ≤ N) (hK : zKm K) (t : px_W) (s : px_S) (T : ZTs) (h : zRt s T) (hm : zMm T.tv) (hi : ZTi W T) (hn : T.tv.p.na + 3000000 < 2147483648) : ∃ s', f_M_sync_28 K N s t = some (.inl (some (.int (if T.commit.tv.p.up = true then zClosed T.commit.tv else -9))), s', t) ∧ zRt s' T.commit ∧ zMm T.commit.tv ∧ zFu s s' := by
  apply wp_A
  have h0 := zRt_25 h 0
  unfold f_M_sync_28
  refine wp_let (wp_if (by rw [zRw_v h0.1.1, hi.iv.up]; decide) ?_)
  obtain ⟨s1, a1, a2, a3, a4⟩ := m_commit hW K N hN hK t _ T h0 hm hi hn
  exact wp_bv a1 (wp_bi (m_closed K N hN hK t s1 _ a2.1) (wp_bi (m_answer K N t s1 _ a2.1.1 _) (wp_rA ⟨a2, a3, zFu_t a4⟩)))
theorem m_homeCall {W : ZSt → Prop} (hW : ∀ T T', (∀ b, 29 ≤ b → T b = T' b) → W T → W T') (K : px_K) (N : Nat) (hN : 2000 ≤ N) (hK : zKm K) (t : px_W) (s : px_S) (T : ZTs) (h : zRt s T) (hm : zMm T.tv) (hi : ZTi W T) (hn : T.tv.p.na + 3000000 < 2147483648) (hta : zTa W T.commit) (hn2 : T.commit.tv.p.na + 1000000 < 2147483648) : ∃ s', f_M_home_28 K N s t = some (.inl (some (.int (if T.commit.home.tv.p.up = true then iN (zCl T.commit.kt).length else -9))), s', t) ∧ zRt s' T.commit.home ∧ zMm T.commit.home.tv ∧ zFu s s' := by
  apply wp_A
  have h0 := zRt_25 h 0
  unfold f_M_home_28
  refine wp_let (wp_if (by rw [zRw_v h0.1.1, hi.iv.up]; decide) ?_)
  obtain ⟨s1, a1, a2, a3, a4⟩ := m_commit hW K N hN hK t _ T h0 hm hi hn
  refine wp_bv a1 (wp_bi (m_keeps K N hN hK t s1 _ a2.2) ?_)
  obtain ⟨s2, b1, b2, b3, b4⟩ := m_home hW K N hN hK t s1 _ a2 a3 (jj := T.commit.jr) hta hn2
  exact wp_bv b1 (wp_bi (m_answer K N t s2 _ b2.1.1 _) (wp_rA ⟨b2, b3, zFu_t (zFt_trans a4 b4)⟩))
theorem m_landCall {W : ZSt → Prop} (K : px_K) (N : Nat) (hN : 2000 ≤ N) (hK : zKm K) (t : px_W) (s : px_S) (T : ZTs) (h : zRt s T) (hm : zMm T.tv) (hi : ZTi W T) (hn : T.tv.p.na + 3000000 < 2147483648) : ∃ s', f_M_land_28 K N s t = some (.inl (some (.int (if T.tv.wf = true then (if T.tv.land1.2.p.up = true then iN T.tv.land1.1 else -9) else 0))), s', t) ∧ zRt s' (if T.tv.wf = true then T.s_tv T.tv.land1.2 else T) ∧ zMm (if T.tv.wf = true then T.s_tv T.tv.land1.2 else T).tv ∧ zFu s s' := by
  apply wp_A
  have h0 := zRt_25 h 0
  unfold f_M_land_28
  refine wp_let (wp_if (by rw [zRw_v h0.1.1, hi.iv.up]; decide) ?_)
  have e31 : (sR s 25 (0 : Int32)).1 31 = bN T.tv.wf := h0.1.2.2.2.2.1
  rw [e31]
  cases hw : T.tv.wf with
  | false =>
    rw [if_neg (c := false = true) Bool.noConfusion, if_neg (c := false = true) Bool.noConfusion]
    refine wp_if (by decide) (wp_bi (m_answer K N t _ _ h0.1.1 _) ?_)
    rw [hi.iv.up, if_pos rfl]
    exact wp_rA ⟨h0, hm, zFu_25 s 0⟩
  | true =>
    rw [if_pos (c := true = true) rfl, if_pos (c := true = true) rfl]
    refine wp_ifn (by decide) ?_
    have hal := zAw_iv (Or.inl ⟨hi.iv.up, hi.iv⟩) hw
    obtain ⟨L1, L2, L3⟩ := zAl_L hal (by omega)
    obtain ⟨s1, a1, a2, a3⟩ := m_land1 K N hN hK t _ T.tv h0.1 hm.1 L1 L2 (fun hx => hm.ep (by omega) hx)
    refine wp_bi a1 (wp_bi (m_answer K N t s1 _ a2.1 _) (wp_rA ⟨⟨a2, zRj_fv h0.2 a3⟩, zMm_land1 hm, zFu_t (zFt_fv a3)⟩))
