/-! TAKING A BLOCK FOR AN INODE -/
def zLow (T : ZSt) : Nat := ((List.range 64).find? fun k => !tU T k).getD 64
def zLeft (T : ZSt) : Nat := ((List.range 64).filter fun k => !tU T k).length
theorem zLow_lt {T : ZSt} (h : 1 ≤ zLeft T) : zLow T < 64 ∧ tU T (zLow T) = false := by
  unfold zLeft at h
  obtain ⟨k, hk⟩ := List.exists_mem_of_length_pos (by omega : 0 < ((List.range 64).filter fun k => !tU T k).length)
  have hk' := List.mem_filter.mp hk
  unfold zLow
  cases hf : (List.range 64).find? fun k => !tU T k with
  | none => exact absurd hk'.2 (List.find?_eq_none.mp hf k hk'.1)
  | some a =>
    have h1 := List.find?_some hf
    have h2 := List.mem_of_find?_eq_some hf
    refine ⟨List.mem_range.mp h2, ?_⟩
    show tU T a = false
    simpa using h1
theorem zLow_min {T : ZSt} {k : Nat} (hk : k < zLow T) (hk64 : k < 64) : tU T k = true := by
  unfold zLow at hk
  cases hf : (List.range 64).find? fun k => !tU T k with
  | none =>
    have := List.find?_eq_none.mp hf k (List.mem_range.mpr hk64)
    simpa using this
  | some a =>
    rw [hf] at hk
    have hk : k < a := hk
    cases hu : tU T k with
    | true => rfl
    | false =>
      exfalso
      have h3 := List.find?_range_eq_some.mp hf
      have := h3.2.2 k hk
      simp [hu] at this
/-- one more is used -/
theorem zLeft_take {T : ZSt} {a : Nat} (ha : a < 64) (hf : tU T a = false) : zLeft (tTake T a) + 1 = zLeft T := by
  unfold zLeft
  have key : ∀ n, ((List.range n).filter fun k => !tU (tTake T a) k).length + (if a < n then 1 else 0) = ((List.range n).filter fun k => !tU T k).length := by
    intro n
    induction n with
    | zero => rfl
    | succ n ih =>
      rw [List.range_succ, List.filter_append, List.filter_append, List.length_append, List.length_append, ← ih]
      by_cases han : a = n
      · subst han
        have h1 : (!tU (tTake T a) a) = false := by rw [tTake_tU]; simp
        have h2 : (!tU T a) = true := by rw [hf]; rfl
        have h3 : List.filter (fun k => !tU (tTake T a) k) [a] = [] := List.filter_cons_of_neg (by show ¬ (!tU (tTake T a) a) = true; rw [h1]; exact Bool.noConfusion)
        have h4 : List.filter (fun k => !tU T k) [a] = [a] := List.filter_cons_of_pos (p := fun k => !tU T k) h2
        rw [h3, h4, if_pos (by omega), if_neg (by omega)]
        simp
      · have h1 : tU (tTake T a) n = tU T n := by rw [tTake_tU]; simp; intro hx; exact absurd hx.symm han
        have h2 : (if a < n + 1 then 1 else 0) = (if a < n then 1 else 0) := by
          by_cases hx : a < n
          · rw [if_pos hx, if_pos (by omega)]
          · rw [if_neg hx, if_neg (by omega)]
        have h3 : List.filter (fun k => !tU (tTake T a) k) [n] = List.filter (fun k => !tU T k) [n] := by
          apply List.filter_congr
          intro x hx
          rw [List.mem_singleton.mp hx, h1]
        rw [h2, h3]; omega
  have := key 64
  rw [if_pos ha] at this
  exact this
/-- the tree's words after taking a block for place k of an inode -/
def zTk1 (T : ZSt) (i : Nat) : ZSt := zt (tTake T (zLow T)) (30 + i / 2) (8 * (i % 2) + 6) (iN (42 + zLow T))
def zTk2 (T : ZSt) (i k : Nat) : ZSt :=
  if k < 4 then zt (tTake T (zLow T)) (30 + i / 2) (8 * (i % 2) + (2 + k)) (iN (42 + zLow T))
  else zt (tTake T (zLow T)) (tF (tTake T (zLow T)) i) (k - 4) (iN (42 + zLow T))
/-- what a change for one inode's pointers leaves -/
abbrev ZPs (T T' : ZSt) (i k : Nat) : Prop := (ZW T') ∧ (∀ j w, j < 24 → w < 8 → ¬ (j = i ∧ ((k < 4 ∧ w = 2 + k) ∨ (k = 20 ∧ w = 6))) → tI T' j w = tI T j w) ∧ (∀ j l, j < 24 → l ≤ 20 → ¬ (j = i ∧ l = k) → tP T' j l = tP T j l) ∧ (tP T' i k = iN (42 + zLow T)) ∧ (∀ w, w < 16 → T' (42 + zLow T) w = 0) ∧ (∀ b, 42 ≤ b → b ≠ 42 + zLow T → b ≠ tF T i → T' b = T b) ∧ (∀ q, tU T' q = (tU T q || decide (q = zLow T))) ∧ (∀ j l, j < 24 → l ≤ 20 → tB T j l ≠ 42 + zLow T)
theorem ZPs.w {T T' : ZSt} {i k : Nat} (h : ZPs T T' i k) : ZW T' := h.1
theorem ZPs.i {T T' : ZSt} {i k : Nat} (h : ZPs T T' i k) : ∀ j w, j < 24 → w < 8 → ¬ (j = i ∧ ((k < 4 ∧ w = 2 + k) ∨ (k = 20 ∧ w = 6))) → tI T' j w = tI T j w := h.2.1
theorem ZPs.p {T T' : ZSt} {i k : Nat} (h : ZPs T T' i k) : ∀ j l, j < 24 → l ≤ 20 → ¬ (j = i ∧ l = k) → tP T' j l = tP T j l := h.2.2.1
theorem ZPs.n {T T' : ZSt} {i k : Nat} (h : ZPs T T' i k) : tP T' i k = iN (42 + zLow T) := h.2.2.2.1
theorem ZPs.z {T T' : ZSt} {i k : Nat} (h : ZPs T T' i k) : ∀ w, w < 16 → T' (42 + zLow T) w = 0 := h.2.2.2.2.1
theorem ZPs.o {T T' : ZSt} {i k : Nat} (h : ZPs T T' i k) : ∀ b, 42 ≤ b → b ≠ 42 + zLow T → b ≠ tF T i → T' b = T b := h.2.2.2.2.2.1
theorem ZPs.u {T T' : ZSt} {i k : Nat} (h : ZPs T T' i k) : ∀ q, tU T' q = (tU T q || decide (q = zLow T)) := h.2.2.2.2.2.2.1
theorem ZPs.f {T T' : ZSt} {i k : Nat} (h : ZPs T T' i k) : ∀ j l, j < 24 → l ≤ 20 → tB T j l ≠ 42 + zLow T := h.2.2.2.2.2.2.2
theorem zTk1_ok {T : ZSt} (h : ZW T) {i : Nat} (hi : i < 24) (hk0 : tI T i 0 ≠ 0) (hF : tF T i = 0) (hl : 1 ≤ zLeft T) (hD : tI T i 0 = 1 → tS T i ≤ 160) : ZPs T (zTk1 T i) i 20 := by
  obtain ⟨l1, l2⟩ := zLow_lt hl
  obtain ⟨t1, t2, t3⟩ := h.take l2
  have hu : ∀ j l, j < 24 → l ≤ 20 → tB T j l ≠ 42 + zLow T := fun j l hj hl => h.unref l2 hj hl
  have hB : ∀ j l, j < 24 → l ≤ 20 → tB (tTake T (zLow T)) j l = tB T j l := fun j l hj hl => by unfold tB; rw [t3 j l hj hl]
  have hF' : tF (tTake T (zLow T)) i = 0 := by rw [tF_eq, hB i 20 hi (by omega), ← tF_eq]; exact hF
  have hFr : ∀ j, j < 24 → tF (tTake T (zLow T)) j < 30 ∨ 42 ≤ tF (tTake T (zLow T)) j := fun j hj => by
    have := (t1.a.pv j 20 hj (by omega)).2; rw [← tF_eq] at this; omega
  have hfar : ∀ l, 4 ≤ l → l < 20 → tP (tTake T (zLow T)) i l = 0 := by
    intro l l4 l20
    unfold tP; rw [if_neg (by omega), if_neg (by omega), if_pos hF']
  have hbb : (42 + zLow T = 0) ∨ (42 ≤ 42 + zLow T ∧ 42 + zLow T < 106 ∧ (∀ j l, j < 24 → l ≤ 20 → tB (tTake T (zLow T)) j l ≠ 42 + zLow T) ∧ tU (tTake T (zLow T)) (42 + zLow T - 42) = true) := by
    refine Or.inr ⟨by omega, by omega, fun j l hj hl => by rw [hB j l hj hl]; exact hu j l hj hl, ?_⟩
    have e : 42 + zLow T - 42 = zLow T := by omega
    rw [tTake_tU, e]; simp
  have hw := t1.ptrI (i := i) (k := 20) (b := 42 + zLow T) hi (Or.inr rfl) (by rw [t2 i 0 hi]; exact hk0) hbb (fun _ w hw => tTake_new hw) (fun hx => by rw [t2 i 0 hi] at hx; rw [tS_of (t2 i 1 hi)]; have := hD hx; omega) (fun _ => hfar)
  rw [if_pos rfl] at hw
  have hb31 : 42 + zLow T < 2147483648 := by omega
  unfold zTk1
  refine ⟨hw, fun j w hj hw' hx => ?_, fun j l hj hl hx => ?_, ?_, fun w hw' => ?_, fun b hb1 hb2 _ => ?_, fun q => ?_, hu⟩
  · rw [tI_zt (by omega) hw', if_neg, t2 j w hj]
    rintro ⟨h1, h2⟩; exact hx ⟨h1, Or.inr ⟨rfl, h2⟩⟩
  · rw [← t3 j l hj hl]
    by_cases hji : j = i
    · subst hji
      by_cases h4 : l < 4
      · exact tP_zt hi (by omega) hj hl (hFr j hj) (fun _ _ => Or.inl h4) (by omega)
      · have hl20 : l ≠ 20 := fun hx' => hx ⟨rfl, hx'⟩
        rw [hfar l (by omega) (by omega)]
        unfold tP
        rw [if_neg h4, if_neg hl20]
        have hFn : tF (zt (tTake T (zLow T)) (30 + j / 2) (8 * (j % 2) + 6) (iN (42 + zLow T))) j = 42 + zLow T := by
          unfold tF; rw [tI_zt (by omega) (by omega), if_pos ⟨rfl, rfl⟩]; exact n32_iN hb31
        rw [hFn, if_neg (by omega), zt_blk (by omega)]
        exact tTake_new (by omega)
    · exact tP_zt hi (by omega) hj hl (hFr j hj) (fun _ hx => absurd hx hji) (fun hx => hji hx.1)
  · unfold tP; rw [if_neg (by omega), if_pos rfl, tI_zt (by omega) (by omega), if_pos ⟨rfl, rfl⟩]
  · rw [zt_blk (by omega)]; exact tTake_new hw'
  · rw [zt_blk (by omega)]; exact tTake_out hb2 (by omega)
  · have : tU (zt (tTake T (zLow T)) (30 + i / 2) (8 * (i % 2) + 6) (iN (42 + zLow T))) q = tU (tTake T (zLow T)) q := by unfold tU; rw [zt_blk (by omega)]
    rw [this, tTake_tU]
theorem zTk2_ok {T : ZSt} (h : ZW T) {i k : Nat} (hi : i < 24) (hk : k < 20) (hk0 : tI T i 0 ≠ 0) (hF : 4 ≤ k → tF T i ≠ 0) (hl : 1 ≤ zLeft T) (hD : tI T i 0 = 1 → tS T i ≤ 8 * k) : ZPs T (zTk2 T i k) i k := by
  obtain ⟨l1, l2⟩ := zLow_lt hl
  obtain ⟨t1, t2, t3⟩ := h.take l2
  have hu : ∀ j l, j < 24 → l ≤ 20 → tB T j l ≠ 42 + zLow T := fun j l hj hl => h.unref l2 hj hl
  have hB : ∀ j l, j < 24 → l ≤ 20 → tB (tTake T (zLow T)) j l = tB T j l := fun j l hj hl => by unfold tB; rw [t3 j l hj hl]
  have hFe : tF (tTake T (zLow T)) i = tF T i := by rw [tF_eq, hB i 20 hi (by omega), ← tF_eq]
  have hFr : ∀ j, j < 24 → tF (tTake T (zLow T)) j < 30 ∨ 42 ≤ tF (tTake T (zLow T)) j := fun j hj => by
    have := (t1.a.pv j 20 hj (by omega)).2; rw [← tF_eq] at this; omega
  have hbb : (42 + zLow T = 0) ∨ (42 ≤ 42 + zLow T ∧ 42 + zLow T < 106 ∧ (∀ j l, j < 24 → l ≤ 20 → tB (tTake T (zLow T)) j l ≠ 42 + zLow T) ∧ tU (tTake T (zLow T)) (42 + zLow T - 42) = true) := by
    refine Or.inr ⟨by omega, by omega, fun j l hj hl => by rw [hB j l hj hl]; exact hu j l hj hl, ?_⟩
    have e : 42 + zLow T - 42 = zLow T := by omega
    rw [tTake_tU, e]; simp
  have hk0' : tI (tTake T (zLow T)) i 0 ≠ 0 := by rw [t2 i 0 hi]; exact hk0
  have hD' : tI (tTake T (zLow T)) i 0 = 1 → tS (tTake T (zLow T)) i ≤ 8 * k := fun hx => by rw [t2 i 0 hi] at hx; rw [tS_of (t2 i 1 hi)]; exact hD hx
  unfold zTk2
  by_cases h4 : k < 4
  · rw [if_pos h4]
    have hw := t1.ptrI (i := i) (k := k) (b := 42 + zLow T) hi (Or.inl h4) hk0' hbb (fun _ w hw => tTake_new hw) hD' (fun hx => by omega)
    rw [if_neg (by omega)] at hw
    refine ⟨hw, fun j w hj hw' hx => ?_, fun j l hj hl hx => ?_, ?_, fun w hw' => ?_, fun b hb1 hb2 _ => ?_, fun q => ?_, hu⟩
    · rw [tI_zt (by omega) hw', if_neg, t2 j w hj]
      rintro ⟨h1, h2⟩; exact hx ⟨h1, Or.inl ⟨h4, h2⟩⟩
    · rw [← t3 j l hj hl]
      refine tP_zt hi (by omega) hj hl (hFr j hj) (fun h6 => by omega) ?_
      rintro ⟨h1, h2⟩
      exact hx ⟨h1, by omega⟩
    · unfold tP; rw [if_pos h4, tI_zt (by omega) (by omega), if_pos ⟨rfl, rfl⟩]
    · rw [zt_blk (by omega)]; exact tTake_new hw'
    · rw [zt_blk (by omega)]; exact tTake_out hb2 (by omega)
    · have : tU (zt (tTake T (zLow T)) (30 + i / 2) (8 * (i % 2) + (2 + k)) (iN (42 + zLow T))) q = tU (tTake T (zLow T)) q := by unfold tU; rw [zt_blk (by omega)]
      rw [this, tTake_tU]
  · rw [if_neg h4]
    have hFn := hF (by omega)
    have hw := t1.ptrF (i := i) (k := k) (b := 42 + zLow T) hi (by omega) hk hk0' (by rw [hFe]; exact hFn) hbb (fun _ w hw => tTake_new hw) hD'
    have hFv := (h.a.pv i 20 hi (by omega)).2
    rw [← tF_eq] at hFv
    have hFu : tF T i ≠ 42 + zLow T := by rw [tF_eq]; exact hu i 20 hi (by omega)
    have hFF : ∀ j, j < 24 → j ≠ i → tF T j ≠ 0 → tF T j ≠ tF T i := by
      intro j hj hji hn hx
      rw [tF_eq] at hn
      rw [tF_eq T j, tF_eq T i] at hx
      exact hji (h.a.pd j 20 i 20 hj (by omega) hi (by omega) hn hx).1
    have hFj : ∀ j, j < 24 → tF (tTake T (zLow T)) j = tF T j := fun j hj => by rw [tF_eq, hB j 20 hj (by omega), ← tF_eq]
    rw [hFe] at hw ⊢
    have hI : ∀ j w, j < 24 → tI (zt (tTake T (zLow T)) (tF T i) (k - 4) (iN (42 + zLow T))) j w = tI (tTake T (zLow T)) j w := fun j w hj => tI_out (fun c c1 c2 => zt_blk (by omega)) hj
    refine ⟨hw, fun j w hj _ _ => by rw [hI j w hj, t2 j w hj], fun j l hj hl hx => ?_, ?_, fun w hw' => ?_, fun b hb1 hb2 hb3 => ?_, fun q => ?_, hu⟩
    · rw [← t3 j l hj hl]
      refine tP_out hj hl (fun c c1 c2 => zt_blk (by omega)) (fun hf l4 l20 => ?_)
      rw [hFj j hj] at hf ⊢
      by_cases hji : j = i
      · subst hji
        exact zt_wrd (by have : l ≠ k := fun h => hx ⟨rfl, h⟩; omega)
      · rw [zt_blk (hFF j hj hji hf)]
    · unfold tP
      have hF' : tF (zt (tTake T (zLow T)) (tF T i) (k - 4) (iN (42 + zLow T))) i = tF T i := by
        have := congrArg n32 (hI i 6 hi)
        exact this.trans hFe
      rw [if_neg h4, if_neg (by omega), hF', if_neg hFn, zt_self]
    · rw [zt_blk (fun hx => hFu hx.symm)]; exact tTake_new hw'
    · rw [zt_blk hb3]; exact tTake_out hb2 (by omega)
    · have : tU (zt (tTake T (zLow T)) (tF T i) (k - 4) (iN (42 + zLow T))) q = tU (tTake T (zLow T)) q := by unfold tU; rw [zt_blk (by omega)]
      rw [this, tTake_tU]
