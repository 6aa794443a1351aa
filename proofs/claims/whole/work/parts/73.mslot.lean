/-! THE REFERENCE'S SLOTS -/
def oN : Option Nat → Int32
  | none => -1
  | some i => iN i
theorem sb_eq {a b : Nat} (ha : a < 2147483648) (hb : b + 1 < 2147483648) : iN a - 1 = iN b ↔ a = b + 1 := by
  constructor
  · intro h
    have h2 : iN a - 1 + 1 = iN b + 1 := by rw [h]
    rw [Int32.sub_add_cancel, iL1, iN_add] at h2
    exact iN_inj ha hb h2
  · intro h
    rw [h, ← iN_add, ← iL1, Int32.add_sub_cancel]
/-- the reference's slots, halves and epochs are those of the specification -/
def zRs (s : px_S) (v : ZVs) : Prop := s.1 26 = iN v.sets ∧ s.1 27 = iN v.ways ∧ s.1 28 = iN v.eps ∧ s.1 31 = (if v.wf = true then 1 else 0) ∧ s.1 32 = iN v.opn ∧ s.1 33 = iN v.half ∧ s.1 34 = iN v.gen ∧ s.1 35 = iN v.plc ∧ (∀ i, i < 64 → s.2.2.1 35 i = iN (v.sb i) - 1 ∧ s.2.2.1 36 i = iN (v.se i) ∧ s.2.2.1 37 i = (if v.mrk i = true then 1 else 0)) ∧ (∀ k, k < 8 → s.2.2.1 38 k = iN (v.hd k))
/-- what keeps the reference within its rows -/
def zSf (v : ZVs) : Prop := ZSz v.sets v.ways v.eps ∧ (∀ i, i < 64 → v.sb i < 2147483648 ∧ v.se i < 2147483648) ∧ v.opn < 2147483648
theorem m_newest_loop (K : px_K) (N : Nat) (hK : zKm K) (t : px_W) (s : px_S) (v : ZVs) (h : zRs s v) (hs : zSf v) (b : Nat) (hb : b + 1 < 2147483648) : ∀ (d i n : Nat), i + d = v.n → d < n → l_M_newest_28_4 K N n (iN b) (oN (zNew v.sb v.se b i)) (iN i) s t = some (.inl (32, [oN (zNew v.sb v.se b v.n)], s, t)) := by
  obtain ⟨r1, r2, r3, r4, r5, r6, r7, r8, r9, r10⟩ := h
  obtain ⟨hz, hsl, _⟩ := hs
  have hn64 := hz.n64
  have hnn : v.sets * v.ways ≤ 64 := hn64
  have en : s.1 26 * s.1 27 = iN v.n := by rw [r1, r2, iN_mul]
  intro d
  induction d with
  | zero =>
    intro i n hi hn
    obtain ⟨n, rfl⟩ : ∃ n', n = n' + 1 := ⟨n - 1, by omega⟩
    have hi : i = v.n := by omega
    subst hi
    unfold l_M_newest_28_4
    rw [en, if_pos ((iN_le (by show v.sets * v.ways < _; omega) (by show v.sets * v.ways < _; omega)).mpr (Nat.le_refl _))]
  | succ d ih =>
    intro i n hi hn
    obtain ⟨n, rfl⟩ : ∃ n', n = n' + 1 := ⟨n - 1, by omega⟩
    have hin : i < v.n := by omega
    have hi64 : i < 64 := by have : v.n ≤ 64 := hn64; omega
    have hvn : v.n < 2147483648 := by have : v.n ≤ 64 := hn64; omega
    obtain ⟨q1, q2, q3⟩ := r9 i hi64
    have e3 : iN i + (1 : Int32) = iN (i + 1) := by rw [iL1, iN_add]
    have hstep := ih (i + 1) n (by omega) (by omega)
    unfold l_M_newest_28_4
    rw [en, if_neg (by rw [iN_le hvn (by omega)]; omega), px_gd_of (by rw [hK.2.2.2.2.2.2.1]; exact iN_in (by omega) hi64), iN_nat (by omega), q1, e3]
    have hne : zNew v.sb v.se b (i + 1) = (match zNew v.sb v.se b i with
      | none => if v.sb i = b + 1 then some i else none
      | some j => if v.sb i = b + 1 ∧ v.se j < v.se i then some i else some j) := rfl
    by_cases hsb : v.sb i = b + 1
    · rw [if_neg (by rw [sb_eq (hsl i hi64).1 hb]; exact fun hx => hx hsb)]
      cases hz0 : zNew v.sb v.se b i with
      | none =>
        rw [hz0] at hne
        dsimp only at hne
        rw [if_pos hsb] at hne
        rw [hne] at hstep
        rw [if_pos (by show (-1 : Int32) < 0; decide)]
        exact hstep
      | some j =>
        obtain ⟨j1, j2, _⟩ := zNew_some hz0
        rw [hz0] at hne
        dsimp only at hne
        have hj64 : j < 64 := by omega
        rw [if_neg (by show ¬ iN j < 0; exact iN_neg (by omega))]
        have hoj : oN (some j) = iN j := rfl
        rw [hoj, px_gd_of ⟨by rw [hK.2.2.2.2.2.2.2.1]; exact iN_in (by omega) hi64, by rw [hK.2.2.2.2.2.2.2.1]; exact iN_in (by omega) hj64⟩, iN_nat (by omega), q2, (r9 j hj64).2.1]
        by_cases hse : v.se j < v.se i
        · rw [if_pos ⟨hsb, hse⟩] at hne
          rw [hne] at hstep
          rw [if_neg (by rw [iN_le (hsl i hi64).2 (hsl j hj64).2]; omega)]
          exact hstep
        · rw [if_neg (fun hx => hse hx.2)] at hne
          rw [hne] at hstep
          rw [if_pos (by rw [iN_le (hsl i hi64).2 (hsl j hj64).2]; omega)]
          exact hstep
    · rw [if_pos (by rw [sb_eq (hsl i hi64).1 hb]; exact hsb)]
      have hsame : zNew v.sb v.se b (i + 1) = zNew v.sb v.se b i := by
        rw [hne]
        cases zNew v.sb v.se b i with
        | none => dsimp only; rw [if_neg hsb]
        | some j => dsimp only; rw [if_neg (fun hx => hsb hx.1)]
      rw [hsame] at hstep
      exact hstep
theorem m_newest (K : px_K) (N : Nat) (hN : 100 ≤ N) (hK : zKm K) (t : px_W) (s : px_S) (v : ZVs) (h : zRs s v) (hs : zSf v) (b : Nat) (hb : b + 1 < 2147483648) : f_M_newest_28 K N (iN b) s t = some (.inl (some (.int (oN (v.newest b)))), s, t) := by
  have hn64 : v.n ≤ 64 := hs.1.n64
  have := m_newest_loop K N hK t s v h hs b hb v.n 0 N (by omega) (by omega)
  unfold f_M_newest_28
  have e : oN (zNew v.sb v.se b 0) = (-1 : Int32) := rfl
  rw [e, ← iL0] at this
  rw [this]
  rfl
theorem m_clean_loop (K : px_K) (N : Nat) (hK : zKm K) (t : px_W) (s : px_S) (v : ZVs) (h : zRs s v) (hs : zSf v) (b : Nat) (hb : b + 1 < 2147483648) : ∀ (d i n : Nat), i + d = v.n → d < n → l_M_cleanOf_28_4 K N n (iN b) (oN (zClean v.sb v.se b i)) (iN i) s t = some (.inl (26, [oN (zClean v.sb v.se b v.n)], s, t)) := by
  obtain ⟨r1, r2, r3, r4, r5, r6, r7, r8, r9, r10⟩ := h
  obtain ⟨hz, hsl, _⟩ := hs
  have hn64 : v.n ≤ 64 := hz.n64
  have en : s.1 26 * s.1 27 = iN v.n := by rw [r1, r2, iN_mul]
  intro d
  induction d with
  | zero =>
    intro i n hi hn
    obtain ⟨n, rfl⟩ : ∃ n', n = n' + 1 := ⟨n - 1, by omega⟩
    have hi : i = v.n := by omega
    rw [hi]
    unfold l_M_cleanOf_28_4
    rw [en, if_pos ((iN_le (by omega) (by omega)).mpr (Nat.le_refl _))]
  | succ d ih =>
    intro i n hi hn
    obtain ⟨n, rfl⟩ : ∃ n', n = n' + 1 := ⟨n - 1, by omega⟩
    have hi64 : i < 64 := by omega
    obtain ⟨q1, q2, q3⟩ := r9 i hi64
    have e3 : iN i + (1 : Int32) = iN (i + 1) := by rw [iL1, iN_add]
    have hstep := ih (i + 1) n (by omega) (by omega)
    have hne : zClean v.sb v.se b (i + 1) = if v.sb i = b + 1 ∧ v.se i = 0 then some i else zClean v.sb v.se b i := rfl
    unfold l_M_cleanOf_28_4
    rw [en, if_neg (by rw [iN_le (by omega) (by omega)]; omega), px_gd_of (by rw [hK.2.2.2.2.2.2.1]; exact iN_in (by omega) hi64), iN_nat (by omega), q1, e3]
    by_cases hsb : v.sb i = b + 1
    · rw [if_neg (by rw [sb_eq (hsl i hi64).1 hb]; exact fun hx => hx hsb), px_gd_of (by rw [hK.2.2.2.2.2.2.2.1]; exact iN_in (by omega) hi64), q2]
      by_cases hse : v.se i = 0
      · rw [if_neg (by rw [iL0, iN_eq (hsl i hi64).2 (by omega)]; exact fun hx => hx hse)]
        rw [hne, if_pos ⟨hsb, hse⟩] at hstep
        exact hstep
      · rw [if_pos (by rw [iL0, iN_eq (hsl i hi64).2 (by omega)]; exact hse)]
        rw [hne, if_neg (fun hx => hse hx.2)] at hstep
        exact hstep
    · rw [if_pos (by rw [sb_eq (hsl i hi64).1 hb]; exact hsb)]
      rw [hne, if_neg (fun hx => hsb hx.1)] at hstep
      exact hstep
theorem m_clean (K : px_K) (N : Nat) (hN : 100 ≤ N) (hK : zKm K) (t : px_W) (s : px_S) (v : ZVs) (h : zRs s v) (hs : zSf v) (b : Nat) (hb : b + 1 < 2147483648) : f_M_cleanOf_28 K N (iN b) s t = some (.inl (some (.int (oN (zClean v.sb v.se b v.n)))), s, t) := by
  have hn64 : v.n ≤ 64 := hs.1.n64
  have := m_clean_loop K N hK t s v h hs b hb v.n 0 N (by omega) (by omega)
  unfold f_M_cleanOf_28
  have e : oN (zClean v.sb v.se b 0) = (-1 : Int32) := rfl
  rw [e, ← iL0] at this
  rw [this]
  rfl
theorem m_dirty_loop (K : px_K) (N : Nat) (hK : zKm K) (t : px_W) (s : px_S) (v : ZVs) (h : zRs s v) (hs : zSf v) (e : Nat) (he : e < 2147483648) : ∀ (d i n : Nat), i + d = v.n → d < n → l_M_dirtyOf_28_4 K N n (iN e) (iN (zDl v.se e i).length) (iN i) s t = some (.inl (25, [iN (zDl v.se e v.n).length], s, t)) := by
  obtain ⟨r1, r2, r3, r4, r5, r6, r7, r8, r9, r10⟩ := h
  obtain ⟨hz, hsl, _⟩ := hs
  have hn64 : v.n ≤ 64 := hz.n64
  have en : s.1 26 * s.1 27 = iN v.n := by rw [r1, r2, iN_mul]
  intro d
  induction d with
  | zero =>
    intro i n hi hn
    obtain ⟨n, rfl⟩ : ∃ n', n = n' + 1 := ⟨n - 1, by omega⟩
    have hi : i = v.n := by omega
    rw [hi]
    unfold l_M_dirtyOf_28_4
    rw [en, if_pos ((iN_le (by omega) (by omega)).mpr (Nat.le_refl _))]
  | succ d ih =>
    intro i n hi hn
    obtain ⟨n, rfl⟩ : ∃ n', n = n' + 1 := ⟨n - 1, by omega⟩
    have hi64 : i < 64 := by omega
    obtain ⟨q1, q2, q3⟩ := r9 i hi64
    have e3 : iN i + (1 : Int32) = iN (i + 1) := by rw [iL1, iN_add]
    have hstep := ih (i + 1) n (by omega) (by omega)
    have hl : (zDl v.se e (i + 1)).length = (zDl v.se e i).length + (if v.se i = e then 1 else 0) := by
      unfold zDl
      rw [List.range_succ, List.filter_append, List.length_append]
      congr 1
      by_cases hx : v.se i = e
      · rw [if_pos hx, List.filter_cons_of_pos (by rw [hx]; exact beq_self_eq_true e)]; rfl
      · rw [if_neg hx, List.filter_cons_of_neg (by rw [beq_iff_eq]; exact hx)]; rfl
    unfold l_M_dirtyOf_28_4
    rw [en, if_neg (by rw [iN_le (by omega) (by omega)]; omega), px_gd_of (by rw [hK.2.2.2.2.2.2.2.1]; exact iN_in (by omega) hi64), iN_nat (by omega), q2, e3]
    unfold px_let
    dsimp only
    have hv : iN (zDl v.se e i).length + (if ¬ iN (v.se i) = iN e then (0 : Int32) else (1 : Int32)) = iN (zDl v.se e (i + 1)).length := by
      rw [hl]
      by_cases hx : v.se i = e
      · rw [if_neg (by rw [hx]; exact fun hh => hh rfl), if_pos hx, iL1, iN_add]
      · rw [if_pos (by rw [iN_eq (hsl i hi64).2 he]; exact hx), if_neg hx, iL0, iN_add]
    rw [hv]
    exact hstep
theorem m_dirty (K : px_K) (N : Nat) (hN : 100 ≤ N) (hK : zKm K) (t : px_W) (s : px_S) (v : ZVs) (h : zRs s v) (hs : zSf v) (e : Nat) (he : e < 2147483648) : f_M_dirtyOf_28 K N (iN e) s t = some (.inl (some (.int (iN (v.dirty e)))), s, t) := by
  have hn64 : v.n ≤ 64 := hs.1.n64
  have := m_dirty_loop K N hK t s v h hs e he v.n 0 N (by omega) (by omega)
  unfold f_M_dirtyOf_28
  have e0 : iN (zDl v.se e 0).length = (0 : Int32) := rfl
  rw [e0, ← iL0] at this
  rw [this]
  rfl
