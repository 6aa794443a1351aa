/-! THE REFERENCE'S SLOTS -/
def oN : Option Nat → Int32
  | none => -1
  | some i => iN i
theorem sb_eq {a b : Nat} (ha : a < 2147483648) (hb : b + 1 < 2147483648) : iN a - 1 = iN b ↔ a = b + 1 := by
  constructor
  · intro h
    have h2 : iN a - 1 + 1 = iN b + 1 := by rw [h]
    rw [Int32.sub_add_cancel, iL1, iN_add] at h2
    exact iN_inj ha hb h2
  · intro h
    rw [h, ← iN_add, ← iL1, Int32.add_sub_cancel]
/-- the reference's slots, halves and epochs are those of the specification -/
def zRs (s : px_S) (v : ZVs) : Prop := s.1 26 = iN v.sets ∧ s.1 27 = iN v.ways ∧ s.1 28 = iN v.eps ∧ s.1 31 = (if v.wf = true then 1 else 0) ∧ s.1 32 = iN v.opn ∧ s.1 33 = iN v.half ∧ s.1 34 = iN v.gen ∧ s.1 35 = iN v.plc ∧ (∀ i, i < 64 → s.2.2.1 35 i = iN (v.sb i) - 1 ∧ s.2.2.1 36 i = iN (v.se i) ∧ s.2.2.1 37 i = (if v.mrk i = true then 1 else 0)) ∧ (∀ k, k < 8 → s.2.2.1 38 k = iN (v.hd k))
/-- what keeps the reference within its rows -/
def zSf (v : ZVs) : Prop := ZSz v.sets v.ways v.eps ∧ (∀ i, i < 64 → v.sb i < 2147483648 ∧ v.se i < 2147483648) ∧ v.opn < 2147483648
theorem m_newest_loop (K : px_K) (N : Nat) (hK : zKm K) (t : px_W) (s : px_S) (v : ZVs) (h : zRs s v) (hs : zSf v) (b : Nat) (hb : b + 1 < 2147483648) : ∀ (d i n : Nat), i + d = v.n → d < n → l_M_newest_28_4 K N n (iN b) (oN (zNew v.sb v.se b i)) (iN i) s t = some (.inl (32, [oN (zNew v.sb v.se b v.n)], s, t)) := by
  obtain ⟨r1, r2, r3, r4, r5, r6, r7, r8, r9, r10⟩ := h
  obtain ⟨hz, hsl, _⟩ := hs
  have hn64 := hz.n64
  have hnn : v.sets * v.ways ≤ 64 := hn64
  have en : s.1 26 * s.1 27 = iN v.n := by rw [r1, r2, iN_mul]
  intro d
  induction d with
  | zero =>
    intro i n hi hn
    obtain ⟨n, rfl⟩ : ∃ n', n = n' + 1 := ⟨n - 1, by omega⟩
    have hi : i = v.n := by omega
    subst hi
    unfold l_M_newest_28_4
    rw [en, if_pos ((iN_le (by show v.sets * v.ways < _; omega) (by show v.sets * v.ways < _; omega)).mpr (Nat.le_refl _))]
  | succ d ih =>
    intro i n hi hn
    obtain ⟨n, rfl⟩ : ∃ n', n = n' + 1 := ⟨n - 1, by omega⟩
    have hin : i < v.n := by omega
    have hi64 : i < 64 := by have : v.n ≤ 64 := hn64; omega
    have hvn : v.n < 2147483648 := by have : v.n ≤ 64 := hn64; omega
    obtain ⟨q1, q2, q3⟩ := r9 i hi64
    have e3 : iN i + (1 : Int32) = iN (i + 1) := by rw [iL1, iN_add]
    have hstep := ih (i + 1) n (by omega) (by omega)
    unfold l_M_newest_28_4
    rw [en, if_neg (by rw [iN_le hvn (by omega)]; omega), px_gd_of (by rw [hK.2.2.2.2.2.2.1]; exact iN_in (by omega) hi64), iN_nat (by omega), q1, e3]
    have hne : zNew v.sb v.se b (i + 1) = (match zNew v.sb v.se b i with
      | none => if v.sb i = b + 1 then some i else none
      | some j => if v.sb i = b + 1 ∧ v.se j < v.se i then some i else some j) := rfl
    by_cases hsb : v.sb i = b + 1
    · rw [if_neg (by rw [sb_eq (hsl i hi64).1 hb]; exact fun hx => hx hsb)]
      cases hz0 : zNew v.sb v.se b i with
      | none =>
        rw [hz0] at hne
        dsimp only at hne
        rw [if_pos hsb] at hne
        rw [hne] at hstep
        rw [if_pos (by show (-1 : Int32) < 0; decide)]
        exact hstep
      | some j =>
        obtain ⟨j1, j2, _⟩ := zNew_some hz0
        rw [hz0] at hne
        dsimp only at hne
        have hj64 : j < 64 := by omega
        rw [if_neg (by show ¬ iN j < 0; exact iN_neg (by omega))]
        have hoj : oN (some j) = iN j := rfl
        rw [hoj, px_gd_of ⟨by rw [hK.2.2.2.2.2.2.2.1]; exact iN_in (by omega) hi64, by rw [hK.2.2.2.2.2.2.2.1]; exact iN_in (by omega) hj64⟩, iN_nat (by omega), q2, (r9 j hj64).2.1]
        by_cases hse : v.se j < v.se i
        · rw [if_pos ⟨hsb, hse⟩] at hne
          rw [hne] at hstep
          rw [if_neg (by rw [iN_le (hsl i hi64).2 (hsl j hj64).2]; omega)]
          exact hstep
        · rw [if_neg (fun hx => hse hx.2)] at hne
          rw [hne] at hstep
          rw [if_pos (by rw [iN_le (hsl i hi64).2 (hsl j hj64).2]; omega)]
          exact hstep
    · rw [if_pos (by rw [sb_eq (hsl i hi64).1 hb]; exact hsb)]
      have hsame : zNew v.sb v.se b (i + 1) = zNew v.sb v.se b i := by
        rw [hne]
        cases zNew v.sb v.se b i with
        | none => dsimp only; rw [if_neg hsb]
        | some j => dsimp only; rw [if_neg (fun hx => hsb hx.1)]
      rw [hsame] at hstep
      exact hstep
theorem m_newest (K : px_K) (N : Nat) (hN : 100 ≤ N) (hK : zKm K) (t : px_W) (s : px_S) (v : ZVs) (h : zRs s v) (hs : zSf v) (b : Nat) (hb : b + 1 < 2147483648) : f_M_newest_28 K N (iN b) s t = some (.inl (some (.int (oN (v.newest b)))), s, t) := by
  have hn64 : v.n ≤ 64 := hs.1.n64
  have := m_newest_loop K N hK t s v h hs b hb v.n 0 N (by omega) (by omega)
  unfold f_M_newest_28
  have e : oN (zNew v.sb v.se b 0) = (-1 : Int32) := rfl
  rw [e, ← iL0] at this
  rw [this]
  rfl
theorem m_clean_loop (K : px_K) (N : Nat) (hK : zKm K) (t : px_W) (s : px_S) (v : ZVs) (h : zRs s v) (hs : zSf v) (b : Nat) (hb : b + 1 < 2147483648) : ∀ (d i n : Nat), i + d = v.n → d < n → l_M_cleanOf_28_4 K N n (iN b) (oN (zClean v.sb v.se b i)) (iN i) s t = some (.inl (26, [oN (zClean v.sb v.se b v.n)], s, t)) := by
  obtain ⟨r1, r2, r3, r4, r5, r6, r7, r8, r9, r10⟩ := h
  obtain ⟨hz, hsl, _⟩ := hs
  have hn64 : v.n ≤ 64 := hz.n64
  have en : s.1 26 * s.1 27 = iN v.n := by rw [r1, r2, iN_mul]
  intro d
  induction d with
  | zero =>
    intro i n hi hn
    obtain ⟨n, rfl⟩ : ∃ n', n = n' + 1 := ⟨n - 1, by omega⟩
    have hi : i = v.n := by omega
    rw [hi]
    unfold l_M_cleanOf_28_4
    rw [en, if_pos ((iN_le (by omega) (by omega)).mpr (Nat.le_refl _))]
  | succ d ih =>
    intro i n hi hn
    obtain ⟨n, rfl⟩ : ∃ n', n = n' + 1 := ⟨n - 1, by omega⟩
    have hi64 : i < 64 := by omega
    obtain ⟨q1, q2, q3⟩ := r9 i hi64
    have e3 : iN i + (1 : Int32) = iN (i + 1) := by rw [iL1, iN_add]
    have hstep := ih (i + 1) n (by omega) (by omega)
    have hne : zClean v.sb v.se b (i + 1) = if v.sb i = b + 1 ∧ v.se i = 0 then some i else zClean v.sb v.se b i := rfl
    unfold l_M_cleanOf_28_4
    rw [en, if_neg (by rw [iN_le (by omega) (by omega)]; omega), px_gd_of (by rw [hK.2.2.2.2.2.2.1]; exact iN_in (by omega) hi64), iN_nat (by omega), q1, e3]
    by_cases hsb : v.sb i = b + 1
    · rw [if_neg (by rw [sb_eq (hsl i hi64).1 hb]; exact fun hx => hx hsb), px_gd_of (by rw [hK.2.2.2.2.2.2.2.1]; exact iN_in (by omega) hi64), q2]
      by_cases hse : v.se i = 0
      · rw [if_neg (by rw [iL0, iN_eq (hsl i hi64).2 (by omega)]; exact fun hx => hx hse)]
        rw [hne, if_pos ⟨hsb, hse⟩] at hstep
        exact hstep
      · rw [if_pos (by rw [iL0, iN_eq (hsl i hi64).2 (by omega)]; exact hse)]
        rw [hne, if_neg (fun hx => hse hx.2)] at hstep
        exact hstep
    · rw [if_pos (by rw [sb_eq (hsl i hi64).1 hb]; exact hsb)]
      rw [hne, if_neg (fun hx => hsb hx.1)] at hstep
      exact hstep
theorem m_clean (K : px_K) (N : Nat) (hN : 100 ≤ N) (hK : zKm K) (t : px_W) (s : px_S) (v : ZVs) (h : zRs s v) (hs : zSf v) (b : Nat) (hb : b + 1 < 2147483648) : f_M_cleanOf_28 K N (iN b) s t = some (.inl (some (.int (oN (zClean v.sb v.se b v.n)))), s, t) := by
  have hn64 : v.n ≤ 64 := hs.1.n64
  have := m_clean_loop K N hK t s v h hs b hb v.n 0 N (by omega) (by omega)
  unfold f_M_cleanOf_28
  have e : oN (zClean v.sb v.se b 0) = (-1 : Int32) := rfl
  rw [e, ← iL0] at this
  rw [this]
  rfl
theorem m_dirty_loop (K : px_K) (N : Nat) (hK : zKm K) (t : px_W) (s : px_S) (v : ZVs) (h : zRs s v) (hs : zSf v) (e : Nat) (he : e < 2147483648) : ∀ (d i n : Nat), i + d = v.n → d < n → l_M_dirtyOf_28_4 K N n (iN e) (iN (zDl v.se e i).length) (iN i) s t = some (.inl (25, [iN (zDl v.se e v.n).length], s, t)) := by
  obtain ⟨r1, r2, r3, r4, r5, r6, r7, r8, r9, r10⟩ := h
  obtain ⟨hz, hsl, _⟩ := hs
  have hn64 : v.n ≤ 64 := hz.n64
  have en : s.1 26 * s.1 27 = iN v.n := by rw [r1, r2, iN_mul]
  intro d
  induction d with
  | zero =>
    intro i n hi hn
    obtain ⟨n, rfl⟩ : ∃ n', n = n' + 1 := ⟨n - 1, by omega⟩
    have hi : i = v.n := by omega
    rw [hi]
    unfold l_M_dirtyOf_28_4
    rw [en, if_pos ((iN_le (by omega) (by omega)).mpr (Nat.le_refl _))]
  | succ d ih =>
    intro i n hi hn
    obtain ⟨n, rfl⟩ : ∃ n', n = n' + 1 := ⟨n - 1, by omega⟩
    have hi64 : i < 64 := by omega
    obtain ⟨q1, q2, q3⟩ := r9 i hi64
    have e3 : iN i + (1 : Int32) = iN (i + 1) := by rw [iL1, iN_add]
    have hstep := ih (i + 1) n (by omega) (by omega)
    have hl : (zDl v.se e (i + 1)).length = (zDl v.se e i).length + (if v.se i = e then 1 else 0) := by
      unfold zDl
      rw [List.range_succ, List.filter_append, List.length_append]
      congr 1
      by_cases hx : v.se i = e
      · rw [if_pos hx, List.filter_cons_of_pos (by rw [hx]; exact beq_self_eq_true e)]; rfl
      · rw [if_neg hx, List.filter_cons_of_neg (by rw [beq_iff_eq]; exact hx)]; rfl
    unfold l_M_dirtyOf_28_4
    rw [en, if_neg (by rw [iN_le (by omega) (by omega)]; omega), px_gd_of (by rw [hK.2.2.2.2.2.2.2.1]; exact iN_in (by omega) hi64), iN_nat (by omega), q2, e3]
    unfold px_let
    dsimp only
    have hv : iN (zDl v.se e i).length + (if ¬ iN (v.se i) = iN e then (0 : Int32) else (1 : Int32)) = iN (zDl v.se e (i + 1)).length := by
      rw [hl]
      by_cases hx : v.se i = e
      · rw [if_neg (by rw [hx]; exact fun hh => hh rfl), if_pos hx, iL1, iN_add]
      · rw [if_pos (by rw [iN_eq (hsl i hi64).2 he]; exact hx), if_neg hx, iL0, iN_add]
    rw [hv]
    exact hstep
theorem m_dirty (K : px_K) (N : Nat) (hN : 100 ≤ N) (hK : zKm K) (t : px_W) (s : px_S) (v : ZVs) (h : zRs s v) (hs : zSf v) (e : Nat) (he : e < 2147483648) : f_M_dirtyOf_28 K N (iN e) s t = some (.inl (some (.int (iN (v.dirty e)))), s, t) := by
  have hn64 : v.n ≤ 64 := hs.1.n64
  have := m_dirty_loop K N hK t s v h hs e he v.n 0 N (by omega) (by omega)
  unfold f_M_dirtyOf_28
  have e0 : iN (zDl v.se e 0).length = (0 : Int32) := rfl
  rw [e0, ← iL0] at this
  rw [this]
  rfl
/-- nothing but the slots' rows changes -/
def zFs (s u : px_S) : Prop := (∀ c, c < 35 ∨ 38 < c → u.2.2.1 c = s.2.2.1 c) ∧ u.1 = s.1 ∧ u.2.1 = s.2.1 ∧ u.2.2.2 = s.2.2.2
theorem zFs_refl (s : px_S) : zFs s s := ⟨fun _ _ => rfl, rfl, rfl, rfl⟩
theorem zFs_trans {s u v : px_S} (h1 : zFs s u) (h2 : zFs u v) : zFs s v := ⟨fun c hc => (h2.1 c hc).trans (h1.1 c hc), h2.2.1.trans h1.2.1, h2.2.2.1.trans h1.2.2.1, h2.2.2.2.trans h1.2.2.2⟩
theorem zFs_sA {s : px_S} {c j : Nat} {v : Int32} (hc : 35 ≤ c ∧ c ≤ 38) : zFs s (sA s c j v) := ⟨fun d hd => by rw [sA_eq, sF_arr_ne (by omega)], rfl, rfl, rfl⟩
theorem zRs_hd {s : px_S} {v : ZVs} (h : zRs s v) {k a : Nat} (hk : k < 8) : zRs (sA s 38 k (iN a)) (v.s_hd (zu v.hd k a)) := by
  obtain ⟨r1, r2, r3, r4, r5, r6, r7, r8, r9, r10⟩ := h
  refine ⟨r1, r2, r3, r4, r5, r6, r7, r8, fun i hi => ?_, fun q hq => ?_⟩
  · rw [sA_eq, sF_arr_ne (by omega), sF_arr_ne (by omega), sF_arr_ne (by omega)]; exact r9 i hi
  · rw [sA_eq, sF_arr]
    show upd (s.2.2.1 38) k (iN a) q = iN (zu v.hd k a q)
    unfold upd zu
    by_cases hx : q = k
    · rw [if_pos hx, if_pos hx]
    · rw [if_neg hx, if_neg hx]; exact r10 q hq
theorem zRs_mrk {s : px_S} {v : ZVs} (h : zRs s v) {i : Nat} {x : Int32} {m : Bool} (hx : x = (if m = true then 1 else 0)) : zRs (sA s 37 i x) (v.s_mrk (zu v.mrk i m)) := by
  obtain ⟨r1, r2, r3, r4, r5, r6, r7, r8, r9, r10⟩ := h
  refine ⟨r1, r2, r3, r4, r5, r6, r7, r8, fun j hj => ?_, fun q hq => by rw [sA_eq, sF_arr_ne (by omega)]; exact r10 q hq⟩
  obtain ⟨a1, a2, a3⟩ := r9 j hj
  rw [sA_eq, sF_arr_ne (by omega), sF_arr_ne (by omega), sF_arr]
  refine ⟨a1, a2, ?_⟩
  show upd (s.2.2.1 37) i x j = if zu v.mrk i m j = true then 1 else 0
  unfold upd zu
  by_cases hxx : j = i
  · rw [if_pos hxx, if_pos hxx, hx]
  · rw [if_neg hxx, if_neg hxx]; exact a3
theorem zRs_sb {s : px_S} {v : ZVs} (h : zRs s v) {i a : Nat} {x : Int32} (hx : x = iN a - 1) : zRs (sA s 35 i x) (v.s_sb (zu v.sb i a)) := by
  obtain ⟨r1, r2, r3, r4, r5, r6, r7, r8, r9, r10⟩ := h
  refine ⟨r1, r2, r3, r4, r5, r6, r7, r8, fun j hj => ?_, fun q hq => by rw [sA_eq, sF_arr_ne (by omega)]; exact r10 q hq⟩
  obtain ⟨a1, a2, a3⟩ := r9 j hj
  rw [sA_eq, sF_arr, sF_arr_ne (by omega), sF_arr_ne (by omega)]
  refine ⟨?_, a2, a3⟩
  show upd (s.2.2.1 35) i x j = iN (zu v.sb i a j) - 1
  unfold upd zu
  by_cases hxx : j = i
  · rw [if_pos hxx, if_pos hxx, hx]
  · rw [if_neg hxx, if_neg hxx]; exact a1
theorem zRs_se {s : px_S} {v : ZVs} (h : zRs s v) {i a : Nat} : zRs (sA s 36 i (iN a)) (v.s_se (zu v.se i a)) := by
  obtain ⟨r1, r2, r3, r4, r5, r6, r7, r8, r9, r10⟩ := h
  refine ⟨r1, r2, r3, r4, r5, r6, r7, r8, fun j hj => ?_, fun q hq => by rw [sA_eq, sF_arr_ne (by omega)]; exact r10 q hq⟩
  obtain ⟨a1, a2, a3⟩ := r9 j hj
  rw [sA_eq, sF_arr_ne (by omega), sF_arr, sF_arr_ne (by omega)]
  refine ⟨a1, ?_, a3⟩
  show upd (s.2.2.1 36) i (iN a) j = iN (zu v.se i a j)
  unfold upd zu
  by_cases hxx : j = i
  · rw [if_pos hxx, if_pos hxx]
  · rw [if_neg hxx, if_neg hxx]; exact a2
theorem sb_neg {a : Nat} (ha : a < 2147483648) : iN a - 1 < 0 ↔ a = 0 := by
  by_cases h : a = 0
  · subst h; exact ⟨fun _ => rfl, fun _ => by decide⟩
  · rw [iL1, iN_sub (by omega)]
    exact ⟨fun hx => absurd hx (iN_neg (by omega)), fun hx => absurd hx h⟩
theorem m_find_loop (K : px_K) (N : Nat) (hK : zKm K) (t : px_W) (set : Nat) : ∀ (k n : Nat) (s : px_S) (v : ZVs), zRs s v → zSf v → set < v.sets → v.hd set < v.ways → k ≤ 2 * v.ways → k < n → ∃ s', zFs s s' ∧ (((ZVs.find set k v).1 = none ∧ l_M_find_28_2 K N n (iN set) (iN (2 * v.ways - k)) s t = some (.inl (63, [], s', t)) ∧ zRs s' (ZVs.find set k v).2) ∨ ∃ i, i < 64 ∧ (ZVs.find set k v).1 = some i ∧ l_M_find_28_2 K N n (iN set) (iN (2 * v.ways - k)) s t = some (.inl (54, [iN i], s', t)) ∧ zRs (sA s' 35 i (-1 : Int32)) (ZVs.find set k v).2) := by
  intro k
  induction k with
  | zero =>
    intro n s v h hs hset hh hk hn
    obtain ⟨n, rfl⟩ : ∃ n', n = n' + 1 := ⟨n - 1, by omega⟩
    have hw8 := hs.1.w8
    refine ⟨s, zFs_refl s, Or.inl ⟨rfl, ?_, h⟩⟩
    unfold l_M_find_28_2
    rw [h.2.1, iL2, iN_mul, if_pos ((iN_le (by omega) (by omega)).mpr (by omega))]
  | succ k ih =>
    intro n s v h hs hset hh hk hn
    obtain ⟨n, rfl⟩ : ∃ n', n = n' + 1 := ⟨n - 1, by omega⟩
    have hw8 := hs.1.w8
    have hw1 := hs.1.w1
    have hs8 := hs.1.s8
    have hset8 : set < 8 := by omega
    have hn64 : v.sets * v.ways ≤ 64 := hs.1.n64
    obtain ⟨hi1, _⟩ := zset_lt (v := v) hset hh
    have hi1 : set * v.ways + v.hd set < v.sets * v.ways := hi1
    have hmul : set * v.ways ≤ 64 := by omega
    have h38 := h.2.2.2.2.2.2.2.2.2 set hset8
    have hw := h.2.1
    have e1 : iN set * iN v.ways + iN (v.hd set) = iN (set * v.ways + v.hd set) := by rw [iN_mul, iN_add]
    have e2 : iN (v.hd set) + (1 : Int32) = iN (v.hd set + 1) := by rw [iL1, iN_add]
    have e3 : iN (v.hd set + 1) - iN (v.hd set + 1) / iN v.ways * iN v.ways = iN ((v.hd set + 1) % v.ways) := iN_rem (by omega) (by omega) (by omega)
    have e4 : iN (2 * v.ways - (k + 1)) + (1 : Int32) = iN (2 * v.ways - k) := by rw [iL1, iN_add]; congr 1; omega
    have hin38 : vp_in (iN set) (K.2.2 38) := by rw [hK.2.2.2.2.2.2.2.2.2.1]; exact iN_in (by omega) hset8
    obtain ⟨i, hi⟩ : ∃ i, i = set * v.ways + v.hd set := ⟨_, rfl⟩
    have hi64 : i < 64 := by omega
    unfold l_M_find_28_2 ZVs.find
    rw [hw, iL2, iN_mul, if_neg (c := iN (2 * v.ways) ≤ iN (2 * v.ways - (k + 1))) (by rw [iN_le (by omega) (by omega)]; omega), px_gd_of hin38, iN_nat (by omega), h38]
    unfold px_let
    dsimp only
    rw [e1, px_gd_of ⟨hin38, by rw [iL0, iN_eq (by omega) (by omega)]; omega⟩, px_gd_of hin38, e2, e3, ← hi, iN_nat (by omega), px_gd_of (by rw [hK.2.2.2.2.2.2.2.1]; exact iN_in (by omega) hi64)]
    have hA := zRs_hd h (k := set) (a := (v.hd set + 1) % v.ways) hset8
    have fA : zFs s (sA s 38 set (iN ((v.hd set + 1) % v.ways))) := zFs_sA (by omega)
    obtain ⟨s8, hs8⟩ : ∃ s8, s8 = sA s 38 set (iN ((v.hd set + 1) % v.ways)) := ⟨_, rfl⟩
    rw [← hs8] at hA fA ⊢
    clear hs8
    have hm : (v.hd set + 1) % v.ways < v.ways := Nat.mod_lt _ (by omega)
    obtain ⟨q1, q2, q3⟩ := hA.2.2.2.2.2.2.2.2.1 i hi64
    have q1 : s8.2.2.1 35 i = iN (v.sb i) - 1 := q1
    have q2 : s8.2.2.1 36 i = iN (v.se i) := q2
    have q3 : s8.2.2.1 37 i = (if v.mrk i = true then 1 else 0) := q3
    have hse := (hs.2.1 i hi64).2
    have hsb := (hs.2.1 i hi64).1
    rw [q2]
    by_cases hd : 0 < v.se i
    · rw [if_pos hd, if_neg (c := iN (v.se i) ≤ 0) (by rw [iL0, iN_le hse (by omega)]; omega), e4]
      obtain ⟨s', f1, f2⟩ := ih n s8 (v.s_hd (zu v.hd set ((v.hd set + 1) % v.ways))) hA hs hset (by show zu v.hd set _ set < v.ways; rw [zu_self]; exact hm) (by show k ≤ 2 * v.ways; omega) (by omega)
      exact ⟨s', zFs_trans fA f1, f2⟩
    · rw [if_neg hd, if_pos (c := iN (v.se i) ≤ 0) (by rw [iL0, iN_le hse (by omega)]; omega), px_gd_of (by rw [hK.2.2.2.2.2.2.2.2.1]; exact iN_in (by omega) hi64), px_gd_of (by rw [hK.2.2.2.2.2.2.2.2.1]; exact iN_in (by omega) hi64), px_gd_of (by rw [hK.2.2.2.2.2.2.1]; exact iN_in (by omega) hi64)]
      have hB := zRs_mrk hA (i := i) (x := (0 : Int32)) (m := false) rfl
      have fB : zFs s (sA s8 37 i (0 : Int32)) := zFs_trans fA (zFs_sA (by omega))
      have e35 : (sA s8 37 i (0 : Int32)).2.2.1 35 i = iN (v.sb i) - 1 := by rw [sA_eq, sF_arr_ne (by omega)]; exact q1
      rw [e35, q3]
      by_cases hb0 : v.sb i = 0
      · rw [if_pos (Or.inl hb0), if_pos ((sb_neg hsb).mpr hb0)]
        refine ⟨_, fB, Or.inr ⟨i, hi64, rfl, rfl, ?_⟩⟩
        exact zRs_sb hB (i := i) (a := 0) rfl
      · rw [if_neg (fun hx => hb0 ((sb_neg hsb).mp hx))]
        cases hmk : v.mrk i with
        | false =>
          rw [if_pos (Or.inr rfl), if_neg (c := false = true) Bool.noConfusion, if_neg (c := ¬ (0 : Int32) = 0) (fun hx => hx rfl)]
          refine ⟨_, fB, Or.inr ⟨i, hi64, rfl, rfl, ?_⟩⟩
          exact zRs_sb hB (i := i) (a := 0) rfl
        | true =>
          rw [if_neg (by rintro (hx | hx); exact hb0 hx; cases hx), if_pos (c := true = true) rfl, if_pos (c := ¬ (1 : Int32) = 0) (by decide), e4]
          obtain ⟨s', f1, f2⟩ := ih n (sA s8 37 i (0 : Int32)) ((v.s_hd (zu v.hd set ((v.hd set + 1) % v.ways))).s_mrk (zu v.mrk i false)) hB hs hset (by show zu v.hd set _ set < v.ways; rw [zu_self]; exact hm) (by show k ≤ 2 * v.ways; omega) (by omega)
          exact ⟨s', zFs_trans fB f1, f2⟩
theorem m_find (K : px_K) (N : Nat) (hN : 100 ≤ N) (hK : zKm K) (t : px_W) (set : Nat) (s : px_S) (v : ZVs) (h : zRs s v) (hs : zSf v) (hset : set < v.sets) (hh : v.hd set < v.ways) : ∃ s', zFs s s' ∧ f_M_find_28 K N (iN set) s t = some (.inl (some (.int (oN (ZVs.find set (2 * v.ways) v).1))), s', t) ∧ zRs s' (ZVs.find set (2 * v.ways) v).2 := by
  have hw8 := hs.1.w8
  obtain ⟨s', f1, f2⟩ := m_find_loop K N hK t set (2 * v.ways) N s v h hs hset hh (Nat.le_refl _) (by omega)
  rw [Nat.sub_self] at f2
  unfold f_M_find_28
  rw [iL0]
  rcases f2 with ⟨g1, g2, g3⟩ | ⟨i, i64, g1, g2, g3⟩
  · rw [g2, g1]
    exact ⟨s', f1, rfl, g3⟩
  · rw [g2, g1]
    unfold px_lp
    dsimp only
    rw [if_pos rfl]
    unfold px_v1
    dsimp only
    rw [px_gd_of (by rw [hK.2.2.2.2.2.2.1]; exact iN_in (by omega) i64), iN_nat (by omega)]
    exact ⟨sA s' 35 i (-1 : Int32), zFs_trans f1 (zFs_sA (by omega)), rfl, g3⟩
/-! THREE WORDS of the reference: row 43 -/
theorem m_three_loop_43 (K : px_K) (N : Nat) (hX : K.2.2 43 = 16) (u2 u3 u4 : Int32) (s : px_S) (t : px_W) : ∀ (d m n : Nat), m + d = 16 → d < n → l_M_three_28_43_2 K N n u2 u3 u4 (iN m) (sF s 43 (fun a => if 3 ≤ a ∧ a < m then 0 else s.2.2.1 43 a)) t = some (.inl (11, [], sF s 43 (fun a => if 3 ≤ a ∧ a < 16 then 0 else s.2.2.1 43 a), t)) ∨ m < 3 := by
  intro d
  induction d with
  | zero =>
    intro m n hm hn
    obtain ⟨n, rfl⟩ : ∃ n', n = n' + 1 := ⟨n - 1, by omega⟩
    have hm : m = 16 := by omega
    subst hm
    left
    unfold l_M_three_28_43_2
    rw [if_pos (by rw [iL16]; exact (iN_le (by omega) (by omega)).mpr (by omega))]
  | succ d ih =>
    intro m n hm hn
    obtain ⟨n, rfl⟩ : ∃ n', n = n' + 1 := ⟨n - 1, by omega⟩
    by_cases h3 : m < 3
    · exact Or.inr h3
    left
    have e3 : iN m + (1 : Int32) = iN (m + 1) := by rw [iL1, iN_add]
    unfold l_M_three_28_43_2
    rw [if_neg (by rw [iL16, iN_le (by omega) (by omega)]; omega), px_gd_of (by rw [hX]; exact iN_in (by omega) (by omega)), iN_nat (by omega)]
    unfold px_let
    rw [e3, sA_sF]
    have e4 : upd (fun a => if 3 ≤ a ∧ a < m then 0 else s.2.2.1 43 a) m (0 : Int32) = fun a => if 3 ≤ a ∧ a < m + 1 then 0 else s.2.2.1 43 a := by
      funext a
      unfold upd
      by_cases h1 : a = m
      · rw [if_pos h1, if_pos (by omega)]
      · rw [if_neg h1]
        dsimp only
        by_cases h2 : 3 ≤ a ∧ a < m
        · rw [if_pos h2, if_pos (by omega)]
        · rw [if_neg h2, if_neg (by omega)]
    rw [e4]
    rcases ih (m + 1) n (by omega) (by omega) with q | q
    · exact q
    · omega
theorem m_three_43 (K : px_K) (N : Nat) (hN : 100 ≤ N) (hX : K.2.2 43 = 16) (a0 a1 a2 : Nat) (s : px_S) (t : px_W) : ∃ g, f_M_three_28_43 K N (iN a0) (iN a1) (iN a2) s t = some (.inl none, sF s 43 g, t) ∧ ∀ w, w < 16 → g w = zThree a0 a1 a2 w := by
  have h := m_three_loop_43 K N hX (iN a0) (iN a1) (iN a2) s t 13 3 N (by omega) (by omega)
  have e0 : (fun a => if 3 ≤ a ∧ a < 3 then 0 else s.2.2.1 43 a) = s.2.2.1 43 := by funext a; rw [if_neg (by omega)]
  rw [e0, sF_triv] at h
  rcases h with h | h
  · unfold f_M_three_28_43
    have i3 : (3 : Int32) = iN 3 := rfl
    rw [i3, h]
    unfold px_lp
    dsimp only
    rw [if_pos rfl]
    unfold px_v0
    dsimp only
    have n0 : (0 : Int32).toNatClampNeg = 0 := rfl
    have n1 : (1 : Int32).toNatClampNeg = 1 := rfl
    have n2 : (2 : Int32).toNatClampNeg = 2 := rfl
    rw [px_gd_of (by rw [hX]; exact iN_in (a := 0) (by omega) (by omega))]
    unfold px_let
    dsimp only
    rw [px_gd_of (by rw [hX]; exact iN_in (a := 1) (by omega) (by omega)), px_gd_of (by rw [hX]; exact iN_in (a := 2) (by omega) (by omega)), n0, n1, n2, sA_sF, sA_sF, sA_sF]
    refine ⟨_, rfl, fun w hw => ?_⟩
    unfold upd zThree
    by_cases h2 : w = 2
    · rw [if_pos h2, if_neg (by omega), if_neg (by omega), if_pos h2]
    · rw [if_neg h2]
      by_cases h1 : w = 1
      · rw [if_pos h1, if_neg (by omega), if_pos h1]
      · rw [if_neg h1]
        by_cases h0 : w = 0
        · rw [if_pos h0, if_pos h0]
        · rw [if_neg h0]
          dsimp only
          rw [if_pos (show 3 ≤ w ∧ w < 16 by omega), if_neg h0, if_neg h1, if_neg h2]
  · omega
/-! THREE WORDS of the reference: row 44 -/
theorem m_three_loop_44 (K : px_K) (N : Nat) (hX : K.2.2 44 = 16) (u2 u3 u4 : Int32) (s : px_S) (t : px_W) : ∀ (d m n : Nat), m + d = 16 → d < n → l_M_three_28_44_2 K N n u2 u3 u4 (iN m) (sF s 44 (fun a => if 3 ≤ a ∧ a < m then 0 else s.2.2.1 44 a)) t = some (.inl (11, [], sF s 44 (fun a => if 3 ≤ a ∧ a < 16 then 0 else s.2.2.1 44 a), t)) ∨ m < 3 := by
  intro d
  induction d with
  | zero =>
    intro m n hm hn
    obtain ⟨n, rfl⟩ : ∃ n', n = n' + 1 := ⟨n - 1, by omega⟩
    have hm : m = 16 := by omega
    subst hm
    left
    unfold l_M_three_28_44_2
    rw [if_pos (by rw [iL16]; exact (iN_le (by omega) (by omega)).mpr (by omega))]
  | succ d ih =>
    intro m n hm hn
    obtain ⟨n, rfl⟩ : ∃ n', n = n' + 1 := ⟨n - 1, by omega⟩
    by_cases h3 : m < 3
    · exact Or.inr h3
    left
    have e3 : iN m + (1 : Int32) = iN (m + 1) := by rw [iL1, iN_add]
    unfold l_M_three_28_44_2
    rw [if_neg (by rw [iL16, iN_le (by omega) (by omega)]; omega), px_gd_of (by rw [hX]; exact iN_in (by omega) (by omega)), iN_nat (by omega)]
    unfold px_let
    rw [e3, sA_sF]
    have e4 : upd (fun a => if 3 ≤ a ∧ a < m then 0 else s.2.2.1 44 a) m (0 : Int32) = fun a => if 3 ≤ a ∧ a < m + 1 then 0 else s.2.2.1 44 a := by
      funext a
      unfold upd
      by_cases h1 : a = m
      · rw [if_pos h1, if_pos (by omega)]
      · rw [if_neg h1]
        dsimp only
        by_cases h2 : 3 ≤ a ∧ a < m
        · rw [if_pos h2, if_pos (by omega)]
        · rw [if_neg h2, if_neg (by omega)]
    rw [e4]
    rcases ih (m + 1) n (by omega) (by omega) with q | q
    · exact q
    · omega
theorem m_three_44 (K : px_K) (N : Nat) (hN : 100 ≤ N) (hX : K.2.2 44 = 16) (a0 a1 a2 : Nat) (s : px_S) (t : px_W) : ∃ g, f_M_three_28_44 K N (iN a0) (iN a1) (iN a2) s t = some (.inl none, sF s 44 g, t) ∧ ∀ w, w < 16 → g w = zThree a0 a1 a2 w := by
  have h := m_three_loop_44 K N hX (iN a0) (iN a1) (iN a2) s t 13 3 N (by omega) (by omega)
  have e0 : (fun a => if 3 ≤ a ∧ a < 3 then 0 else s.2.2.1 44 a) = s.2.2.1 44 := by funext a; rw [if_neg (by omega)]
  rw [e0, sF_triv] at h
  rcases h with h | h
  · unfold f_M_three_28_44
    have i3 : (3 : Int32) = iN 3 := rfl
    rw [i3, h]
    unfold px_lp
    dsimp only
    rw [if_pos rfl]
    unfold px_v0
    dsimp only
    have n0 : (0 : Int32).toNatClampNeg = 0 := rfl
    have n1 : (1 : Int32).toNatClampNeg = 1 := rfl
    have n2 : (2 : Int32).toNatClampNeg = 2 := rfl
    rw [px_gd_of (by rw [hX]; exact iN_in (a := 0) (by omega) (by omega))]
    unfold px_let
    dsimp only
    rw [px_gd_of (by rw [hX]; exact iN_in (a := 1) (by omega) (by omega)), px_gd_of (by rw [hX]; exact iN_in (a := 2) (by omega) (by omega)), n0, n1, n2, sA_sF, sA_sF, sA_sF]
    refine ⟨_, rfl, fun w hw => ?_⟩
    unfold upd zThree
    by_cases h2 : w = 2
    · rw [if_pos h2, if_neg (by omega), if_neg (by omega), if_pos h2]
    · rw [if_neg h2]
      by_cases h1 : w = 1
      · rw [if_pos h1, if_neg (by omega), if_pos h1]
      · rw [if_neg h1]
        by_cases h0 : w = 0
        · rw [if_pos h0, if_pos h0]
        · rw [if_neg h0]
          dsimp only
          rw [if_pos (show 3 ≤ w ∧ w < 16 by omega), if_neg h0, if_neg h1, if_neg h2]
  · omega
/-! A BLOCK IS COPIED to the row 39 -/
theorem m_copy_loop_39 (K : px_K) (N : Nat) (hN : 100 ≤ N) (hK : zKm K) (k b fi : Nat) (hk : k < 2) (hb : b < zNb k) (hfi : fi + 16 ≤ K.2.2 39) (hX : K.2.2 39 ≤ 1696) (dv : Nat → ZDv) (s : px_S) (t : px_W) (h : zRp s dv) : ∀ (d m n : Nat), m + d = 16 → d < n → l_M_copy_28_39_2 K N n (iN k) (iN b) (iN fi) (iN m) (sF s 39 (va_cpy ((dv k).now b) (s.2.2.1 39) 0 fi m)) t = some (.inl (17, [], sF s 39 (va_cpy ((dv k).now b) (s.2.2.1 39) 0 fi 16), t)) := by
  have hR : ∀ g, zRp (sF s 39 g) dv := by
    intro g k' hk'
    obtain ⟨h1, h2, h3, h4, h5, h6⟩ := h k' hk'
    refine ⟨h1, by rw [sF_arr_ne (by omega)]; exact h2, fun j hj => by rw [sF_arr_ne (by omega), sF_arr_ne (by omega)]; exact h3 j hj, fun c w hc hw => by rw [sF_arr_ne (by omega)]; exact h4 c w hc hw, by rw [sF_arr_ne (by omega)]; exact h5, by rw [sF_arr_ne (by omega)]; exact h6⟩
  intro d
  induction d with
  | zero =>
    intro m n hm hn
    obtain ⟨n, rfl⟩ : ∃ n', n = n' + 1 := ⟨n - 1, by omega⟩
    have hm : m = 16 := by omega
    subst hm
    unfold l_M_copy_28_39_2
    rw [if_pos (by rw [iL16]; exact (iN_le (by omega) (by omega)).mpr (by omega))]
  | succ d ih =>
    intro m n hm hn
    obtain ⟨n, rfl⟩ : ∃ n', n = n' + 1 := ⟨n - 1, by omega⟩
    have e2 : iN fi + iN m = iN (fi + m) := iN_add _ _
    have e3 : iN m + (1 : Int32) = iN (m + 1) := by rw [iL1, iN_add]
    unfold l_M_copy_28_39_2
    rw [if_neg (by rw [iL16, iN_le (by omega) (by omega)]; omega), m_read K N hN hK t _ dv (hR _) k b m hk hb (by omega)]
    unfold px_bi
    dsimp only
    rw [e2, px_gd_of (iN_in (by omega) (by omega)), iN_nat (by omega)]
    unfold px_let
    rw [e3, sA_sF]
    have e4 := va_cpy_step ((dv k).now b) (s.2.2.1 39) 0 fi m
    rw [Nat.zero_add] at e4
    rw [e4]
    exact ih (m + 1) n (by omega) (by omega)
theorem m_copy_39 (K : px_K) (N : Nat) (hN : 100 ≤ N) (hK : zKm K) (k b fi : Nat) (hk : k < 2) (hb : b < zNb k) (hfi : fi + 16 ≤ K.2.2 39) (hX : K.2.2 39 ≤ 1696) (dv : Nat → ZDv) (s : px_S) (t : px_W) (h : zRp s dv) : f_M_copy_28_39 K N (iN k) (iN b) (iN fi) s t = some (.inl none, sF s 39 (va_cpy ((dv k).now b) (s.2.2.1 39) 0 fi 16), t) := by
  have hh := m_copy_loop_39 K N hN hK k b fi hk hb hfi hX dv s t h 16 0 N (by omega) (by omega)
  rw [va_cpy_0, sF_triv] at hh
  unfold f_M_copy_28_39
  rw [iL0, hh]
  rfl
/-! A BLOCK IS COPIED to the row 43 -/
theorem m_copy_loop_43 (K : px_K) (N : Nat) (hN : 100 ≤ N) (hK : zKm K) (k b fi : Nat) (hk : k < 2) (hb : b < zNb k) (hfi : fi + 16 ≤ K.2.2 43) (hX : K.2.2 43 ≤ 1696) (dv : Nat → ZDv) (s : px_S) (t : px_W) (h : zRp s dv) : ∀ (d m n : Nat), m + d = 16 → d < n → l_M_copy_28_43_2 K N n (iN k) (iN b) (iN fi) (iN m) (sF s 43 (va_cpy ((dv k).now b) (s.2.2.1 43) 0 fi m)) t = some (.inl (17, [], sF s 43 (va_cpy ((dv k).now b) (s.2.2.1 43) 0 fi 16), t)) := by
  have hR : ∀ g, zRp (sF s 43 g) dv := by
    intro g k' hk'
    obtain ⟨h1, h2, h3, h4, h5, h6⟩ := h k' hk'
    refine ⟨h1, by rw [sF_arr_ne (by omega)]; exact h2, fun j hj => by rw [sF_arr_ne (by omega), sF_arr_ne (by omega)]; exact h3 j hj, fun c w hc hw => by rw [sF_arr_ne (by omega)]; exact h4 c w hc hw, by rw [sF_arr_ne (by omega)]; exact h5, by rw [sF_arr_ne (by omega)]; exact h6⟩
  intro d
  induction d with
  | zero =>
    intro m n hm hn
    obtain ⟨n, rfl⟩ : ∃ n', n = n' + 1 := ⟨n - 1, by omega⟩
    have hm : m = 16 := by omega
    subst hm
    unfold l_M_copy_28_43_2
    rw [if_pos (by rw [iL16]; exact (iN_le (by omega) (by omega)).mpr (by omega))]
  | succ d ih =>
    intro m n hm hn
    obtain ⟨n, rfl⟩ : ∃ n', n = n' + 1 := ⟨n - 1, by omega⟩
    have e2 : iN fi + iN m = iN (fi + m) := iN_add _ _
    have e3 : iN m + (1 : Int32) = iN (m + 1) := by rw [iL1, iN_add]
    unfold l_M_copy_28_43_2
    rw [if_neg (by rw [iL16, iN_le (by omega) (by omega)]; omega), m_read K N hN hK t _ dv (hR _) k b m hk hb (by omega)]
    unfold px_bi
    dsimp only
    rw [e2, px_gd_of (iN_in (by omega) (by omega)), iN_nat (by omega)]
    unfold px_let
    rw [e3, sA_sF]
    have e4 := va_cpy_step ((dv k).now b) (s.2.2.1 43) 0 fi m
    rw [Nat.zero_add] at e4
    rw [e4]
    exact ih (m + 1) n (by omega) (by omega)
theorem m_copy_43 (K : px_K) (N : Nat) (hN : 100 ≤ N) (hK : zKm K) (k b fi : Nat) (hk : k < 2) (hb : b < zNb k) (hfi : fi + 16 ≤ K.2.2 43) (hX : K.2.2 43 ≤ 1696) (dv : Nat → ZDv) (s : px_S) (t : px_W) (h : zRp s dv) : f_M_copy_28_43 K N (iN k) (iN b) (iN fi) s t = some (.inl none, sF s 43 (va_cpy ((dv k).now b) (s.2.2.1 43) 0 fi 16), t) := by
  have hh := m_copy_loop_43 K N hN hK k b fi hk hb hfi hX dv s t h 16 0 N (by omega) (by omega)
  rw [va_cpy_0, sF_triv] at hh
  unfold f_M_copy_28_43
  rw [iL0, hh]
  rfl
