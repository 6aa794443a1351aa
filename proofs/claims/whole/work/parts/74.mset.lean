/-! THE REFERENCE: closed epochs in a set; no slots -/
def bN (f : Bool) : Int32 := if f = true then 1 else 0
theorem m_hasClosed_loop (K : px_K) (N : Nat) (hK : zKm K) (t : px_W) (s : px_S) (v : ZVs) (h : zRs s v) (hs : zSf v) (set : Nat) (hset : set < v.sets) : ∀ (d i n : Nat) (f : Bool), (f = true ↔ ∃ w, w < i ∧ 0 < v.se (set * v.ways + w) ∧ v.se (set * v.ways + w) < v.opn) → i + d = v.ways → d < n → ∃ g : Bool, (g = true ↔ v.hasClosed set) ∧ l_M_hasClosed_28_7 K N n (iN set) (bN f) (iN (set * v.ways + i)) s t = some (.inl (36, [bN g], s, t)) := by
  obtain ⟨r1, r2, r3, r4, r5, r6, r7, r8, r9, r10⟩ := h
  obtain ⟨hz, hsl, ho⟩ := hs
  have hn64 : v.sets * v.ways ≤ 64 := hz.n64
  have hw8 := hz.w8
  have hlast : set * v.ways + v.ways ≤ 64 := by
    have : (set + 1) * v.ways ≤ v.sets * v.ways := Nat.mul_le_mul_right _ hset
    rw [Nat.add_mul] at this; omega
  have en : iN set * s.1 27 + s.1 27 = iN (set * v.ways + v.ways) := by rw [r2, iN_mul, iN_add]
  intro d
  induction d with
  | zero =>
    intro i n f hf hi hn
    obtain ⟨n, rfl⟩ : ∃ n', n = n' + 1 := ⟨n - 1, by omega⟩
    have hi : i = v.ways := by omega
    subst hi
    refine ⟨f, hf, ?_⟩
    unfold l_M_hasClosed_28_7
    rw [en, if_pos ((iN_le (by omega) (by omega)).mpr (Nat.le_refl _))]
  | succ d ih =>
    intro i n f hf hi hn
    obtain ⟨n, rfl⟩ : ∃ n', n = n' + 1 := ⟨n - 1, by omega⟩
    have hi64 : set * v.ways + i < 64 := by omega
    have q2 := (r9 (set * v.ways + i) hi64).2.1
    have hse := (hsl (set * v.ways + i) hi64).2
    have e3 : iN (set * v.ways + i) + (1 : Int32) = iN (set * v.ways + (i + 1)) := by rw [iL1, iN_add]; rfl
    unfold l_M_hasClosed_28_7
    rw [en, if_neg (by rw [iN_le (by omega) (by omega)]; omega), e3]
    cases f with
    | true =>
      rw [if_pos (by show ¬ (1 : Int32) = 0; decide)]
      refine ih (i + 1) n true ⟨fun _ => ?_, fun _ => rfl⟩ (by omega) (by omega)
      obtain ⟨w, w1, w2⟩ := hf.mp rfl
      exact ⟨w, by omega, w2⟩
    | false =>
      rw [if_neg (by show ¬ ¬ (0 : Int32) = 0; exact fun hx => hx rfl), px_gd_of (by rw [hK.2.2.2.2.2.2.2.1]; exact iN_in (by omega) hi64), iN_nat (by omega), q2]
      have hno : ∀ w, w < i → ¬ (0 < v.se (set * v.ways + w) ∧ v.se (set * v.ways + w) < v.opn) := fun w hw hx => by
        have := hf.mpr ⟨w, hw, hx⟩; cases this
      by_cases h0 : 0 < v.se (set * v.ways + i)
      · rw [if_neg (by rw [iL0, iN_le hse (by omega)]; omega), px_gd_of (by rw [hK.2.2.2.2.2.2.2.1]; exact iN_in (by omega) hi64)]
        unfold px_let
        dsimp only
        rw [r5]
        by_cases h1 : v.se (set * v.ways + i) < v.opn
        · rw [if_neg (by rw [iN_le ho hse]; omega)]
          exact ih (i + 1) n true ⟨fun _ => ⟨i, by omega, h0, h1⟩, fun _ => rfl⟩ (by omega) (by omega)
        · rw [if_pos (by rw [iN_le ho hse]; omega)]
          refine ih (i + 1) n false ⟨fun hx => (by cases hx), fun hx => ?_⟩ (by omega) (by omega)
          obtain ⟨w, w1, w2⟩ := hx
          exfalso
          by_cases hwi : w = i
          · subst hwi; exact h1 w2.2
          · exact hno w (by omega) w2
      · rw [if_pos (by rw [iL0, iN_le hse (by omega)]; omega)]
        refine ih (i + 1) n false ⟨fun hx => (by cases hx), fun hx => ?_⟩ (by omega) (by omega)
        obtain ⟨w, w1, w2⟩ := hx
        exfalso
        by_cases hwi : w = i
        · subst hwi; exact h0 w2.1
        · exact hno w (by omega) w2
theorem m_hasClosed (K : px_K) (N : Nat) (hN : 100 ≤ N) (hK : zKm K) (t : px_W) (s : px_S) (v : ZVs) (h : zRs s v) (hs : zSf v) (set : Nat) (hset : set < v.sets) : ∃ g : Bool, (g = true ↔ v.hasClosed set) ∧ f_M_hasClosed_28 K N (iN set) s t = some (.inl (some (.int (bN g))), s, t) := by
  have hw8 := hs.1.w8
  obtain ⟨g, g1, g2⟩ := m_hasClosed_loop K N hK t s v h hs set hset v.ways 0 N false ⟨fun hx => (by cases hx), fun hx => by obtain ⟨w, w1, _⟩ := hx; omega⟩ (by omega) (by omega)
  refine ⟨g, g1, ?_⟩
  unfold f_M_hasClosed_28
  have e1 : iN set * s.1 27 = iN (set * v.ways + 0) := by rw [h.2.1, iN_mul, Nat.add_zero]
  rw [e1]
  have e2 : (0 : Int32) = bN false := rfl
  have g2' : l_M_hasClosed_28_7 K N N (iN set) (0 : Int32) (iN (set * v.ways + 0)) s t = some (.inl (36, [bN g], s, t)) := g2
  rw [g2']
  unfold px_lp
  dsimp only
  rw [if_pos rfl]
  unfold px_v1
  dsimp only
  rw [px_gd_of (by cases g; exact Or.inl rfl; exact Or.inr rfl)]
/-- the slots are cleared -/
theorem m_ns_loop (K : px_K) (N : Nat) (hK : zKm K) (t : px_W) : ∀ (d i n : Nat) (s : px_S), i + d = 64 → d < n → ∃ s', zFs s s' ∧ l_M_noSlots_28_2 K N n (iN i) s t = some (.inl (22, [], s', t)) ∧ s'.2.2.1 38 = s.2.2.1 38 ∧ ∀ j, j < 64 → (j < i → s'.2.2.1 35 j = s.2.2.1 35 j ∧ s'.2.2.1 36 j = s.2.2.1 36 j ∧ s'.2.2.1 37 j = s.2.2.1 37 j) ∧ (i ≤ j → s'.2.2.1 35 j = -1 ∧ s'.2.2.1 36 j = 0 ∧ s'.2.2.1 37 j = 0) := by
  intro d
  induction d with
  | zero =>
    intro i n s hi hn
    obtain ⟨n, rfl⟩ : ∃ n', n = n' + 1 := ⟨n - 1, by omega⟩
    refine ⟨s, zFs_refl s, ?_, rfl, fun j hj => ⟨fun _ => ⟨rfl, rfl, rfl⟩, fun hx => by omega⟩⟩
    unfold l_M_noSlots_28_2
    rw [if_pos (by rw [iL64]; exact (iN_le (by omega) (by omega)).mpr (by omega))]
  | succ d ih =>
    intro i n s hi hn
    obtain ⟨n, rfl⟩ : ∃ n', n = n' + 1 := ⟨n - 1, by omega⟩
    have hi64 : i < 64 := by omega
    have e3 : iN i + (1 : Int32) = iN (i + 1) := by rw [iL1, iN_add]
    unfold l_M_noSlots_28_2
    rw [if_neg (by rw [iL64, iN_le (by omega) (by omega)]; omega), px_gd_of (by rw [hK.2.2.2.2.2.2.1]; exact iN_in (by omega) hi64), iN_nat (by omega)]
    unfold px_let
    dsimp only
    rw [px_gd_of (by rw [hK.2.2.2.2.2.2.2.1]; exact iN_in (by omega) hi64), px_gd_of (by rw [hK.2.2.2.2.2.2.2.2.1]; exact iN_in (by omega) hi64), e3]
    obtain ⟨u, hu⟩ : ∃ u, u = sA (sA (sA s 35 i (-1 : Int32)) 36 i (0 : Int32)) 37 i (0 : Int32) := ⟨_, rfl⟩
    rw [← hu]
    have fu : zFs s u := by rw [hu]; exact zFs_trans (zFs_trans (zFs_sA (by omega)) (zFs_sA (by omega))) (zFs_sA (by omega))
    have u35 : ∀ j, u.2.2.1 35 j = if j = i then -1 else s.2.2.1 35 j := fun j => by rw [hu, sA_eq, sF_arr_ne (by omega), sA_eq, sF_arr_ne (by omega), sA_eq, sF_arr]; rfl
    have u36 : ∀ j, u.2.2.1 36 j = if j = i then 0 else s.2.2.1 36 j := fun j => by rw [hu, sA_eq, sF_arr_ne (by omega), sA_eq, sF_arr, sA_eq, sF_arr_ne (by omega)]; rfl
    have u37 : ∀ j, u.2.2.1 37 j = if j = i then 0 else s.2.2.1 37 j := fun j => by rw [hu, sA_eq, sF_arr, sA_eq, sF_arr_ne (by omega), sA_eq, sF_arr_ne (by omega)]; rfl
    have u38 : u.2.2.1 38 = s.2.2.1 38 := by rw [hu, sA_eq, sF_arr_ne (by omega), sA_eq, sF_arr_ne (by omega), sA_eq, sF_arr_ne (by omega)]
    obtain ⟨s', f1, f2, f3, f4⟩ := ih (i + 1) n u (by omega) (by omega)
    refine ⟨s', zFs_trans fu f1, f2, f3.trans u38, fun j hj => ⟨fun hji => ?_, fun hij => ?_⟩⟩
    · have := (f4 j hj).1 (by omega)
      rw [u35, u36, u37, if_neg (by omega), if_neg (by omega), if_neg (by omega)] at this
      exact this
    · by_cases hx : j = i
      · have := (f4 j hj).1 (by omega)
        rw [u35, u36, u37, if_pos hx, if_pos hx, if_pos hx] at this
        exact this
      · exact (f4 j hj).2 (by omega)
theorem m_ns2_loop (K : px_K) (N : Nat) (hK : zKm K) (t : px_W) : ∀ (d i n : Nat) (s : px_S), i + d = 8 → d < n → ∃ s', zFs s s' ∧ l_M_noSlots_28_24 K N n (iN i) s t = some (.inl (34, [], s', t)) ∧ s'.2.2.1 35 = s.2.2.1 35 ∧ s'.2.2.1 36 = s.2.2.1 36 ∧ s'.2.2.1 37 = s.2.2.1 37 ∧ ∀ j, j < 8 → (j < i → s'.2.2.1 38 j = s.2.2.1 38 j) ∧ (i ≤ j → s'.2.2.1 38 j = 0) := by
  intro d
  induction d with
  | zero =>
    intro i n s hi hn
    obtain ⟨n, rfl⟩ : ∃ n', n = n' + 1 := ⟨n - 1, by omega⟩
    refine ⟨s, zFs_refl s, ?_, rfl, rfl, rfl, fun j hj => ⟨fun _ => rfl, fun hx => by omega⟩⟩
    unfold l_M_noSlots_28_24
    have e8 : (8 : Int32) = iN 8 := rfl
    rw [if_pos (by rw [e8]; exact (iN_le (by omega) (by omega)).mpr (by omega))]
  | succ d ih =>
    intro i n s hi hn
    obtain ⟨n, rfl⟩ : ∃ n', n = n' + 1 := ⟨n - 1, by omega⟩
    have e3 : iN i + (1 : Int32) = iN (i + 1) := by rw [iL1, iN_add]
    have e8 : (8 : Int32) = iN 8 := rfl
    unfold l_M_noSlots_28_24
    rw [if_neg (by rw [e8, iN_le (by omega) (by omega)]; omega), px_gd_of (by rw [hK.2.2.2.2.2.2.2.2.2.1]; exact iN_in (by omega) (by omega)), iN_nat (by omega)]
    unfold px_let
    dsimp only
    rw [e3]
    obtain ⟨s', f1, f2, f3, f4, f5, f6⟩ := ih (i + 1) n (sA s 38 i (0 : Int32)) (by omega) (by omega)
    have u38 : ∀ j, (sA s 38 i (0 : Int32)).2.2.1 38 j = if j = i then 0 else s.2.2.1 38 j := fun j => by rw [sA_eq, sF_arr]; rfl
    refine ⟨s', zFs_trans (zFs_sA (by omega)) f1, f2, by rw [f3, sA_eq, sF_arr_ne (by omega)], by rw [f4, sA_eq, sF_arr_ne (by omega)], by rw [f5, sA_eq, sF_arr_ne (by omega)], fun j hj => ⟨fun hji => ?_, fun hij => ?_⟩⟩
    · have := (f6 j hj).1 (by omega)
      rw [u38, if_neg (by omega)] at this; exact this
    · by_cases hx : j = i
      · have := (f6 j hj).1 (by omega)
        rw [u38, if_pos hx] at this; exact this
      · exact (f6 j hj).2 (by omega)
theorem m_noSlots (K : px_K) (N : Nat) (hN : 100 ≤ N) (hK : zKm K) (t : px_W) (s : px_S) (v : ZVs) (h : s.1 26 = iN v.sets ∧ s.1 27 = iN v.ways ∧ s.1 28 = iN v.eps ∧ s.1 31 = (if v.wf = true then 1 else 0) ∧ s.1 32 = iN v.opn ∧ s.1 33 = iN v.half ∧ s.1 34 = iN v.gen ∧ s.1 35 = iN v.plc) : ∃ s', zFs s s' ∧ f_M_noSlots_28 K N s t = some (.inl none, s', t) ∧ zRs s' v.noSlots := by
  obtain ⟨s1, a1, a2, a3, a4⟩ := m_ns_loop K N hK t 64 0 N s (by omega) (by omega)
  obtain ⟨s2, b1, b2, b3, b4, b5, b6⟩ := m_ns2_loop K N hK t 8 0 N s1 (by omega) (by omega)
  have hf := zFs_trans a1 b1
  refine ⟨s2, hf, ?_, ?_⟩
  · unfold f_M_noSlots_28
    rw [iL0, a2]
    unfold px_lp
    dsimp only
    rw [if_pos rfl]
    unfold px_v0
    dsimp only
    rw [b2]
    rfl
  · obtain ⟨r1, r2, r3, r4, r5, r6, r7, r8⟩ := h
    have hi : s2.1 = s.1 := hf.2.1
    refine ⟨by rw [hi]; exact r1, by rw [hi]; exact r2, by rw [hi]; exact r3, by rw [hi]; exact r4, by rw [hi]; exact r5, by rw [hi]; exact r6, by rw [hi]; exact r7, by rw [hi]; exact r8, fun j hj => ?_, fun j hj => (b6 j hj).2 (by omega)⟩
    rw [b3, b4, b5]
    have := (a4 j hj).2 (by omega)
    exact ⟨this.1, this.2.1, this.2.2⟩
