/-! THE REFERENCE: closed epochs in a set; no slots -/
def bN (f : Bool) : Int32 := if f = true then 1 else 0
theorem m_hasClosed_loop (K : px_K) (N : Nat) (hK : zKm K) (t : px_W) (s : px_S) (v : ZVs) (h : zRs s v) (hs : zSf v) (set : Nat) (hset : set < v.sets) : ∀ (d i n : Nat) (f : Bool), (f = true ↔ ∃ w, w < i ∧ 0 < v.se (set * v.ways + w) ∧ v.se (set * v.ways + w) < v.opn) → i + d = v.ways → d < n → ∃ g : Bool, (g = true ↔ v.hasClosed set) ∧ l_M_hasClosed_28_7 K N n (iN set) (bN f) (iN (set * v.ways + i)) s t = some (.inl (36, [bN g], s, t)) := by
  obtain ⟨r1, r2, r3, r4, r5, r6, r7, r8, r9, r10⟩ := h
  obtain ⟨hz, hsl, ho⟩ := hs
  have hn64 : v.sets * v.ways ≤ 64 := hz.n64
  have hw8 := hz.w8
  have hlast : set * v.ways + v.ways ≤ 64 := by
    have : (set + 1) * v.ways ≤ v.sets * v.ways := Nat.mul_le_mul_right _ hset
    rw [Nat.add_mul] at this; omega
  have en : iN set * s.1 27 + s.1 27 = iN (set * v.ways + v.ways) := by rw [r2, iN_mul, iN_add]
  intro d
  induction d with
  | zero =>
    intro i n f hf hi hn
    obtain ⟨n, rfl⟩ : ∃ n', n = n' + 1 := ⟨n - 1, by omega⟩
    have hi : i = v.ways := by omega
    subst hi
    refine ⟨f, hf, ?_⟩
    unfold l_M_hasClosed_28_7
    rw [en, if_pos ((iN_le (by omega) (by omega)).mpr (Nat.le_refl _))]
  | succ d ih =>
    intro i n f hf hi hn
    obtain ⟨n, rfl⟩ : ∃ n', n = n' + 1 := ⟨n - 1, by omega⟩
    have hi64 : set * v.ways + i < 64 := by omega
    have q2 := (r9 (set * v.ways + i) hi64).2.1
    have hse := (hsl (set * v.ways + i) hi64).2
    have e3 : iN (set * v.ways + i) + (1 : Int32) = iN (set * v.ways + (i + 1)) := by rw [iL1, iN_add]; rfl
    unfold l_M_hasClosed_28_7
    rw [en, if_neg (by rw [iN_le (by omega) (by omega)]; omega), e3]
    cases f with
    | true =>
      rw [if_pos (by show ¬ (1 : Int32) = 0; decide)]
      refine ih (i + 1) n true ⟨fun _ => ?_, fun _ => rfl⟩ (by omega) (by omega)
      obtain ⟨w, w1, w2⟩ := hf.mp rfl
      exact ⟨w, by omega, w2⟩
    | false =>
      rw [if_neg (by show ¬ ¬ (0 : Int32) = 0; exact fun hx => hx rfl), px_gd_of (by rw [hK.2.2.2.2.2.2.2.1]; exact iN_in (by omega) hi64), iN_nat (by omega), q2]
      have hno : ∀ w, w < i → ¬ (0 < v.se (set * v.ways + w) ∧ v.se (set * v.ways + w) < v.opn) := fun w hw hx => by
        have := hf.mpr ⟨w, hw, hx⟩; cases this
      by_cases h0 : 0 < v.se (set * v.ways + i)
      · rw [if_neg (by rw [iL0, iN_le hse (by omega)]; omega), px_gd_of (by rw [hK.2.2.2.2.2.2.2.1]; exact iN_in (by omega) hi64)]
        unfold px_let
        dsimp only
        rw [r5]
        by_cases h1 : v.se (set * v.ways + i) < v.opn
        · rw [if_neg (by rw [iN_le ho hse]; omega)]
          exact ih (i + 1) n true ⟨fun _ => ⟨i, by omega, h0, h1⟩, fun _ => rfl⟩ (by omega) (by omega)
        · rw [if_pos (by rw [iN_le ho hse]; omega)]
          refine ih (i + 1) n false ⟨fun hx => (by cases hx), fun hx => ?_⟩ (by omega) (by omega)
          obtain ⟨w, w1, w2⟩ := hx
          exfalso
          by_cases hwi : w = i
          · subst hwi; exact h1 w2.2
          · exact hno w (by omega) w2
      · rw [if_pos (by rw [iL0, iN_le hse (by omega)]; omega)]
        refine ih (i + 1) n false ⟨fun hx => (by cases hx), fun hx => ?_⟩ (by omega) (by omega)
        obtain ⟨w, w1, w2⟩ := hx
        exfalso
        by_cases hwi : w = i
        · subst hwi; exact h0 w2.1
        · exact hno w (by omega) w2
theorem m_hasClosed (K : px_K) (N : Nat) (hN : 100 ≤ N) (hK : zKm K) (t : px_W) (s : px_S) (v : ZVs) (h : zRs s v) (hs : zSf v) (set : Nat) (hset : set < v.sets) : ∃ g : Bool, (g = true ↔ v.hasClosed set) ∧ f_M_hasClosed_28 K N (iN set) s t = some (.inl (some (.int (bN g))), s, t) := by
  have hw8 := hs.1.w8
  obtain ⟨g, g1, g2⟩ := m_hasClosed_loop K N hK t s v h hs set hset v.ways 0 N false ⟨fun hx => (by cases hx), fun hx => by obtain ⟨w, w1, _⟩ := hx; omega⟩ (by omega) (by omega)
  refine ⟨g, g1, ?_⟩
  unfold f_M_hasClosed_28
  have e1 : iN set * s.1 27 = iN (set * v.ways + 0) := by rw [h.2.1, iN_mul, Nat.add_zero]
  rw [e1]
  have e2 : (0 : Int32) = bN false := rfl
  have g2' : l_M_hasClosed_28_7 K N N (iN set) (0 : Int32) (iN (set * v.ways + 0)) s t = some (.inl (36, [bN g], s, t)) := g2
  rw [g2']
  unfold px_lp
  dsimp only
  rw [if_pos rfl]
  unfold px_v1
  dsimp only
  rw [px_gd_of (by cases g; exact Or.inl rfl; exact Or.inr rfl)]
/-- the slots are cleared -/
theorem m_ns_loop (K : px_K) (N : Nat) (hK : zKm K) (t : px_W) : ∀ (d i n : Nat) (s : px_S), i + d = 64 → d < n → ∃ s', zFs s s' ∧ l_M_noSlots_28_2 K N n (iN i) s t = some (.inl (22, [], s', t)) ∧ s'.2.2.1 38 = s.2.2.1 38 ∧ ∀ j, j < 64 → (j < i → s'.2.2.1 35 j = s.2.2.1 35 j ∧ s'.2.2.1 36 j = s.2.2.1 36 j ∧ s'.2.2.1 37 j = s.2.2.1 37 j) ∧ (i ≤ j → s'.2.2.1 35 j = -1 ∧ s'.2.2.1 36 j = 0 ∧ s'.2.2.1 37 j = 0) := by
  intro d
  induction d with
  | zero =>
    intro i n s hi hn
    obtain ⟨n, rfl⟩ : ∃ n', n = n' + 1 := ⟨n - 1, by omega⟩
    refine ⟨s, zFs_refl s, ?_, rfl, fun j hj => ⟨fun _ => ⟨rfl, rfl, rfl⟩, fun hx => by omega⟩⟩
    unfold l_M_noSlots_28_2
    rw [if_pos (by rw [iL64]; exact (iN_le (by omega) (by omega)).mpr (by omega))]
  | succ d ih =>
    intro i n s hi hn
    obtain ⟨n, rfl⟩ : ∃ n', n = n' + 1 := ⟨n - 1, by omega⟩
    have hi64 : i < 64 := by omega
    have e3 : iN i + (1 : Int32) = iN (i + 1) := by rw [iL1, iN_add]
    unfold l_M_noSlots_28_2
    rw [if_neg (by rw [iL64, iN_le (by omega) (by omega)]; omega), px_gd_of (by rw [hK.2.2.2.2.2.2.1]; exact iN_in (by omega) hi64), iN_nat (by omega)]
    unfold px_let
    dsimp only
    rw [px_gd_of (by rw [hK.2.2.2.2.2.2.2.1]; exact iN_in (by omega) hi64), px_gd_of (by rw [hK.2.2.2.2.2.2.2.2.1]; exact iN_in (by omega) hi64), e3]
    obtain ⟨u, hu⟩ : ∃ u, u = sA (sA (sA s 35 i (-1 : Int32)) 36 i (0 : Int32)) 37 i (0 : Int32) := ⟨_, rfl⟩
    rw [← hu]
    have fu : zFs s u := by rw [hu]; exact zFs_trans (zFs_trans (zFs_sA (by omega)) (zFs_sA (by omega))) (zFs_sA (by omega))
    have u35 : ∀ j, u.2.2.1 35 j = if j = i then -1 else s.2.2.1 35 j := fun j => by rw [hu, sA_eq, sF_arr_ne (by omega), sA_eq, sF_arr_ne (by omega), sA_eq, sF_arr]; rfl
    have u36 : ∀ j, u.2.2.1 36 j = if j = i then 0 else s.2.2.1 36 j := fun j => by rw [hu, sA_eq, sF_arr_ne (by omega), sA_eq, sF_arr, sA_eq, sF_arr_ne (by omega)]; rfl
    have u37 : ∀ j, u.2.2.1 37 j = if j = i then 0 else s.2.2.1 37 j := fun j => by rw [hu, sA_eq, sF_arr, sA_eq, sF_arr_ne (by omega), sA_eq, sF_arr_ne (by omega)]; rfl
    have u38 : u.2.2.1 38 = s.2.2.1 38 := by rw [hu, sA_eq, sF_arr_ne (by omega), sA_eq, sF_arr_ne (by omega), sA_eq, sF_arr_ne (by omega)]
    obtain ⟨s', f1, f2, f3, f4⟩ := ih (i + 1) n u (by omega) (by omega)
    refine ⟨s', zFs_trans fu f1, f2, f3.trans u38, fun j hj => ⟨fun hji => ?_, fun hij => ?_⟩⟩
    · have := (f4 j hj).1 (by omega)
      rw [u35, u36, u37, if_neg (by omega), if_neg (by omega), if_neg (by omega)] at this
      exact this
    · by_cases hx : j = i
      · have := (f4 j hj).1 (by omega)
        rw [u35, u36, u37, if_pos hx, if_pos hx, if_pos hx] at this
        exact this
      · exact (f4 j hj).2 (by omega)
theorem m_ns2_loop (K : px_K) (N : Nat) (hK : zKm K) (t : px_W) : ∀ (d i n : Nat) (s : px_S), i + d = 8 → d < n → ∃ s', zFs s s' ∧ l_M_noSlots_28_24 K N n (iN i) s t = some (.inl (34, [], s', t)) ∧ s'.2.2.1 35 = s.2.2.1 35 ∧ s'.2.2.1 36 = s.2.2.1 36 ∧ s'.2.2.1 37 = s.2.2.1 37 ∧ ∀ j, j < 8 → (j < i → s'.2.2.1 38 j = s.2.2.1 38 j) ∧ (i ≤ j → s'.2.2.1 38 j = 0) := by
  intro d
  induction d with
  | zero =>
    intro i n s hi hn
    obtain ⟨n, rfl⟩ : ∃ n', n = n' + 1 := ⟨n - 1, by omega⟩
    refine ⟨s, zFs_refl s, ?_, rfl, rfl, rfl, fun j hj => ⟨fun _ => rfl, fun hx => by omega⟩⟩
    unfold l_M_noSlots_28_24
    have e8 : (8 : Int32) = iN 8 := rfl
    rw [if_pos (by rw [e8]; exact (iN_le (by omega) (by omega)).mpr (by omega))]
  | succ d ih =>
    intro i n s hi hn
    obtain ⟨n, rfl⟩ : ∃ n', n = n' + 1 := ⟨n - 1, by omega⟩
    have e3 : iN i + (1 : Int32) = iN (i + 1) := by rw [iL1, iN_add]
    have e8 : (8 : Int32) = iN 8 := rfl
    unfold l_M_noSlots_28_24
    rw [if_neg (by rw [e8, iN_le (by omega) (by omega)]; omega), px_gd_of (by rw [hK.2.2.2.2.2.2.2.2.2.1]; exact iN_in (by omega) (by omega)), iN_nat (by omega)]
    unfold px_let
    dsimp only
    rw [e3]
    obtain ⟨s', f1, f2, f3, f4, f5, f6⟩ := ih (i + 1) n (sA s 38 i (0 : Int32)) (by omega) (by omega)
    have u38 : ∀ j, (sA s 38 i (0 : Int32)).2.2.1 38 j = if j = i then 0 else s.2.2.1 38 j := fun j => by rw [sA_eq, sF_arr]; rfl
    refine ⟨s', zFs_trans (zFs_sA (by omega)) f1, f2, by rw [f3, sA_eq, sF_arr_ne (by omega)], by rw [f4, sA_eq, sF_arr_ne (by omega)], by rw [f5, sA_eq, sF_arr_ne (by omega)], fun j hj => ⟨fun hji => ?_, fun hij => ?_⟩⟩
    · have := (f6 j hj).1 (by omega)
      rw [u38, if_neg (by omega)] at this; exact this
    · by_cases hx : j = i
      · have := (f6 j hj).1 (by omega)
        rw [u38, if_pos hx] at this; exact this
      · exact (f6 j hj).2 (by omega)
theorem m_noSlots (K : px_K) (N : Nat) (hN : 100 ≤ N) (hK : zKm K) (t : px_W) (s : px_S) (v : ZVs) (h : s.1 26 = iN v.sets ∧ s.1 27 = iN v.ways ∧ s.1 28 = iN v.eps ∧ s.1 31 = (if v.wf = true then 1 else 0) ∧ s.1 32 = iN v.opn ∧ s.1 33 = iN v.half ∧ s.1 34 = iN v.gen ∧ s.1 35 = iN v.plc) : ∃ s', zFs s s' ∧ f_M_noSlots_28 K N s t = some (.inl none, s', t) ∧ zRs s' v.noSlots := by
  obtain ⟨s1, a1, a2, a3, a4⟩ := m_ns_loop K N hK t 64 0 N s (by omega) (by omega)
  obtain ⟨s2, b1, b2, b3, b4, b5, b6⟩ := m_ns2_loop K N hK t 8 0 N s1 (by omega) (by omega)
  have hf := zFs_trans a1 b1
  refine ⟨s2, hf, ?_, ?_⟩
  · unfold f_M_noSlots_28
    rw [iL0, a2]
    unfold px_lp
    dsimp only
    rw [if_pos rfl]
    unfold px_v0
    dsimp only
    rw [b2]
    rfl
  · obtain ⟨r1, r2, r3, r4, r5, r6, r7, r8⟩ := h
    have hi : s2.1 = s.1 := hf.2.1
    refine ⟨by rw [hi]; exact r1, by rw [hi]; exact r2, by rw [hi]; exact r3, by rw [hi]; exact r4, by rw [hi]; exact r5, by rw [hi]; exact r6, by rw [hi]; exact r7, by rw [hi]; exact r8, fun j hj => ?_, fun j hj => (b6 j hj).2 (by omega)⟩
    rw [b3, b4, b5]
    have := (a4 j hj).2 (by omega)
    exact ⟨this.1, this.2.1, this.2.2⟩
/-! RECORDS OF THE REFERENCE: the next slot of an epoch; the pairs of a record -/
theorem m_skip (K : px_K) (N : Nat) (hK : zKm K) (t : px_W) (s : px_S) (v : ZVs) (h : zRs s v) (hs : zSf v) (e x : Nat) (he : e < 2147483648) (hx : x < 64) (hex : v.se x = e) (u2 u3 u4 u6 u7 u8 : Int32) : ∀ (d m n : Nat), m + d = x → (∀ j, m ≤ j → j < x → v.se j ≠ e) → d < n → l_M_records_28_73 K N n (iN e) u2 u3 u4 u6 u7 u8 (iN m) s t = some (.inl (81, [iN x], s, t)) := by
  obtain ⟨r1, r2, r3, r4, r5, r6, r7, r8, r9, r10⟩ := h
  intro d
  induction d with
  | zero =>
    intro m n hm _ hn
    obtain ⟨n, rfl⟩ : ∃ n', n = n' + 1 := ⟨n - 1, by omega⟩
    have hm : m = x := by omega
    subst hm
    unfold l_M_records_28_73
    rw [px_gd_of (by rw [hK.2.2.2.2.2.2.2.1]; exact iN_in (by omega) hx), iN_nat (by omega), (r9 m hx).2.1, if_pos (by rw [hex])]
  | succ d ih =>
    intro m n hm hno hn
    obtain ⟨n, rfl⟩ : ∃ n', n = n' + 1 := ⟨n - 1, by omega⟩
    have e3 : iN m + (1 : Int32) = iN (m + 1) := by rw [iL1, iN_add]
    have hse := (hs.2.1 m (by omega)).2
    unfold l_M_records_28_73
    rw [px_gd_of (by rw [hK.2.2.2.2.2.2.2.1]; exact iN_in (by omega) (by omega)), iN_nat (by omega), (r9 m (by omega)).2.1, if_neg (by rw [iN_eq hse he]; exact hno m (Nat.le_refl _) (by omega)), e3]
    exact ih (m + 1) n (by omega) (fun j j1 j2 => hno j (by omega) j2) (by omega)
/-- a list of an epoch's slots that rises, all of them from a slot on -/
def zUpw (v : ZVs) (e m : Nat) : List Nat → Prop
  | [] => True
  | x :: l => m ≤ x ∧ x < 64 ∧ v.se x = e ∧ 1 ≤ v.sb x ∧ (∀ j, m ≤ j → j < x → v.se j ≠ e) ∧ zUpw v e (x + 1) l
/-- the slot behind a list's last -/
def zEnd (m : Nat) : List Nat → Nat
  | [] => m
  | x :: l => zEnd (x + 1) l
/-- the words of a row once the pairs from the j-th on are laid down -/
def zFill (sb : Nat → Nat) : Nat → List Nat → (Nat → Int32) → Nat → Int32
  | _, [], g => g
  | j, x :: l, g => zFill sb (j + 1) l (upd (upd g (4 + 2 * j) (iN x)) (5 + 2 * j) (iN (sb x - 1)))
theorem zRs_row {s : px_S} {v : ZVs} (h : zRs s v) {c : Nat} {g : Nat → Int32} (hc : c < 35 ∨ 38 < c) : zRs (sF s c g) v := by
  obtain ⟨r1, r2, r3, r4, r5, r6, r7, r8, r9, r10⟩ := h
  refine ⟨r1, r2, r3, r4, r5, r6, r7, r8, fun i hi => ?_, fun q hq => ?_⟩
  · rw [sF_arr_ne (by omega), sF_arr_ne (by omega), sF_arr_ne (by omega)]; exact r9 i hi
  · rw [sF_arr_ne (by omega)]; exact r10 q hq
theorem m_fill (K : px_K) (N : Nat) (hN : 100 ≤ N) (hK : zKm K) (t : px_W) (v : ZVs) (hs : zSf v) (e : Nat) (he : e < 2147483648) (u2 u3 u4 u7 : Int32) (c : Nat) (hc : c ≤ 6) : ∀ (l : List Nat) (j m n : Nat) (s : px_S), zRs s v → zUpw v e m l → j + l.length = c → l.length < n → l_M_records_28_70 K N n (iN e) u2 u3 u4 (iN c) u7 (iN m) (iN j) s t = some (.inl (105, [iN (zEnd m l)], sF s 43 (zFill v.sb j l (s.2.2.1 43)), t)) := by
  intro l
  induction l with
  | nil =>
    intro j m n s h _ hj hn
    obtain ⟨n, rfl⟩ : ∃ n', n = n' + 1 := ⟨n - 1, by omega⟩
    have hj : j = c := hj
    unfold l_M_records_28_70
    rw [if_pos ((iN_le (by omega) (by omega)).mpr (by omega))]
    have e0 : zFill v.sb j [] (s.2.2.1 43) = s.2.2.1 43 := rfl
    rw [e0, sF_triv]
    rfl
  | cons x l ih =>
    intro j m n s h hu hj hn
    rw [List.length_cons] at hj hn
    obtain ⟨n, rfl⟩ : ∃ n', n = n' + 1 := ⟨n - 1, by omega⟩
    obtain ⟨x1, x2, x3, x4, x5, x6⟩ := hu
    have e4 : (4 : Int32) + (2 : Int32) * iN j = iN (4 + 2 * j) := by
      have : (4 : Int32) = iN 4 := rfl
      rw [this, iL2, iN_mul, iN_add]
    have e5 : (5 : Int32) + (2 : Int32) * iN j = iN (5 + 2 * j) := by
      have : (5 : Int32) = iN 5 := rfl
      rw [this, iL2, iN_mul, iN_add]
    have e1 : iN x + (1 : Int32) = iN (x + 1) := by rw [iL1, iN_add]
    have ej : iN j + (1 : Int32) = iN (j + 1) := by rw [iL1, iN_add]
    have hK43 : K.2.2 43 = 16 := hK.2.2.2.2.2.2.2.2.2.2.2.2.2.2.1
    unfold l_M_records_28_70
    rw [if_neg (by rw [iN_le (by omega) (by omega)]; omega), m_skip K N hK t s v h hs e x he x2 x3 _ _ _ _ _ _ (x - m) m N (by omega) x5 (by omega)]
    unfold px_lp
    dsimp only
    rw [if_pos rfl]
    unfold px_v1
    dsimp only
    rw [e4, e5, px_gd_of (by rw [hK43]; exact iN_in (by omega) (by omega)), iN_nat (by omega)]
    unfold px_let
    dsimp only
    rw [px_gd_of ⟨by rw [hK.2.2.2.2.2.2.1]; exact iN_in (by omega) x2, by rw [hK43]; exact iN_in (by omega) (by omega)⟩, iN_nat (by omega), iN_nat (by omega)]
    have e35 : (sA s 43 (4 + 2 * j) (iN x)).2.2.1 35 x = iN (v.sb x - 1) := by
      rw [sA_eq, sF_arr_ne (by omega), (h.2.2.2.2.2.2.2.2.1 x x2).1, iL1, iN_sub x4]
    rw [e35, e1, ej]
    have es : sA (sA s 43 (4 + 2 * j) (iN x)) 43 (5 + 2 * j) (iN (v.sb x - 1)) = sF s 43 (upd (upd (s.2.2.1 43) (4 + 2 * j) (iN x)) (5 + 2 * j) (iN (v.sb x - 1))) := by
      rw [sA_eq s, sA_sF]
    rw [es]
    have := ih (j + 1) (x + 1) n (sF s 43 (upd (upd (s.2.2.1 43) (4 + 2 * j) (iN x)) (5 + 2 * j) (iN (v.sb x - 1)))) (zRs_row h (by omega)) x6 (by omega) (by omega)
    rw [this, sF_sF, sF_arr]
    rfl
theorem zFill_out (sb : Nat → Nat) : ∀ (l : List Nat) (j : Nat) (g : Nat → Int32) (w : Nat), w < 4 + 2 * j ∨ 4 + 2 * (j + l.length) ≤ w → zFill sb j l g w = g w := by
  intro l
  induction l with
  | nil => intro j g w _; rfl
  | cons x l ih =>
    intro j g w hw
    rw [List.length_cons] at hw
    show zFill sb (j + 1) l _ w = g w
    rw [ih (j + 1) _ w (by omega)]
    unfold upd
    rw [if_neg (by omega), if_neg (by omega)]
theorem zFill_at (sb : Nat → Nat) : ∀ (l : List Nat) (j : Nat) (g : Nat → Int32) (i : Nat), i < l.length → zFill sb j l g (4 + 2 * (j + i)) = iN (l.getD i 0) ∧ zFill sb j l g (5 + 2 * (j + i)) = iN (sb (l.getD i 0) - 1) := by
  intro l
  induction l with
  | nil => intro j g i hi; exact absurd hi (Nat.not_lt_zero _)
  | cons x l ih =>
    intro j g i hi
    rw [List.length_cons] at hi
    show zFill sb (j + 1) l _ (4 + 2 * (j + i)) = _ ∧ zFill sb (j + 1) l _ (5 + 2 * (j + i)) = _
    cases i with
    | zero =>
      rw [zFill_out _ _ _ _ _ (by omega), zFill_out _ _ _ _ _ (by omega)]
      unfold upd
      refine ⟨?_, ?_⟩
      · rw [if_neg (by omega), if_pos (by omega)]; rfl
      · rw [if_pos (by omega)]; rfl
    | succ i =>
      have e1 : j + (i + 1) = j + 1 + i := by omega
      rw [e1]
      exact ih (j + 1) _ i (by omega)
theorem m_rz_loop (K : px_K) (N : Nat) (hK : zKm K) (u1 u2 u3 u4 u5 u6 u7 : Int32) (s : px_S) (t : px_W) : ∀ (d m n : Nat), m + d = 16 → 4 ≤ m → d < n → l_M_records_28_33 K N n u1 u2 u3 u4 u5 u6 u7 (iN m) (sF s 43 (fun a => if 4 ≤ a ∧ a < m then 0 else s.2.2.1 43 a)) t = some (.inl (43, [], sF s 43 (fun a => if 4 ≤ a ∧ a < 16 then 0 else s.2.2.1 43 a), t)) := by
  have hX : K.2.2 43 = 16 := hK.2.2.2.2.2.2.2.2.2.2.2.2.2.2.1
  intro d
  induction d with
  | zero =>
    intro m n hm _ hn
    obtain ⟨n, rfl⟩ : ∃ n', n = n' + 1 := ⟨n - 1, by omega⟩
    have hm : m = 16 := by omega
    subst hm
    unfold l_M_records_28_33
    rw [if_pos (by rw [iL16]; exact (iN_le (by omega) (by omega)).mpr (by omega))]
  | succ d ih =>
    intro m n hm h4 hn
    obtain ⟨n, rfl⟩ : ∃ n', n = n' + 1 := ⟨n - 1, by omega⟩
    have e3 : iN m + (1 : Int32) = iN (m + 1) := by rw [iL1, iN_add]
    unfold l_M_records_28_33
    rw [if_neg (by rw [iL16, iN_le (by omega) (by omega)]; omega), px_gd_of (by rw [hX]; exact iN_in (by omega) (by omega)), iN_nat (by omega)]
    unfold px_let
    rw [e3, sA_sF]
    have e4 : upd (fun a => if 4 ≤ a ∧ a < m then 0 else s.2.2.1 43 a) m (0 : Int32) = fun a => if 4 ≤ a ∧ a < m + 1 then 0 else s.2.2.1 43 a := by
      funext a
      unfold upd
      by_cases h1 : a = m
      · rw [if_pos h1, if_pos (by omega)]
      · rw [if_neg h1]
        dsimp only
        by_cases h2 : 4 ≤ a ∧ a < m
        · rw [if_pos h2, if_pos (by omega)]
        · rw [if_neg h2, if_neg (by omega)]
    rw [e4]
    exact ih (m + 1) n (by omega) (by omega) (by omega)
/-- the whole row of a record -/
theorem zRec_row (g e : Nat) (last : Bool) (l : List Nat) (sb : Nat → Nat) (hl : l.length ≤ 6) (f : Nat → Int32) (w : Nat) (hw : w < 16) : zFill sb 0 l (upd (upd (upd (upd (fun a => if 4 ≤ a ∧ a < 16 then 0 else f a) 0 (iN g)) 1 (iN e)) 2 (if last = true then 1 else 0)) 3 (iN l.length)) w = zRec g e last l sb w := by
  by_cases h4 : w < 4
  · rw [zFill_out _ _ _ _ _ (by omega)]
    have : w = 0 ∨ w = 1 ∨ w = 2 ∨ w = 3 := by omega
    rcases this with rfl | rfl | rfl | rfl
    · rfl
    · rfl
    · rfl
    · rfl
  · by_cases hin : w < 4 + 2 * l.length
    · obtain ⟨i, hi⟩ : ∃ i, i = (w - 4) / 2 := ⟨_, rfl⟩
      have hil : i < l.length := by omega
      have hfa := zFill_at sb l 0 (upd (upd (upd (upd (fun a => if 4 ≤ a ∧ a < 16 then 0 else f a) 0 (iN g)) 1 (iN e)) 2 (if last = true then 1 else 0)) 3 (iN l.length)) i hil
      have hg : l.getD i 0 = l[i] := by rw [List.getD_eq_getElem?_getD, List.getElem?_eq_getElem hil]; rfl
      rw [Nat.zero_add, hg] at hfa
      by_cases hev : w % 2 = 0
      · have e : w = 4 + 2 * i := by omega
        rw [e, zRec_slot hil]; exact hfa.1
      · have e : w = 5 + 2 * i := by omega
        rw [e, zRec_blk hil]; exact hfa.2
    · rw [zFill_out _ _ _ _ _ (by omega)]
      have hz : zRec g e last l sb w = 0 := by
        unfold zRec
        rw [if_neg (by omega), if_neg (by omega), if_neg (by omega), if_neg (by omega), List.getElem?_eq_none (by omega)]
      rw [hz]
      unfold upd
      rw [if_neg (by omega), if_neg (by omega), if_neg (by omega), if_neg (by omega)]
      dsimp only
      rw [if_pos (show 4 ≤ w ∧ w < 16 by omega)]
