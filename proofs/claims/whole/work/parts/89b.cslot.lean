/-! THE CLASS: its slots -/
def zKnd (b e : Nat) : Int32 := if b = 0 then 0 else if e = 0 then 1 else 2
def zC1 (s : px_S) (v : ZVs) (i : Nat) : Prop := s.2.2.1 15 i = zKnd (v.sb i) (v.se i) ∧ s.2.2.1 16 i = iN (v.sb i - 1) ∧ s.2.2.1 17 i = iN (v.se i) ∧ s.2.2.1 18 i = bN (v.mrk i)
def zCk (s : px_S) (v : ZVs) : Prop := ∀ i, i < v.n → zC1 s v i
def zCz (s : px_S) (v : ZVs) : Prop := s.1 11 = iN v.eps ∧ s.1 12 = bN v.wf ∧ s.1 18 = iN v.sets ∧ s.1 19 = iN v.ways ∧ s.1 20 = iN v.n
def zCy (s : px_S) (v : ZVs) : Prop := ∀ k, k < v.sets → s.2.2.1 19 k = iN (v.hd k)
/-- the slots as they should be -/
def zSw (v : ZVs) : Prop := ZSz v.sets v.ways v.eps ∧ v.opn < 2147483648 ∧ (∀ i, i < v.n → v.sb i = 0 → v.se i = 0) ∧ (∀ i, i < v.n → v.se i ≤ v.opn) ∧ (∀ i, i < v.n → v.sb i ≠ 0 → v.sb i ≤ 106 ∧ i / v.ways = (v.sb i - 1) % v.sets) ∧ (∀ i j, i < v.n → j < v.n → v.sb i ≠ 0 → v.sb i = v.sb j → v.se i = v.se j ∨ v.se i = 0 → i = j) ∧ (∀ set, v.hd set < v.ways)
/-- as much of it as the search wants -/
def zSx (v : ZVs) : Prop := ZSz v.sets v.ways v.eps ∧ v.opn < 2147483648 ∧ (∀ i, i < v.n → v.se i ≤ v.opn) ∧ (∀ i, i < v.n → v.sb i ≠ 0 → v.sb i ≤ 106 ∧ i / v.ways = (v.sb i - 1) % v.sets)
theorem zSw_x {v : ZVs} (h : zSw v) : zSx v := ⟨h.1, h.2.1, h.2.2.2.1, h.2.2.2.2.1⟩
theorem zSw_of {P : Nat → ZSt → Prop} {pl : Nat} {v : ZVs} (h : ZRm P pl v) (hb : v.p.na + 1 < 2147483648) : zSw v := ⟨h.sz, by have := h.n2; omega, h.t0, h.t1, h.t2, h.t3, h.hh⟩
/-- what the slots' methods leave alone -/
def zHs (s u : px_S) : Prop := (∀ c, c < 15 ∨ 19 < c → u.2.2.1 c = s.2.2.1 c) ∧ u.1 = s.1 ∧ u.2.1 = s.2.1 ∧ u.2.2.2 = s.2.2.2
theorem zHs_refl (s : px_S) : zHs s s := ⟨fun _ _ => rfl, rfl, rfl, rfl⟩
theorem zHs_trans {s u v : px_S} (h1 : zHs s u) (h2 : zHs u v) : zHs s v := ⟨fun c hc => (h2.1 c hc).trans (h1.1 c hc), h2.2.1.trans h1.2.1, h2.2.2.1.trans h1.2.2.1, h2.2.2.2.trans h1.2.2.2⟩
theorem zHs_sA {s : px_S} {c j : Nat} {x : Int32} (hc : 15 ≤ c ∧ c ≤ 19) : zHs s (sA s c j x) := ⟨fun d hd => sF_arr_ne (by omega), rfl, rfl, rfl⟩
theorem zHs_x {s u : px_S} (h : zHs s u) : zHx s u := ⟨fun c hc => h.1 c (by omega), fun r _ => by rw [h.2.1], fun r _ => by rw [h.2.2.1], h.2.2.2⟩
theorem zKnd_0 (b e : Nat) : zKnd b e = 0 ↔ b = 0 := by
  unfold zKnd
  by_cases h : b = 0
  · rw [if_pos h]; exact ⟨fun _ => h, fun _ => rfl⟩
  · rw [if_neg h]
    by_cases h2 : e = 0
    · rw [if_pos h2]; exact ⟨fun hx => absurd hx (by decide), fun hx => absurd hx h⟩
    · rw [if_neg h2]; exact ⟨fun hx => absurd hx (by decide), fun hx => absurd hx h⟩
theorem zKnd_1 (b e : Nat) : zKnd b e = 1 ↔ b ≠ 0 ∧ e = 0 := by
  unfold zKnd
  by_cases h : b = 0
  · rw [if_pos h]; exact ⟨fun hx => absurd hx (by decide), fun hx => absurd h hx.1⟩
  · rw [if_neg h]
    by_cases h2 : e = 0
    · rw [if_pos h2]; exact ⟨fun _ => ⟨h, h2⟩, fun _ => rfl⟩
    · rw [if_neg h2]; exact ⟨fun hx => absurd hx (by decide), fun hx => absurd hx.2 h2⟩
theorem zKnd_2 (b e : Nat) : zKnd b e = 2 ↔ b ≠ 0 ∧ e ≠ 0 := by
  unfold zKnd
  by_cases h : b = 0
  · rw [if_pos h]; exact ⟨fun hx => absurd hx (by decide), fun hx => absurd h hx.1⟩
  · rw [if_neg h]
    by_cases h2 : e = 0
    · rw [if_pos h2]; exact ⟨fun hx => absurd hx (by decide), fun hx => absurd h2 hx.2⟩
    · rw [if_neg h2]; exact ⟨fun _ => ⟨h, h2⟩, fun _ => rfl⟩
theorem zNew_skip {sb se : Nat → Nat} {b a : Nat} : ∀ (d : Nat), (∀ i, a ≤ i → i < a + d → sb i ≠ b + 1) → zNew sb se b (a + d) = zNew sb se b a := by
  intro d
  induction d with
  | zero => intro _; rfl
  | succ d ih =>
    intro h
    have e : zNew sb se b (a + (d + 1)) = match zNew sb se b (a + d) with
      | none => if sb (a + d) = b + 1 then some (a + d) else none
      | some j => if sb (a + d) = b + 1 ∧ se j < se (a + d) then some (a + d) else some j := rfl
    rw [e, ih (fun i h1 h2 => h i h1 (by omega))]
    have hn := h (a + d) (by omega) (by omega)
    cases zNew sb se b a with
    | none => exact if_neg hn
    | some j => exact if_neg (fun hx => hn hx.1)
theorem oN_neg (o : Option Nat) (h : ∀ j, o = some j → j < 2147483648) : oN o < 0 ↔ o = none := by
  cases o with
  | none => exact ⟨fun _ => rfl, fun _ => by decide⟩
  | some j => exact ⟨fun hx => absurd hx (iN_neg (h j rfl)), fun hx => by cases hx⟩
theorem c_newest_loop (K : px_K) (N n sets : Nat) (hK : zKc K n sets) (t : px_W) (s : px_S) (v : ZVs) (hn : v.n = n) (h : zCk s v) (hz : zCz s v) (hs : zSx v) (b a : Nat) (hb : b < 106) (ha : a + v.ways ≤ v.n) : ∀ (d i m : Nat), i + d = a + v.ways → d < m → l_S_newest_14_12 K N m (iN b) (iN a) (oN (zNew v.sb v.se b i)) (iN i) s t = some (.inl (44, [oN (zNew v.sb v.se b (a + v.ways))], s, t)) := by
  have hn64 : n ≤ 64 := hK.2.2.2.2.2.2.2.2.2.2.2.2.2.2.2.2.2.2.2.2
  have k15 : K.2.2 15 = n := hK.2.2.2.2.2.2.2.2.1
  have k16 : K.2.2 16 = n := hK.2.2.2.2.2.2.2.2.2.1
  have k17 : K.2.2 17 = n := hK.2.2.2.2.2.2.2.2.2.2.1
  have hw8 := hs.1.w8
  intro d
  induction d with
  | zero =>
    intro i m hi hm
    obtain ⟨m, rfl⟩ : ∃ m', m = m' + 1 := ⟨m - 1, by omega⟩
    have hi : i = a + v.ways := by omega
    subst hi
    unfold l_S_newest_14_12
    rw [hz.2.2.2.1, iN_add, if_pos (by rw [iN_le (by omega) (by omega)]; omega)]
  | succ d ih =>
    intro i m hi hm
    obtain ⟨m, rfl⟩ : ∃ m', m = m' + 1 := ⟨m - 1, by omega⟩
    have hin : i < v.n := by omega
    obtain ⟨c1, c2, c3, c4⟩ := h i hin
    have hstep := ih (i + 1) m (by omega) (by omega)
    have e : zNew v.sb v.se b (i + 1) = match zNew v.sb v.se b i with
      | none => if v.sb i = b + 1 then some i else none
      | some j => if v.sb i = b + 1 ∧ v.se j < v.se i then some i else some j := rfl
    have hsb : v.sb i ≠ 0 → v.sb i ≤ 106 := fun hx => (hs.2.2.2 i hin hx).1
    obtain ⟨r, e1, e2⟩ : wp (l_S_newest_14_12 K N (m + 1) (iN b) (iN a) (oN (zNew v.sb v.se b i)) (iN i) s t) (fun r => r = .inl (44, [oN (zNew v.sb v.se b (a + v.ways))], s, t)) := by
      unfold l_S_newest_14_12
      rw [hz.2.2.2.1, iN_add, iN_nat (a := i) (by omega), iL1, iN_add]
      refine wp_ifn (by rw [iN_le (by omega) (by omega)]; omega) (wp_gd (by rw [k15]; exact iN_in (by omega) (by omega)) ?_)
      rw [c1, c2]
      by_cases h0 : v.sb i = 0
      · refine wp_if ((zKnd_0 _ _).mpr h0) ⟨_, ?_, rfl⟩
        rw [← hstep, e]
        cases zNew v.sb v.se b i with
        | none => show _ = l_S_newest_14_12 K N m (iN b) (iN a) (oN (if v.sb i = b + 1 then some i else none)) (iN (i + 1)) s t; rw [if_neg (by omega)]
        | some j => show _ = l_S_newest_14_12 K N m (iN b) (iN a) (oN (if v.sb i = b + 1 ∧ v.se j < v.se i then some i else some j)) (iN (i + 1)) s t; rw [if_neg (by omega)]
      refine wp_ifn (fun hx => h0 ((zKnd_0 _ _).mp hx)) (wp_gd (by rw [k16]; exact iN_in (by omega) (by omega)) ?_)
      have h106 := hsb h0
      by_cases h1 : v.sb i = b + 1
      · refine wp_ifn (fun hx => hx (by rw [h1, Nat.add_sub_cancel])) ?_
        cases hz2 : zNew v.sb v.se b i with
        | none =>
          refine wp_if (by decide) ⟨_, ?_, rfl⟩
          rw [← hstep, e, hz2]
          show _ = l_S_newest_14_12 K N m (iN b) (iN a) (oN (if v.sb i = b + 1 then some i else none)) (iN (i + 1)) s t
          rw [if_pos h1]; rfl
        | some j =>
          obtain ⟨j1, j2, j3⟩ := zNew_some hz2
          obtain ⟨d1, d2, d3, d4⟩ := h j (by omega)
          have o1 := hs.2.2.1 i hin
          have o2 := hs.2.2.1 j (by omega)
          have o3 := hs.2.1
          show wp (if iN j < 0 then _ else _) _
          refine wp_ifn (iN_neg (by omega)) (wp_gd ⟨by rw [k17]; exact iN_in (by omega) (by omega), by rw [k17]; exact iN_in (by omega) (by omega)⟩ ?_)
          show wp (if s.2.2.1 17 i ≤ s.2.2.1 17 (iN j).toNatClampNeg then _ else _) _
          rw [iN_nat (a := j) (by omega), c3, d3]
          by_cases h2 : v.se j < v.se i
          · refine wp_ifn (by rw [iN_le (by omega) (by omega)]; omega) ⟨_, ?_, rfl⟩
            rw [← hstep, e, hz2]
            show _ = l_S_newest_14_12 K N m (iN b) (iN a) (oN (if v.sb i = b + 1 ∧ v.se j < v.se i then some i else some j)) (iN (i + 1)) s t
            rw [if_pos ⟨h1, h2⟩]; rfl
          · refine wp_if (by rw [iN_le (by omega) (by omega)]; omega) ⟨_, ?_, rfl⟩
            rw [← hstep, e, hz2]
            show _ = l_S_newest_14_12 K N m (iN b) (iN a) (oN (if v.sb i = b + 1 ∧ v.se j < v.se i then some i else some j)) (iN (i + 1)) s t
            rw [if_neg (fun hx => h2 hx.2)]
      · refine wp_if (fun hx => h1 (by have := (iN_eq (by omega) (by omega)).mp hx; omega)) ⟨_, ?_, rfl⟩
        rw [← hstep, e]
        cases zNew v.sb v.se b i with
        | none => show _ = l_S_newest_14_12 K N m (iN b) (iN a) (oN (if v.sb i = b + 1 then some i else none)) (iN (i + 1)) s t; rw [if_neg h1]
        | some j => show _ = l_S_newest_14_12 K N m (iN b) (iN a) (oN (if v.sb i = b + 1 ∧ v.se j < v.se i then some i else some j)) (iN (i + 1)) s t; rw [if_neg (fun hx => h1 hx.1)]
    rw [e1, e2]
theorem zSet_lt {sets ways q : Nat} (h : q < sets) : q * ways + ways ≤ sets * ways := by
  have : (q + 1) * ways ≤ sets * ways := Nat.mul_le_mul_right _ h
  rw [Nat.succ_mul] at this; exact this
theorem c_newest (K : px_K) (N n sets : Nat) (hN : 2000 ≤ N) (hK : zKc K n sets) (t : px_W) (s : px_S) (v : ZVs) (hn : v.n = n) (h : zCk s v) (hz : zCz s v) (hs : zSx v) (b : Nat) (hb : b < 106) : f_S_newest_14 K N (iN b) s t = some (.inl (some (.int (oN (v.newest b)))), s, t) := by
  have hn64 : n ≤ 64 := hK.2.2.2.2.2.2.2.2.2.2.2.2.2.2.2.2.2.2.2.2
  have hz1 := hs.1
  have s1 := hz1.s1
  have s8 := hz1.s8
  have w1 := hz1.w1
  have w8 := hz1.w8
  have hq : b % v.sets < v.sets := Nat.mod_lt _ (by omega)
  have hle := zSet_lt (ways := v.ways) hq
  have hle : b % v.sets * v.ways + v.ways ≤ v.n := hle
  -- below the set, and above it, no slot has the block
  have hno : ∀ i, i < v.n → v.sb i = b + 1 → b % v.sets * v.ways ≤ i ∧ i < b % v.sets * v.ways + v.ways := by
    intro i hi hx
    have h2 := (hs.2.2.2 i hi (by omega)).2
    rw [hx, Nat.add_sub_cancel] at h2
    have h3 := Nat.div_add_mod i v.ways
    have h4 := Nat.mod_lt i (show v.ways > 0 by omega)
    rw [h2, Nat.mul_comm] at h3
    omega
  have e0 : zNew v.sb v.se b (b % v.sets * v.ways) = none := by
    rw [zNew_none]
    intro i hi hx
    have := hno i (by omega) hx
    omega
  have e1 : v.newest b = zNew v.sb v.se b (b % v.sets * v.ways + v.ways) := by
    unfold ZVs.newest
    have := zNew_skip (sb := v.sb) (se := v.se) (b := b) (a := b % v.sets * v.ways + v.ways) (v.n - (b % v.sets * v.ways + v.ways)) (fun i h1 h2 hx => by
      have := hno i (by omega) hx
      omega)
    rw [Nat.add_sub_cancel' hle] at this
    exact this
  have hl := c_newest_loop K N n sets hK t s v hn h hz hs b (b % v.sets * v.ways) hb hle v.ways (b % v.sets * v.ways) N (by omega) (by omega)
  rw [e0] at hl
  obtain ⟨r, q1, q2⟩ : wp (f_S_newest_14 K N (iN b) s t) (fun r => r = (.inl (some (.int (oN (v.newest b)))), s, t)) := by
    unfold f_S_newest_14
    rw [hz.2.2.1, hz.2.2.2.1, iN_rem (by omega) (by omega) (by omega), iN_mul]
    refine wp_gd (by rw [iL0, iN_eq (by omega) (by omega)]; omega) (wp_let (wp_lp (show l_S_newest_14_12 K N N (iN b) (iN (b % v.sets * v.ways)) (-1) (iN (b % v.sets * v.ways)) s t = _ from hl) (wp_if rfl (wp_v1 (wp_some ?_)))))
    rw [e1]
  rw [q1, q2]
/-- a slot is freed -/
def zcF (s : px_S) (i : Nat) : px_S := sA (sA (sA (sA s 15 i 0) 16 i 0) 17 i 0) 18 i 0
theorem zcF_eq (s : px_S) (i : Nat) : (zcF s i).2.2.1 15 = upd (s.2.2.1 15) i 0 ∧ (zcF s i).2.2.1 16 = upd (s.2.2.1 16) i 0 ∧ (zcF s i).2.2.1 17 = upd (s.2.2.1 17) i 0 ∧ (zcF s i).2.2.1 18 = upd (s.2.2.1 18) i 0 ∧ zHs s (zcF s i) ∧ (zcF s i).2.2.1 19 = s.2.2.1 19 := by
  refine ⟨?_, ?_, ?_, ?_, ?_, ?_⟩
  · show (sF (sF (sF (sF s 15 _) 16 _) 17 _) 18 _).2.2.1 15 = _
    rw [sF_arr_ne (by omega), sF_arr_ne (by omega), sF_arr_ne (by omega), sF_arr]
  · show (sF (sF (sF (sF s 15 _) 16 _) 17 _) 18 _).2.2.1 16 = _
    rw [sF_arr_ne (by omega), sF_arr_ne (by omega), sF_arr]
    show upd ((sF s 15 _).2.2.1 16) i 0 = _
    rw [sF_arr_ne (by omega)]
  · show (sF (sF (sF (sF s 15 _) 16 _) 17 _) 18 _).2.2.1 17 = _
    rw [sF_arr_ne (by omega), sF_arr]
    show upd ((sF (sF s 15 _) 16 _).2.2.1 17) i 0 = _
    rw [sF_arr_ne (by omega), sF_arr_ne (by omega)]
  · show (sF (sF (sF (sF s 15 _) 16 _) 17 _) 18 _).2.2.1 18 = _
    rw [sF_arr]
    show upd ((sF (sF (sF s 15 _) 16 _) 17 _).2.2.1 18) i 0 = _
    rw [sF_arr_ne (by omega), sF_arr_ne (by omega), sF_arr_ne (by omega)]
  · exact zHs_trans (zHs_trans (zHs_trans (zHs_sA (by omega)) (zHs_sA (by omega))) (zHs_sA (by omega))) (zHs_sA (by omega))
  · show (sF (sF (sF (sF s 15 _) 16 _) 17 _) 18 _).2.2.1 19 = _
    rw [sF_arr_ne (by omega), sF_arr_ne (by omega), sF_arr_ne (by omega), sF_arr_ne (by omega)]
theorem c_free (K : px_K) (N n sets : Nat) (hK : zKc K n sets) (t : px_W) (s : px_S) (i : Nat) (hi : i < n) : f_S_free_14 K N (iN i) s t = some (.inl none, zcF s i, t) := by
  have hn64 : n ≤ 64 := hK.2.2.2.2.2.2.2.2.2.2.2.2.2.2.2.2.2.2.2.2
  have k15 : K.2.2 15 = n := hK.2.2.2.2.2.2.2.2.1
  have k16 : K.2.2 16 = n := hK.2.2.2.2.2.2.2.2.2.1
  have k17 : K.2.2 17 = n := hK.2.2.2.2.2.2.2.2.2.2.1
  have k18 : K.2.2 18 = n := hK.2.2.2.2.2.2.2.2.2.2.2.1
  unfold f_S_free_14
  rw [k15, k16, k17, k18, iN_nat (by omega), px_gd_of (iN_in (by omega) hi)]
  show px_gd _ _ = _
  rw [px_gd_of (iN_in (by omega) hi)]
  show px_gd _ _ = _
  rw [px_gd_of (iN_in (by omega) hi)]
  show px_gd _ _ = _
  rw [px_gd_of (iN_in (by omega) hi)]
  rfl
/-- the relation at one slot after it was freed, and at the others -/
theorem zC1_free {s : px_S} {v u : ZVs} {i : Nat} (h : ∀ j, j < v.n → j ≠ i → zC1 s v j) (hn : u.n = v.n) (hi : u.sb i = 0 ∧ u.se i = 0 ∧ u.mrk i = false) (ho : ∀ j, j ≠ i → u.sb j = v.sb j ∧ u.se j = v.se j ∧ u.mrk j = v.mrk j) : zCk (zcF s i) u := by
  obtain ⟨z1, z2, z3, z4, z5, z6⟩ := zcF_eq s i
  intro j hj
  unfold zC1
  rw [z1, z2, z3, z4]
  by_cases hji : j = i
  · rw [hji, upd_self, upd_self, upd_self, upd_self, hi.1, hi.2.1, hi.2.2]
    exact ⟨rfl, rfl, rfl, rfl⟩
  · rw [upd_ne hji, upd_ne hji, upd_ne hji, upd_ne hji, (ho j hji).1, (ho j hji).2.1, (ho j hji).2.2]
    exact h j (by rw [← hn]; exact hj) hji

/-! THE CLASS: a slot is found -/
theorem zfind_0 (set : Nat) (v : ZVs) : ZVs.find set 0 v = (none, v) := rfl
theorem zfind_s (set k : Nat) (v : ZVs) : ZVs.find set (k + 1) v = if 0 < v.se (set * v.ways + v.hd set) then ZVs.find set k (ZVs.s_hd v (zu v.hd set ((v.hd set + 1) % v.ways)))
    else if v.sb (set * v.ways + v.hd set) = 0 ∨ v.mrk (set * v.ways + v.hd set) = false then
      (some (set * v.ways + v.hd set), (ZVs.mk (ZVs.p v) (ZVs.sets v) (ZVs.ways v) (ZVs.eps v) (ZVs.wf v) (zu v.sb (set * v.ways + v.hd set) 0) (ZVs.se v) (zu v.mrk (set * v.ways + v.hd set) false) (zu v.hd set ((v.hd set + 1) % v.ways)) (ZVs.opn v) (ZVs.half v) (ZVs.gen v) (ZVs.plc v)))
    else ZVs.find set k (ZVs.mk (ZVs.p v) (ZVs.sets v) (ZVs.ways v) (ZVs.eps v) (ZVs.wf v) (ZVs.sb v) (ZVs.se v) (zu v.mrk (set * v.ways + v.hd set) false) (zu v.hd set ((v.hd set + 1) % v.ways)) (ZVs.opn v) (ZVs.half v) (ZVs.gen v) (ZVs.plc v)) := rfl
/-- what the loop of findIn comes to -/
def zFo (t : px_W) (s : px_S) (set h0 m0 : Nat) (r : Option Nat × ZVs) (z : px_LO) : Prop := (r.1 = none ∧ ∃ u, z = .inl (69, [], u, t) ∧ zCk u r.2 ∧ r.2.hd set = (h0 + m0) % r.2.ways ∧ zHs s u ∧ u.2.2.1 19 = s.2.2.1 19) ∨ (∃ y i, r.1 = some i ∧ y < r.2.ways ∧ i < r.2.n ∧ r.2.hd set = (y + 1) % r.2.ways ∧ ∃ u, z = .inl (41, [iN y, iN i], u, t) ∧ (∀ j, j < r.2.n → j ≠ i → zC1 u r.2 j) ∧ (r.2.sb i = 0 ∧ r.2.se i = 0 ∧ r.2.mrk i = false) ∧ zHs s u ∧ u.2.2.1 19 = s.2.2.1 19)
theorem c_find_loop (K : px_K) (N n sets : Nat) (hK : zKc K n sets) (t : px_W) (set h0 : Nat) (m0 : Nat) (hm0 : m0 = 2 * (m0 / 2)) : ∀ (k m f : Nat) (s : px_S) (v : ZVs), v.n = n → v.sets = sets → m0 = 2 * v.ways → set < v.sets → ZSz v.sets v.ways v.eps → zCk s v → zCz s v → (∀ i, i < v.n → v.sb i = 0 → v.se i = 0) → s.2.2.1 19 set = iN h0 → h0 < v.ways → v.hd set = (h0 + m) % v.ways → m + k = m0 → k < f → wp (l_S_findIn_14_2 K N f (iN set) (iN m) s t) (zFo t s set h0 m0 (ZVs.find set k v)) := by
  have hn64 : n ≤ 64 := hK.2.2.2.2.2.2.2.2.2.2.2.2.2.2.2.2.2.2.2.2
  have k15 : K.2.2 15 = n := hK.2.2.2.2.2.2.2.2.1
  have k18 : K.2.2 18 = n := hK.2.2.2.2.2.2.2.2.2.2.2.1
  have k19 : K.2.2 19 = sets := hK.2.2.2.2.2.2.2.2.2.2.2.2.1
  intro k
  induction k with
  | zero =>
    intro m f s v hn hsets hw hset hsz h hz ht0 hh hh0 hhd hmk hf
    obtain ⟨f, rfl⟩ : ∃ f', f = f' + 1 := ⟨f - 1, by omega⟩
    have w8 := hsz.w8
    unfold l_S_findIn_14_2
    rw [hz.2.2.2.1, iL2, iN_mul]
    refine wp_if (by rw [iN_le (by omega) (by omega)]; omega) ⟨_, rfl, Or.inl ⟨rfl, s, rfl, h, ?_, zHs_refl s, rfl⟩⟩
    rw [zfind_0]
    show v.hd set = (h0 + m0) % v.ways
    rw [hhd, show m = m0 by omega]
  | succ k ih =>
    intro m f s v hn hsets hw hset hsz h hz ht0 hh hh0 hhd hmk hf
    obtain ⟨f, rfl⟩ : ∃ f', f = f' + 1 := ⟨f - 1, by omega⟩
    have w8 := hsz.w8
    have w1 := hsz.w1
    have s8 := hsz.s8
    have hy : v.hd set < v.ways := by rw [hhd]; exact Nat.mod_lt _ (by omega)
    have hle := zSet_lt (ways := v.ways) hset
    have hle : set * v.ways + v.ways ≤ v.n := hle
    obtain ⟨i, hi⟩ : ∃ i, i = set * v.ways + v.hd set := ⟨_, rfl⟩
    have hin : i < v.n := by omega
    have hup : (v.hd set + 1) % v.ways = (h0 + (m + 1)) % v.ways := by rw [hhd, Nat.mod_add_mod]; rfl
    obtain ⟨c1, c2, c3, c4⟩ := h i hin
    unfold l_S_findIn_14_2
    rw [hz.2.2.2.1, iL2, iN_mul]
    refine wp_ifn (by rw [iN_le (by omega) (by omega)]; omega) ?_
    refine wp_gd ⟨by rw [k19]; exact iN_in (by omega) (by omega), by rw [iL0, iN_eq (by omega) (by omega)]; omega⟩ ?_
    rw [iN_nat (a := set) (by omega), hh, iN_add, iN_rem (by omega) (by omega) (by omega), ← hhd, iN_mul]
    refine wp_let ?_
    rw [iN_add, ← hi]
    refine wp_let (wp_gd (by rw [k15]; exact iN_in (by omega) (by omega)) ?_)
    rw [iN_nat (a := i) (by omega), c1]
    rw [zfind_s, ← hi]
    have hnext : ∀ u w : _, zHs s u → u.2.2.1 19 = s.2.2.1 19 → w.p = v.p → w.sets = v.sets → w.ways = v.ways → w.eps = v.eps → w.wf = v.wf → w.sb = v.sb → w.se = v.se → w.hd = zu v.hd set ((v.hd set + 1) % v.ways) → zCk u w → wp (l_S_findIn_14_2 K N f (iN set) (iN (m + 1)) u t) (zFo t s set h0 m0 (ZVs.find set k w)) := by
      intro u w hu hu19 hp e1 e2 e3 e4 e5 e6 e7 hck
      have en : w.n = v.n := by show w.sets * w.ways = _; rw [e1, e2]
      have hzu : zCz u w := by
        unfold zCz
        rw [hu.2.1, e1, e2, e3, e4, en]
        exact hz
      have := ih (m + 1) f u w (by rw [en, hn]) (by rw [e1, hsets]) (by rw [e2]; exact hw) (by rw [e1]; exact hset) (by rw [e1, e2, e3]; exact hsz) hck hzu (by rw [en, e5, e6]; exact ht0) (by rw [hu19]; exact hh) (by rw [e2]; exact hh0) (by rw [e7, e2, zu, if_pos rfl, hup]) (by omega) (by omega)
      refine wp_imp this (fun z hzz => ?_)
      rcases hzz with ⟨g1, u2, g2, g3, g4, g5, g6⟩ | ⟨y, j, g1, g2, g3, g4, u2, g5, g6, g7, g8, g9⟩
      · exact Or.inl ⟨g1, u2, g2, g3, g4, zHs_trans hu g5, g6.trans hu19⟩
      · exact Or.inr ⟨y, j, g1, g2, g3, g4, u2, g5, g6, g7, zHs_trans hu g8, g9.trans hu19⟩
    by_cases h0b : v.sb i = 0
    · -- free
      have hse := ht0 i hin h0b
      rw [if_neg (c := 0 < v.se i) (by omega), if_pos (c := v.sb i = 0 ∨ v.mrk i = false) (Or.inl h0b)]
      refine wp_if ((zKnd_0 _ _).mpr h0b) ⟨_, rfl, Or.inr ⟨v.hd set, i, rfl, hy, hin, zu_self _ _ _, s, rfl, ?_, ⟨zu_self _ _ _, hse, zu_self _ _ _⟩, zHs_refl s, rfl⟩⟩
      intro j hj hji
      have hj : j < v.n := hj
      show zC1 s (ZVs.mk _ _ _ _ _ _ _ _ _ _ _ _ _) j
      unfold zC1
      show s.2.2.1 15 j = zKnd (zu v.sb i 0 j) (v.se j) ∧ s.2.2.1 16 j = iN (zu v.sb i 0 j - 1) ∧ s.2.2.1 17 j = iN (v.se j) ∧ s.2.2.1 18 j = bN (zu v.mrk i false j)
      rw [zu_ne _ _ hji, zu_ne _ _ hji]; exact h j hj
    refine wp_ifn (fun hx => h0b ((zKnd_0 _ _).mp hx)) (wp_gd (by rw [k15]; exact iN_in (by omega) (by omega)) ?_)
    by_cases hse : v.se i = 0
    · have hk1 : zKnd (v.sb i) (v.se i) = 1 := (zKnd_1 _ _).mpr ⟨h0b, hse⟩
      rw [if_neg (c := 0 < v.se i) (by omega), hk1]
      refine wp_ifn (fun hx => hx rfl) (wp_gd (by rw [k18]; exact iN_in (by omega) (by omega)) ?_)
      rw [c4]
      cases hmk0 : v.mrk i with
      | false =>
        rw [if_pos (c := v.sb i = 0 ∨ false = false) (Or.inr rfl)]
        refine wp_ifn (fun hx => hx rfl) ⟨_, rfl, Or.inr ⟨v.hd set, i, rfl, hy, hin, zu_self _ _ _, s, rfl, ?_, ⟨zu_self _ _ _, hse, zu_self _ _ _⟩, zHs_refl s, rfl⟩⟩
        intro j hj hji
        have hj : j < v.n := hj
        show zC1 s (ZVs.mk _ _ _ _ _ _ _ _ _ _ _ _ _) j
        unfold zC1
        show s.2.2.1 15 j = zKnd (zu v.sb i 0 j) (v.se j) ∧ s.2.2.1 16 j = iN (zu v.sb i 0 j - 1) ∧ s.2.2.1 17 j = iN (v.se j) ∧ s.2.2.1 18 j = bN (zu v.mrk i false j)
        rw [zu_ne _ _ hji, zu_ne _ _ hji]; exact h j hj
      | true =>
        rw [if_neg (c := v.sb i = 0 ∨ true = false) (fun hx => by rcases hx with hx | hx; exact h0b hx; cases hx)]
        refine wp_if (by decide) (wp_gd (by rw [k15]; exact iN_in (by omega) (by omega)) (wp_ifn (fun hx => hx rfl) (wp_gd (by rw [k18]; exact iN_in (by omega) (by omega)) (wp_let ?_))))
        rw [iL1, iN_add]
        refine hnext _ _ (zHs_sA (by omega)) (sF_arr_ne (by omega)) rfl rfl rfl rfl rfl rfl rfl rfl ?_
        intro j hj
        have hj : j < v.n := hj
        unfold zC1
        show (sF s 18 (upd (s.2.2.1 18) i 0)).2.2.1 15 j = zKnd (v.sb j) (v.se j) ∧ (sF s 18 (upd (s.2.2.1 18) i 0)).2.2.1 16 j = iN (v.sb j - 1) ∧ (sF s 18 (upd (s.2.2.1 18) i 0)).2.2.1 17 j = iN (v.se j) ∧ (sF s 18 (upd (s.2.2.1 18) i 0)).2.2.1 18 j = bN (zu v.mrk i false j)
        rw [sF_arr_ne (by omega), sF_arr_ne (by omega), sF_arr_ne (by omega), sF_arr]
        obtain ⟨d1, d2, d3, d4⟩ := h j hj
        refine ⟨d1, d2, d3, ?_⟩
        by_cases hji : j = i
        · rw [hji, upd_self, zu_self]; rfl
        · rw [upd_ne hji, zu_ne _ _ hji]; exact d4
    · have hk2 : zKnd (v.sb i) (v.se i) = 2 := (zKnd_2 _ _).mpr ⟨h0b, hse⟩
      rw [if_pos (c := 0 < v.se i) (by omega), hk2]
      refine wp_if (by decide) (wp_gd (by rw [k15]; exact iN_in (by omega) (by omega)) (wp_if (by decide) ?_))
      rw [iL1, iN_add]
      exact hnext _ _ (zHs_refl s) rfl rfl rfl rfl rfl rfl rfl rfl rfl h
theorem zfind_hd (set : Nat) : ∀ (k : Nat) (v : ZVs) (q : Nat), q ≠ set → (ZVs.find set k v).2.hd q = v.hd q := by
  intro k
  induction k with
  | zero => intro v q _; rfl
  | succ k ih =>
    intro v q hq
    rw [zfind_s]
    by_cases h1 : 0 < v.se (set * v.ways + v.hd set)
    · rw [if_pos h1, ih _ q hq]; exact zu_ne _ _ hq
    · rw [if_neg h1]
      by_cases h2 : v.sb (set * v.ways + v.hd set) = 0 ∨ v.mrk (set * v.ways + v.hd set) = false
      · rw [if_pos h2]; exact zu_ne _ _ hq
      · rw [if_neg h2, ih _ q hq]; exact zu_ne _ _ hq
/-- findIn -/
theorem c_find (K : px_K) (N n sets : Nat) (hN : 2000 ≤ N) (hK : zKc K n sets) (t : px_W) (s : px_S) (v : ZVs) (hn : v.n = n) (hsets : v.sets = sets) (h : zCk s v) (hy : zCy s v) (hz : zCz s v) (hs : zSw v) (set : Nat) (hset : set < v.sets) : wp (f_S_findIn_14 K N (iN set) s t) (zA (oN (ZVs.find set (2 * v.ways) v).1) t (fun u => zCk u (ZVs.find set (2 * v.ways) v).2 ∧ zCy u (ZVs.find set (2 * v.ways) v).2 ∧ zHs s u)) := by
  have hn64 : n ≤ 64 := hK.2.2.2.2.2.2.2.2.2.2.2.2.2.2.2.2.2.2.2.2
  have k19 : K.2.2 19 = sets := hK.2.2.2.2.2.2.2.2.2.2.2.2.1
  have w1 := hs.1.w1
  have w8 := hs.1.w8
  have s8 := hs.1.s8
  obtain ⟨f1, f2, f3, f4, f5, f6, f7⟩ := zfr_find set (2 * v.ways) v
  have hhd := fun q hq => zfind_hd set (2 * v.ways) v q hq
  have hh := hs.2.2.2.2.2.2 set
  have hl := c_find_loop K N n sets hK t set (v.hd set) (2 * v.ways) (by omega) (2 * v.ways) 0 N s v hn hsets rfl hset hs.1 h hz hs.2.2.1 (hy set hset) hh (by rw [Nat.add_zero, Nat.mod_eq_of_lt hh]) (by omega) (by omega)
  obtain ⟨r, hr⟩ : ∃ r, r = ZVs.find set (2 * v.ways) v := ⟨_, rfl⟩
  rw [← hr] at hl f1 f2 f3 f4 f5 f6 f7 hhd
  rw [← hr]
  obtain ⟨z, e1, e2⟩ := hl
  have e1 : l_S_findIn_14_2 K N N (iN set) (0 : Int32) s t = some z := e1
  unfold f_S_findIn_14
  rcases e2 with ⟨g1, u, g2, g3, g4, g5, g6⟩ | ⟨y, i, g1, g2, g3, g4, u, g5, g6, g7, g8, g9⟩
  · rw [g1]
    refine wp_lp (e1.trans (by rw [g2])) (wp_ifn (by decide) (wp_if rfl (wp_v0 (wp_rA ⟨g3, ?_, g5⟩))))
    intro q hq
    rw [g6]
    have hq : q < v.sets := by rw [f1.s] at hq; exact hq
    rw [hy q hq]
    by_cases hqs : q = set
    · rw [hqs, g4, f1.w]
      have : (v.hd set + 2 * v.ways) % v.ways = v.hd set := by rw [Nat.mul_comm, Nat.add_mul_mod_self_left, Nat.mod_eq_of_lt hh]
      rw [this]
    · rw [hhd q hqs]
  · rw [g1]
    have hin : i < n := by rw [← hn]; show i < v.sets * v.ways; rw [← f1.s, ← f1.w]; exact g3
    refine wp_lp (e1.trans (by rw [g5])) (wp_if rfl ?_)
    show wp (px_bv (f_S_free_14 K N (iN i) u t) _ _) _
    refine wp_bv (c_free K N n sets hK t u i hin) ?_
    obtain ⟨z1, z2, z3, z4, z5, z6⟩ := zcF_eq u i
    have e19 : (zcF u i).1 19 = iN v.ways := by rw [z5.2.1, g8.2.1]; exact hz.2.2.2.1
    rw [e19, iL1, iN_add, iN_rem (by have := f1.w; omega) (by omega) (by omega), iN_nat (a := set) (by omega)]
    refine wp_gd ⟨by rw [iL0, iN_eq (by omega) (by omega)]; omega, by rw [k19]; exact iN_in (by omega) (by omega)⟩ (wp_let ?_)
    refine wp_rA ⟨?_, ?_, zHs_trans (zHs_trans g8 z5) (zHs_sA (by omega))⟩
    · have hck := zC1_free (s := u) (v := r.2) (u := r.2) (i := i) g6 rfl g7 (fun _ _ => ⟨rfl, rfl, rfl⟩)
      intro j hj
      obtain ⟨d1, d2, d3, d4⟩ := hck j hj
      unfold zC1
      show (sF (zcF u i) 19 _).2.2.1 15 j = _ ∧ (sF (zcF u i) 19 _).2.2.1 16 j = _ ∧ (sF (zcF u i) 19 _).2.2.1 17 j = _ ∧ (sF (zcF u i) 19 _).2.2.1 18 j = _
      rw [sF_arr_ne (by omega), sF_arr_ne (by omega), sF_arr_ne (by omega), sF_arr_ne (by omega)]
      exact ⟨d1, d2, d3, d4⟩
    · intro q hq
      have hq : q < v.sets := by rw [f1.s] at hq; exact hq
      show (sF (zcF u i) 19 _).2.2.1 19 q = _
      rw [sF_arr]
      by_cases hqs : q = set
      · rw [hqs, upd_self, g4, f1.w]
      · rw [upd_ne hqs, z6, g9, hy q hq, hhd q hqs]
/-- a find leaves the slots as they should be -/
theorem zSw_p {v u : ZVs} (h : zSw v) (hs : u.sets = v.sets) (hw : u.ways = v.ways) (he : u.eps = v.eps) (ho : u.opn = v.opn) (hse : u.se = v.se) (hsb : ∀ i, i < v.n → u.sb i = v.sb i ∨ (u.sb i = 0 ∧ v.se i = 0)) (hh : ∀ set, u.hd set < v.ways) : zSw u := by
  have hn : u.n = v.n := by show u.sets * u.ways = _; rw [hs, hw]
  obtain ⟨h1, h2, h3, h4, h5, h6, h7⟩ := h
  refine ⟨by rw [hs, hw, he]; exact h1, by rw [ho]; exact h2, ?_, ?_, ?_, ?_, by rw [hw]; exact hh⟩
  · rw [hn, hse]
    intro i hi hx
    rcases hsb i hi with h | h
    · exact h3 i hi (by rw [← h]; exact hx)
    · exact h.2
  · rw [hn, hse, ho]; exact h4
  · rw [hn, hs, hw]
    intro i hi hx
    rcases hsb i hi with h | h
    · rw [h] at hx ⊢; exact h5 i hi hx
    · exact absurd h.1 hx
  · rw [hn, hse]
    intro i j hi hj hx he hz
    rcases hsb i hi with h | h
    · rcases hsb j hj with h' | h'
      · rw [h] at hx he; rw [h'] at he; exact h6 i j hi hj hx he hz
      · rw [h'.1] at he; exact absurd he hx
    · exact absurd h.1 hx

/-! THE CLASS: the slots of an epoch, gathered and sorted -/
def zLa (A : Nat → Int32) (l : List Nat) : Prop := ∀ j, j < l.length → A j = iN (l.getD j 0)
/-- what changes the two rows of the volume alone -/
def zHw (s u : px_S) : Prop := (∀ c, c ≠ 20 → c ≠ 21 → u.2.2.1 c = s.2.2.1 c) ∧ u.1 = s.1 ∧ u.2.1 = s.2.1 ∧ u.2.2.2 = s.2.2.2
theorem zHw_refl (s : px_S) : zHw s s := ⟨fun _ _ _ => rfl, rfl, rfl, rfl⟩
theorem zHw_trans {s u v : px_S} (h1 : zHw s u) (h2 : zHw u v) : zHw s v := ⟨fun c a b => (h2.1 c a b).trans (h1.1 c a b), h2.2.1.trans h1.2.1, h2.2.2.1.trans h1.2.2.1, h2.2.2.2.trans h1.2.2.2⟩
theorem zHw_sF {s : px_S} {c : Nat} {g : Nat → Int32} (hc : c = 20 ∨ c = 21) : zHw s (sF s c g) := ⟨fun d h1 h2 => sF_arr_ne (by omega), rfl, rfl, rfl⟩
theorem zHw_x {s u : px_S} (h : zHw s u) : zHx s u := ⟨fun c hc => h.1 c (by omega) (by omega), fun r _ => by rw [h.2.1], fun r _ => by rw [h.2.2.1], h.2.2.2⟩
theorem zDl_succ (se : Nat → Nat) (e i : Nat) : zDl se e (i + 1) = if se i = e then zDl se e i ++ [i] else zDl se e i := by
  unfold zDl
  rw [List.range_succ, List.filter_append]
  by_cases h : se i = e
  · rw [if_pos h]; congr 1; simp [h]
  · rw [if_neg h]; simp [h]
theorem c_gather_loop (K : px_K) (N n sets : Nat) (hK : zKc K n sets) (t : px_W) (s : px_S) (v : ZVs) (hn : v.n = n) (h : zCk s v) (hz : zCz s v) (hs : zSw v) (e : Nat) (he0 : 0 < e) (he : e < 2147483648) (h16 : v.dirty e ≤ 16) : ∀ (d i f : Nat) (A : Nat → Int32), i + d = v.n → d < f → zLa A (zDl v.se e i) → ∃ A', l_S_gather_14_21_4 K N f (iN e) (iN (zDl v.se e i).length) (iN i) (sF s 21 A) t = some (.inl (31, [iN (v.dl e).length], sF s 21 A', t)) ∧ zLa A' (v.dl e) := by
  have hn64 : n ≤ 64 := hK.2.2.2.2.2.2.2.2.2.2.2.2.2.2.2.2.2.2.2.2
  have k15 : K.2.2 15 = n := hK.2.2.2.2.2.2.2.2.1
  have k17 : K.2.2 17 = n := hK.2.2.2.2.2.2.2.2.2.2.1
  have k21 : K.2.2 21 = 16 := hK.2.2.2.2.2.2.2.2.2.2.2.2.2.2.1
  have o3 := hs.2.1
  intro d
  induction d with
  | zero =>
    intro i f A hi hf hA
    obtain ⟨f, rfl⟩ : ∃ f', f = f' + 1 := ⟨f - 1, by omega⟩
    have hi : i = v.n := by omega
    subst hi
    refine ⟨A, ?_, hA⟩
    unfold l_S_gather_14_21_4
    show (if s.1 20 ≤ _ then _ else _) = _
    rw [hz.2.2.2.2, if_pos (by rw [iN_le (by omega) (by omega)]; omega)]; rfl
  | succ d ih =>
    intro i f A hi hf hA
    obtain ⟨f, rfl⟩ : ∃ f', f = f' + 1 := ⟨f - 1, by omega⟩
    have hin : i < v.n := by omega
    obtain ⟨c1, c2, c3, c4⟩ := h i hin
    have hsub : (zDl v.se e (i + 1)).length ≤ (v.dl e).length := by
      have : ∀ q, (zDl v.se e (i + 1)).length ≤ (zDl v.se e (i + 1 + q)).length := by
        intro q
        induction q with
        | zero => exact Nat.le_refl _
        | succ q ihq =>
          refine Nat.le_trans ihq ?_
          rw [show i + 1 + (q + 1) = (i + 1 + q) + 1 by omega, zDl_succ v.se e (i + 1 + q)]
          split
          · rw [List.length_append]; omega
          · exact Nat.le_refl _
      have h2 := this (v.n - (i + 1))
      rw [show i + 1 + (v.n - (i + 1)) = v.n by omega] at h2
      exact h2
    have hd16 : (v.dl e).length ≤ 16 := h16
    have o1 := hs.2.2.2.1 i hin
    have hdec := zDl_succ v.se e i
    have hlen64 := zDl_len v.se e i
    have go : wp (l_S_gather_14_21_4 K N (f + 1) (iN e) (iN (zDl v.se e i).length) (iN i) (sF s 21 A) t) (fun z => ∃ A', z = .inl (31, [iN (v.dl e).length], sF s 21 A', t) ∧ zLa A' (v.dl e)) := by
      unfold l_S_gather_14_21_4
      rw [show (sF s 21 A).1 20 = iN v.n from hz.2.2.2.2, iN_nat (a := i) (by omega), show (sF s 21 A).2.2.1 15 = s.2.2.1 15 from sF_arr_ne (by omega), show (sF s 21 A).2.2.1 17 = s.2.2.1 17 from sF_arr_ne (by omega), c1, c3]
      refine wp_ifn (by rw [iN_le (by omega) (by omega)]; omega) (wp_gd (by rw [k15]; exact iN_in (by omega) (by omega)) ?_)
      by_cases hse : v.se i = e
      · rw [if_pos hse] at hdec
        rw [hdec, List.length_append] at hsub
        have hsub : (zDl v.se e i).length + 1 ≤ (v.dl e).length := hsub
        have hsb : v.sb i ≠ 0 := fun hx => by have := hs.2.2.1 i hin hx; omega
        refine wp_ifn (fun hx => hx ((zKnd_2 _ _).mpr ⟨hsb, by omega⟩)) (wp_gd (by rw [k17]; exact iN_in (by omega) (by omega)) (wp_ifn (fun hx => hx (by rw [hse])) (wp_ifn ?_ (wp_gd (by rw [k21]; exact iN_in (by omega) (by omega)) (wp_let ?_)))))
        · rw [k21]
          show ¬ iN 16 ≤ _
          rw [iN_le (by omega) (by omega)]; omega
        · rw [sA_sF, iL1, iN_add, iN_add, iN_nat (a := (zDl v.se e i).length) (by omega)]
          obtain ⟨A', q1, q2⟩ := ih (i + 1) f (upd A (zDl v.se e i).length (iN i)) (by omega) (by omega) (by
            rw [hdec]
            intro j hj
            rw [List.length_append] at hj
            have hj : j < (zDl v.se e i).length + 1 := hj
            by_cases hje : j = (zDl v.se e i).length
            · rw [hje, upd_self]; simp
            · rw [upd_ne hje, hA j (by omega)]
              rw [List.getD_eq_getElem?_getD, List.getD_eq_getElem?_getD, List.getElem?_append_left (by omega)])
          rw [hdec, List.length_append] at q1
          exact ⟨_, q1, A', rfl, q2⟩
      · rw [if_neg hse] at hdec
        obtain ⟨A', q1, q2⟩ := ih (i + 1) f A (by omega) (by omega) (by rw [hdec]; exact hA)
        rw [hdec] at q1
        by_cases hk : zKnd (v.sb i) (v.se i) = 2
        · refine wp_ifn (fun hx => hx hk) (wp_gd (by rw [k17]; exact iN_in (by omega) (by omega)) (wp_if (fun hx => hse ((iN_eq (by omega) (by omega)).mp hx)) ?_))
          rw [iL1, iN_add]; exact ⟨_, q1, A', rfl, q2⟩
        · refine wp_if hk ?_
          rw [iL1, iN_add]; exact ⟨_, q1, A', rfl, q2⟩
    obtain ⟨z, e1, A', e2, e3⟩ := go
    exact ⟨A', by rw [e1, e2], e3⟩
theorem c_gather (K : px_K) (N n sets : Nat) (hN : 2000 ≤ N) (hK : zKc K n sets) (t : px_W) (s : px_S) (v : ZVs) (hn : v.n = n) (h : zCk s v) (hz : zCz s v) (hs : zSw v) (e : Nat) (he0 : 0 < e) (he : e < 2147483648) (h16 : v.dirty e ≤ 16) : ∃ A, f_S_gather_14_21 K N (iN e) s t = some (.inl (some (.int (iN (v.dl e).length))), sF s 21 A, t) ∧ zLa A (v.dl e) := by
  have hn64 : n ≤ 64 := hK.2.2.2.2.2.2.2.2.2.2.2.2.2.2.2.2.2.2.2.2
  obtain ⟨A, q1, q2⟩ := c_gather_loop K N n sets hK t s v hn h hz hs e he0 he h16 v.n 0 N (s.2.2.1 21) (by omega) (by omega) (fun j hj => absurd hj (Nat.not_lt_zero _))
  have q1 : l_S_gather_14_21_4 K N N (iN e) (0 : Int32) (0 : Int32) (sF s 21 (s.2.2.1 21)) t = _ := q1
  rw [sF_triv] at q1
  refine ⟨A, ?_, q2⟩
  unfold f_S_gather_14_21
  rw [q1]; rfl
theorem sorted_ext {f : Nat → Nat} : ∀ {l l' : List Nat}, l.Pairwise (fun x y => f x < f y) → l'.Pairwise (fun x y => f x < f y) → (∀ x, x ∈ l ↔ x ∈ l') → l = l' := by
  intro l
  induction l with
  | nil =>
    intro l' _ _ h
    cases l' with
    | nil => rfl
    | cons b l' => exact absurd ((h b).mpr List.mem_cons_self) List.not_mem_nil
  | cons a l ih =>
    intro l' h1 h2 h
    cases l' with
    | nil => exact absurd ((h a).mp List.mem_cons_self) List.not_mem_nil
    | cons b l' =>
      obtain ⟨p1, p2⟩ := List.pairwise_cons.mp h1
      obtain ⟨p3, p4⟩ := List.pairwise_cons.mp h2
      have hab : a = b := by
        rcases List.mem_cons.mp ((h a).mp List.mem_cons_self) with h3 | h3
        · exact h3
        · rcases List.mem_cons.mp ((h b).mpr List.mem_cons_self) with h4 | h4
          · exact h4.symm
          · have := p3 a h3; have := p1 b h4; omega
      subst hab
      congr 1
      refine ih p2 p4 (fun x => ⟨fun hx => ?_, fun hx => ?_⟩)
      · rcases List.mem_cons.mp ((h x).mp (List.mem_cons_of_mem _ hx)) with h3 | h3
        · have := p1 x hx; rw [h3] at this; omega
        · exact h3
      · rcases List.mem_cons.mp ((h x).mpr (List.mem_cons_of_mem _ hx)) with h3 | h3
        · have := p3 x hx; rw [h3] at this; omega
        · exact h3
/-- the insertion's inner loop: where the new one belongs -/
theorem c_ins_loop (K : px_K) (N n sets : Nat) (hK : zKc K n sets) (t : px_W) (s0 : px_S) (sb : Nat → Nat) (P : List Nat) (x : Nat) (A0 : Nat → Int32) (u2 u3 : Int32) (hP16 : P.length < 16) (hb : ∀ i, (i ∈ P ∨ i = x) → i < n ∧ s0.2.2.1 16 i = iN (sb i - 1) ∧ 1 ≤ sb i ∧ sb i ≤ 106) : ∀ (k f : Nat) (A : Nat → Int32), k ≤ P.length → k < f → (∀ q, q < k → A q = iN (P.getD q 0)) → (∀ q, k ≤ q → q < P.length → A (q + 1) = iN (P.getD q 0) ∧ sb x < sb (P.getD q 0)) → (∀ q, P.length < q → A q = A0 q) → wp (l_S_sortByBlock_14_21_11 K N f u2 u3 (iN x) (iN k) (sF s0 21 A) t) (fun z => ∃ k' A', z = .inl (36, [iN k'], sF s0 21 A', t) ∧ k' ≤ P.length ∧ (∀ q, q < k' → A' q = iN (P.getD q 0)) ∧ (∀ q, k' ≤ q → q < P.length → A' (q + 1) = iN (P.getD q 0) ∧ sb x < sb (P.getD q 0)) ∧ (∀ q, P.length < q → A' q = A0 q) ∧ (k' = 0 ∨ sb (P.getD (k' - 1) 0) ≤ sb x)) := by
  have hn64 : n ≤ 64 := hK.2.2.2.2.2.2.2.2.2.2.2.2.2.2.2.2.2.2.2.2
  have k16 : K.2.2 16 = n := hK.2.2.2.2.2.2.2.2.2.1
  have k21 : K.2.2 21 = 16 := hK.2.2.2.2.2.2.2.2.2.2.2.2.2.2.1
  obtain ⟨x1, x2, x3, x4⟩ := hb x (Or.inr rfl)
  intro k
  induction k with
  | zero =>
    intro f A hk hf h1 h2 h3
    obtain ⟨f, rfl⟩ : ∃ f', f = f' + 1 := ⟨f - 1, by omega⟩
    unfold l_S_sortByBlock_14_21_11
    exact wp_if (by decide) ⟨_, rfl, 0, A, rfl, by omega, h1, h2, h3, Or.inl rfl⟩
  | succ k ih =>
    intro f A hk hf h1 h2 h3
    obtain ⟨f, rfl⟩ : ∃ f', f = f' + 1 := ⟨f - 1, by omega⟩
    have hmem : P.getD k 0 ∈ P := by
      rw [List.getD_eq_getElem?_getD, List.getElem?_eq_getElem (by omega)]
      exact List.getElem_mem _
    obtain ⟨y1, y2, y3, y4⟩ := hb (P.getD k 0) (Or.inl hmem)
    have hAk := h1 k (by omega)
    obtain ⟨y, hy⟩ : ∃ y, y = P.getD k 0 := ⟨_, rfl⟩
    rw [← hy] at y1 y2 y3 y4 hAk
    unfold l_S_sortByBlock_14_21_11
    have em : iN (k + 1) - (1 : Int32) = iN k := by
      have := iN_sub (a := k + 1) (b := 1) (by omega)
      exact this
    rw [em, show (sF s0 21 A).2.2.1 21 = A from sF_arr _ _ _, show (sF s0 21 A).2.2.1 16 = s0.2.2.1 16 from sF_arr_ne (by omega), iN_nat (a := k) (by omega), hAk, iN_nat (a := y) (by omega), y2, iN_nat (a := x) (by omega), x2]
    refine wp_ifn (by rw [iL0, iN_le (by omega) (by omega)]; omega) (wp_gd ⟨by rw [k21]; exact iN_in (by omega) (by omega), by rw [k16]; exact iN_in (by omega) (by omega), by rw [k16]; exact iN_in (by omega) (by omega)⟩ ?_)
    by_cases hle : sb y ≤ sb x
    · exact wp_if (by rw [iN_le (by omega) (by omega)]; omega) ⟨_, rfl, k + 1, A, rfl, hk, h1, h2, h3, Or.inr (by rw [Nat.add_sub_cancel, ← hy]; exact hle)⟩
    · refine wp_ifn (by rw [iN_le (by omega) (by omega)]; omega) (wp_gd ⟨by rw [k21]; exact iN_in (by omega) (by omega), by rw [k21]; exact iN_in (by omega) (by omega)⟩ (wp_let ?_))
      have em2 : iN (k + 1) + (-1 : Int32) = iN k := by rw [← em]; rw [Int32.sub_eq_add_neg]
      rw [sA_sF, iN_nat (a := k + 1) (by omega), em2]
      refine wp_let (ih f _ (by omega) (by omega) ?_ ?_ ?_)
      · intro q hq
        rw [upd_ne (by omega)]; exact h1 q (by omega)
      · intro q hq hq2
        by_cases hqk : q = k
        · rw [hqk, upd_self, ← hy]; exact ⟨rfl, by omega⟩
        · rw [upd_ne (by omega)]; exact h2 q (by omega) hq2
      · intro q hq
        rw [upd_ne (by omega)]; exact h3 q hq
/-- the list with one more, where it belongs -/
theorem ins_list {sb : Nat → Nat} {P : List Nat} {x k : Nat} (hk : k ≤ P.length) (hs : P.Pairwise (fun a b => sb a < sb b)) (hx : ∀ a ∈ P, sb a ≠ sb x) (h1 : ∀ q, k ≤ q → q < P.length → sb x < sb (P.getD q 0)) (h2 : k = 0 ∨ sb (P.getD (k - 1) 0) ≤ sb x) : (P.take k ++ x :: P.drop k).Pairwise (fun a b => sb a < sb b) ∧ ∀ a, a ∈ P.take k ++ x :: P.drop k ↔ a ∈ P ∨ a = x := by
  have hg : ∀ q, q < P.length → P.getD q 0 ∈ P := fun q hq => by
    rw [List.getD_eq_getElem?_getD, List.getElem?_eq_getElem hq]
    exact List.getElem_mem _
  have hlt : ∀ i j, i < j → j < P.length → sb (P.getD i 0) < sb (P.getD j 0) := by
    intro i j hij hj
    have := List.pairwise_iff_getElem.mp hs i j (by omega) hj hij
    rw [List.getD_eq_getElem?_getD, List.getElem?_eq_getElem (by omega), List.getD_eq_getElem?_getD, List.getElem?_eq_getElem hj]
    exact this
  constructor
  · have hsp : (P.take k ++ P.drop k).Pairwise (fun a b => sb a < sb b) := by rw [List.take_append_drop]; exact hs
    obtain ⟨p1, p2, p3⟩ := List.pairwise_append.mp hsp
    refine List.pairwise_append.mpr ⟨p1, List.pairwise_cons.mpr ⟨?_, p2⟩, ?_⟩
    · intro a ha
      obtain ⟨q, hq, e⟩ := List.getElem_of_mem ha
      rw [List.length_drop] at hq
      rw [List.getElem_drop] at e
      have := h1 (k + q) (by omega) (by omega)
      rw [List.getD_eq_getElem?_getD, List.getElem?_eq_getElem (by omega)] at this
      rw [← e]; exact this
    · intro a ha b hb
      rcases List.mem_cons.mp hb with hb | hb
      · rw [hb]
        obtain ⟨q, hq, e⟩ := List.getElem_of_mem ha
        rw [List.length_take] at hq
        rw [List.getElem_take] at e
        have hne := hx a (List.mem_of_mem_take ha)
        have ea : P.getD q 0 = a := by rw [List.getD_eq_getElem?_getD, List.getElem?_eq_getElem (by omega)]; exact e
        rcases h2 with h2 | h2
        · omega
        · by_cases hqk : q = k - 1
          · rw [← hqk, ea] at h2; omega
          · have := hlt q (k - 1) (by omega) (by omega)
            rw [ea] at this; omega
      · exact p3 a ha b hb
  · intro a
    rw [List.mem_append, List.mem_cons]
    constructor
    · rintro (h | h | h)
      · exact Or.inl (List.mem_of_mem_take h)
      · exact Or.inr h
      · exact Or.inl (List.mem_of_mem_drop h)
    · rintro (h | h)
      · rw [← List.take_append_drop k P] at h
        rcases List.mem_append.mp h with h | h
        · exact Or.inl h
        · exact Or.inr (Or.inr h)
      · exact Or.inr (Or.inl h)
theorem c_sort_loop (K : px_K) (N n sets : Nat) (hN : 2000 ≤ N) (hK : zKc K n sets) (t : px_W) (s0 : px_S) (sb : Nat → Nat) (l : List Nat) (hl : l.length ≤ 16) (hnd : l.Nodup) (hinj : ∀ x ∈ l, ∀ y ∈ l, sb x = sb y → x = y) (hb : ∀ i ∈ l, i < n ∧ s0.2.2.1 16 i = iN (sb i - 1) ∧ 1 ≤ sb i ∧ sb i ≤ 106) : ∀ (d j f : Nat) (P : List Nat) (A : Nat → Int32), j + d = l.length → d < f → P.length = j → (∀ a, a ∈ P ↔ a ∈ l.take j) → P.Pairwise (fun a b => sb a < sb b) → zLa A P → (∀ q, j ≤ q → q < l.length → A q = iN (l.getD q 0)) → wp (l_S_sortByBlock_14_21_2 K N f (iN l.length) (iN j) (sF s0 21 A) t) (fun z => ∃ A', z = .inl (42, [], sF s0 21 A', t) ∧ zLa A' (zSort sb l)) := by
  have k21 : K.2.2 21 = 16 := hK.2.2.2.2.2.2.2.2.2.2.2.2.2.2.1
  have hn64 : n ≤ 64 := hK.2.2.2.2.2.2.2.2.2.2.2.2.2.2.2.2.2.2.2.2
  intro d
  induction d with
  | zero =>
    intro j f P A hj hf hPl hm hs hA hr
    obtain ⟨f, rfl⟩ : ∃ f', f = f' + 1 := ⟨f - 1, by omega⟩
    unfold l_S_sortByBlock_14_21_2
    refine wp_if (by rw [iN_le (by omega) (by omega)]; omega) ⟨_, rfl, A, rfl, ?_⟩
    have : P = zSort sb l := by
      refine sorted_ext hs (zSort_sorted hnd hinj) (fun x => ?_)
      rw [hm x, List.take_of_length_le (by omega), mem_zSort]
    rw [← this]; exact hA
  | succ d ih =>
    intro j f P A hj hf hPl hm hs hA hr
    obtain ⟨f, rfl⟩ : ∃ f', f = f' + 1 := ⟨f - 1, by omega⟩
    have hjl : j < l.length := by omega
    obtain ⟨x, hx⟩ : ∃ x, x = l.getD j 0 := ⟨_, rfl⟩
    have exg : l[j]'hjl = x := by rw [hx, List.getD_eq_getElem?_getD, List.getElem?_eq_getElem hjl]; rfl
    have hxm : x ∈ l := by rw [← exg]; exact List.getElem_mem _
    have hAj := hr j (Nat.le_refl _) hjl
    rw [← hx] at hAj
    have hPm : ∀ a, a ∈ P → a ∈ l := fun a ha => List.mem_of_mem_take ((hm a).mp ha)
    have hxP : ∀ a ∈ P, sb a ≠ sb x := by
      intro a ha he
      have := hinj a (hPm a ha) x hxm he
      subst this
      have h2 := (hm a).mp ha
      obtain ⟨q, hq, e⟩ := List.getElem_of_mem h2
      rw [List.length_take] at hq
      rw [List.getElem_take] at e
      have := (List.getElem_inj hnd).mp (e.trans exg.symm)
      omega
    unfold l_S_sortByBlock_14_21_2
    rw [show (sF s0 21 A).2.2.1 21 = A from sF_arr _ _ _, iN_nat (a := j) (by omega), hAj]
    refine wp_ifn (by rw [iN_le (by omega) (by omega)]; omega) (wp_gd (by rw [k21]; exact iN_in (by omega) (by omega)) (wp_let ?_))
    obtain ⟨z, e1, k', A', e2, e3, e4, e5, e6, e7⟩ := c_ins_loop K N n sets hK t s0 sb P x A (iN l.length) (iN j) (by omega) (fun i hi => by
      rcases hi with hi | hi
      · exact hb i (hPm i hi)
      · rw [hi]; exact hb x hxm) P.length N A (Nat.le_refl _) (by omega) hA (fun q h1 h2 => by omega) (fun _ _ => rfl)
    rw [hPl] at e1
    refine wp_lp (e1.trans (by rw [e2])) (wp_if rfl (wp_v1 ?_))
    obtain ⟨i1, i2⟩ := ins_list e3 hs hxP (fun q h1 h2 => (e5 q h1 h2).2) e7
    rw [iN_nat (a := k') (by omega), iL1, iN_add]
    refine wp_gd (by rw [k21]; exact iN_in (by omega) (by omega)) (wp_let ?_)
    rw [sA_sF]
    have hnl : (P.take k' ++ x :: P.drop k').length = j + 1 := by
      rw [List.length_append, List.length_cons, List.length_take, List.length_drop]; omega
    refine ih (j + 1) f (P.take k' ++ x :: P.drop k') _ (by omega) (by omega) hnl ?_ i1 ?_ ?_
    · intro a
      rw [i2 a, hm a, List.take_add_one, List.getElem?_eq_getElem hjl, exg]
      simp
    · intro q hq
      rw [hnl] at hq
      rw [List.getD_eq_getElem?_getD]
      by_cases hqk : q = k'
      · rw [hqk, upd_self, List.getElem?_append_right (by rw [List.length_take]; omega), List.length_take, Nat.min_eq_left e3, Nat.sub_self]; rfl
      · rw [upd_ne hqk]
        by_cases hlt : q < k'
        · rw [e4 q hlt, List.getElem?_append_left (by rw [List.length_take]; omega), List.getElem?_take_of_lt hlt, List.getD_eq_getElem?_getD]
        · have h5 := (e5 (q - 1) (by omega) (by omega)).1
          rw [show q - 1 + 1 = q by omega] at h5
          rw [h5, List.getElem?_append_right (by rw [List.length_take]; omega), List.length_take, Nat.min_eq_left e3, show q - k' = (q - 1 - k') + 1 by omega, List.getElem?_cons_succ, List.getElem?_drop, show k' + (q - 1 - k') = q - 1 by omega, List.getD_eq_getElem?_getD]
    · intro q h1 h2
      rw [upd_ne (by omega), e6 q (by omega)]
      exact hr q (by omega) h2
theorem c_sort (K : px_K) (N n sets : Nat) (hN : 2000 ≤ N) (hK : zKc K n sets) (t : px_W) (s : px_S) (sb : Nat → Nat) (l : List Nat) (hl : l.length ≤ 16) (hnd : l.Nodup) (hinj : ∀ x ∈ l, ∀ y ∈ l, sb x = sb y → x = y) (hb : ∀ i ∈ l, i < n ∧ s.2.2.1 16 i = iN (sb i - 1) ∧ 1 ≤ sb i ∧ sb i ≤ 106) (hA : zLa (s.2.2.1 21) l) : ∃ A, f_S_sortByBlock_14_21 K N (iN l.length) s t = some (.inl none, sF s 21 A, t) ∧ zLa A (zSort sb l) := by
  have go : wp (l_S_sortByBlock_14_21_2 K N N (iN l.length) (iN 1) (sF s 21 (s.2.2.1 21)) t) (fun z => ∃ A', z = .inl (42, [], sF s 21 A', t) ∧ zLa A' (zSort sb l)) := by
    by_cases h0 : l.length = 0
    · have hl0 : l = [] := List.length_eq_zero_iff.mp h0
      obtain ⟨M, rfl⟩ : ∃ M, N = M + 1 := ⟨N - 1, by omega⟩
      unfold l_S_sortByBlock_14_21_2
      rw [h0]
      refine wp_if (by decide) ⟨_, rfl, _, rfl, ?_⟩
      rw [hl0]; exact fun j hj => absurd hj (Nat.not_lt_zero _)
    · refine c_sort_loop K N n sets hN hK t s sb l hl hnd hinj hb (l.length - 1) 1 N (l.take 1) _ (by omega) (by omega) (by rw [List.length_take]; omega) (fun _ => Iff.rfl) ?_ ?_ (fun q _ h2 => hA q h2)
      · cases l with
        | nil => exact absurd rfl h0
        | cons a l => exact List.pairwise_cons.mpr ⟨fun _ h => absurd h List.not_mem_nil, List.Pairwise.nil⟩
      · intro q hq
        rw [List.length_take] at hq
        rw [hA q (by omega), List.getD_eq_getElem?_getD, List.getD_eq_getElem?_getD, List.getElem?_take_of_lt (by omega)]
  obtain ⟨z, e1, A, e2, e3⟩ := go
  rw [sF_triv] at e1
  have e1 : l_S_sortByBlock_14_21_2 K N N (iN l.length) (1 : Int32) s t = _ := e1
  refine ⟨A, ?_, e3⟩
  unfold f_S_sortByBlock_14_21
  rw [e1, e2]; rfl

/-! THE CLASS: rows, landed slots -/
theorem c_fill_loop_11 (K : px_K) (N : Nat) (t : px_W) (x : Int32) (s : px_S) (L : Nat) (hL : K.2.2 11 = L) (hL2 : L < 2000) : ∀ (d m n : Nat), m + d = L → d < n → l_Arrays_fill_11_5 K N n x (Int32.ofNat L) (iN m) (sF s 11 (fun j => if j < m then x else s.2.2.1 11 j)) t = some (.inl (14, [], sF s 11 (fun j => if j < L then x else s.2.2.1 11 j), t)) := by
  intro d
  induction d with
  | zero =>
    intro m n hm hn
    obtain ⟨n, rfl⟩ : ∃ n', n = n' + 1 := ⟨n - 1, by omega⟩
    have hm : m = L := by omega
    subst hm
    unfold l_Arrays_fill_11_5
    rw [if_pos (by show iN m ≤ iN m; rw [iN_le (by omega) (by omega)]; omega)]
  | succ d ih =>
    intro m n hm hn
    obtain ⟨n, rfl⟩ : ∃ n', n = n' + 1 := ⟨n - 1, by omega⟩
    have hst := ih (m + 1) n (by omega) (by omega)
    unfold l_Arrays_fill_11_5
    rw [if_neg (by show ¬ iN L ≤ iN m; rw [iN_le (by omega) (by omega)]; omega), px_gd_of (by rw [hL]; exact iN_in (by omega) (by omega)), iN_nat (a := m) (by omega), sA_sF, iL1, iN_add]
    have eg : upd (fun j => if j < m then x else s.2.2.1 11 j) m x = fun j => if j < m + 1 then x else s.2.2.1 11 j := by
      funext j
      by_cases hj : j = m
      · rw [hj, upd_self, if_pos (by omega)]
      · rw [upd_ne hj]
        by_cases hj2 : j < m
        · rw [if_pos hj2, if_pos (by omega)]
        · rw [if_neg hj2, if_neg (by omega)]
    rw [eg]
    exact hst
theorem c_fill_11 (K : px_K) (N : Nat) (hN : 2000 ≤ N) (t : px_W) (x : Int32) (s : px_S) (L : Nat) (hL : K.2.2 11 = L) (hL2 : L < 2000) : f_Arrays_fill_11 K N x s t = some (.inl none, sF s 11 (fun j => if j < L then x else s.2.2.1 11 j), t) := by
  have h := c_fill_loop_11 K N t x s L hL hL2 L 0 N (by omega) (by omega)
  have e0 : (fun j => if j < 0 then x else s.2.2.1 11 j) = s.2.2.1 11 := by
    funext j; exact if_neg (Nat.not_lt_zero _)
  rw [e0, sF_triv] at h
  have h : l_Arrays_fill_11_5 K N N x (Int32.ofNat L) (0 : Int32) s t = _ := h
  unfold f_Arrays_fill_11
  rw [hL]
  show px_lp (l_Arrays_fill_11_5 K N N x (Int32.ofNat L) (0 : Int32) s t) _ _ = _
  rw [h]; rfl
theorem c_fill_loop_12 (K : px_K) (N : Nat) (t : px_W) (x : Int32) (s : px_S) (L : Nat) (hL : K.2.2 12 = L) (hL2 : L < 2000) : ∀ (d m n : Nat), m + d = L → d < n → l_Arrays_fill_12_5 K N n x (Int32.ofNat L) (iN m) (sF s 12 (fun j => if j < m then x else s.2.2.1 12 j)) t = some (.inl (14, [], sF s 12 (fun j => if j < L then x else s.2.2.1 12 j), t)) := by
  intro d
  induction d with
  | zero =>
    intro m n hm hn
    obtain ⟨n, rfl⟩ : ∃ n', n = n' + 1 := ⟨n - 1, by omega⟩
    have hm : m = L := by omega
    subst hm
    unfold l_Arrays_fill_12_5
    rw [if_pos (by show iN m ≤ iN m; rw [iN_le (by omega) (by omega)]; omega)]
  | succ d ih =>
    intro m n hm hn
    obtain ⟨n, rfl⟩ : ∃ n', n = n' + 1 := ⟨n - 1, by omega⟩
    have hst := ih (m + 1) n (by omega) (by omega)
    unfold l_Arrays_fill_12_5
    rw [if_neg (by show ¬ iN L ≤ iN m; rw [iN_le (by omega) (by omega)]; omega), px_gd_of (by rw [hL]; exact iN_in (by omega) (by omega)), iN_nat (a := m) (by omega), sA_sF, iL1, iN_add]
    have eg : upd (fun j => if j < m then x else s.2.2.1 12 j) m x = fun j => if j < m + 1 then x else s.2.2.1 12 j := by
      funext j
      by_cases hj : j = m
      · rw [hj, upd_self, if_pos (by omega)]
      · rw [upd_ne hj]
        by_cases hj2 : j < m
        · rw [if_pos hj2, if_pos (by omega)]
        · rw [if_neg hj2, if_neg (by omega)]
    rw [eg]
    exact hst
theorem c_fill_12 (K : px_K) (N : Nat) (hN : 2000 ≤ N) (t : px_W) (x : Int32) (s : px_S) (L : Nat) (hL : K.2.2 12 = L) (hL2 : L < 2000) : f_Arrays_fill_12 K N x s t = some (.inl none, sF s 12 (fun j => if j < L then x else s.2.2.1 12 j), t) := by
  have h := c_fill_loop_12 K N t x s L hL hL2 L 0 N (by omega) (by omega)
  have e0 : (fun j => if j < 0 then x else s.2.2.1 12 j) = s.2.2.1 12 := by
    funext j; exact if_neg (Nat.not_lt_zero _)
  rw [e0, sF_triv] at h
  have h : l_Arrays_fill_12_5 K N N x (Int32.ofNat L) (0 : Int32) s t = _ := h
  unfold f_Arrays_fill_12
  rw [hL]
  show px_lp (l_Arrays_fill_12_5 K N N x (Int32.ofNat L) (0 : Int32) s t) _ _ = _
  rw [h]; rfl
theorem c_fill_loop_19 (K : px_K) (N : Nat) (t : px_W) (x : Int32) (s : px_S) (L : Nat) (hL : K.2.2 19 = L) (hL2 : L < 2000) : ∀ (d m n : Nat), m + d = L → d < n → l_Arrays_fill_19_5 K N n x (Int32.ofNat L) (iN m) (sF s 19 (fun j => if j < m then x else s.2.2.1 19 j)) t = some (.inl (14, [], sF s 19 (fun j => if j < L then x else s.2.2.1 19 j), t)) := by
  intro d
  induction d with
  | zero =>
    intro m n hm hn
    obtain ⟨n, rfl⟩ : ∃ n', n = n' + 1 := ⟨n - 1, by omega⟩
    have hm : m = L := by omega
    subst hm
    unfold l_Arrays_fill_19_5
    rw [if_pos (by show iN m ≤ iN m; rw [iN_le (by omega) (by omega)]; omega)]
  | succ d ih =>
    intro m n hm hn
    obtain ⟨n, rfl⟩ : ∃ n', n = n' + 1 := ⟨n - 1, by omega⟩
    have hst := ih (m + 1) n (by omega) (by omega)
    unfold l_Arrays_fill_19_5
    rw [if_neg (by show ¬ iN L ≤ iN m; rw [iN_le (by omega) (by omega)]; omega), px_gd_of (by rw [hL]; exact iN_in (by omega) (by omega)), iN_nat (a := m) (by omega), sA_sF, iL1, iN_add]
    have eg : upd (fun j => if j < m then x else s.2.2.1 19 j) m x = fun j => if j < m + 1 then x else s.2.2.1 19 j := by
      funext j
      by_cases hj : j = m
      · rw [hj, upd_self, if_pos (by omega)]
      · rw [upd_ne hj]
        by_cases hj2 : j < m
        · rw [if_pos hj2, if_pos (by omega)]
        · rw [if_neg hj2, if_neg (by omega)]
    rw [eg]
    exact hst
theorem c_fill_19 (K : px_K) (N : Nat) (hN : 2000 ≤ N) (t : px_W) (x : Int32) (s : px_S) (L : Nat) (hL : K.2.2 19 = L) (hL2 : L < 2000) : f_Arrays_fill_19 K N x s t = some (.inl none, sF s 19 (fun j => if j < L then x else s.2.2.1 19 j), t) := by
  have h := c_fill_loop_19 K N t x s L hL hL2 L 0 N (by omega) (by omega)
  have e0 : (fun j => if j < 0 then x else s.2.2.1 19 j) = s.2.2.1 19 := by
    funext j; exact if_neg (Nat.not_lt_zero _)
  rw [e0, sF_triv] at h
  have h : l_Arrays_fill_19_5 K N N x (Int32.ofNat L) (0 : Int32) s t = _ := h
  unfold f_Arrays_fill_19
  rw [hL]
  show px_lp (l_Arrays_fill_19_5 K N N x (Int32.ofNat L) (0 : Int32) s t) _ _ = _
  rw [h]; rfl
theorem c_fill_loop_20 (K : px_K) (N : Nat) (t : px_W) (x : Int32) (s : px_S) (L : Nat) (hL : K.2.2 20 = L) (hL2 : L < 2000) : ∀ (d m n : Nat), m + d = L → d < n → l_Arrays_fill_20_5 K N n x (Int32.ofNat L) (iN m) (sF s 20 (fun j => if j < m then x else s.2.2.1 20 j)) t = some (.inl (14, [], sF s 20 (fun j => if j < L then x else s.2.2.1 20 j), t)) := by
  intro d
  induction d with
  | zero =>
    intro m n hm hn
    obtain ⟨n, rfl⟩ : ∃ n', n = n' + 1 := ⟨n - 1, by omega⟩
    have hm : m = L := by omega
    subst hm
    unfold l_Arrays_fill_20_5
    rw [if_pos (by show iN m ≤ iN m; rw [iN_le (by omega) (by omega)]; omega)]
  | succ d ih =>
    intro m n hm hn
    obtain ⟨n, rfl⟩ : ∃ n', n = n' + 1 := ⟨n - 1, by omega⟩
    have hst := ih (m + 1) n (by omega) (by omega)
    unfold l_Arrays_fill_20_5
    rw [if_neg (by show ¬ iN L ≤ iN m; rw [iN_le (by omega) (by omega)]; omega), px_gd_of (by rw [hL]; exact iN_in (by omega) (by omega)), iN_nat (a := m) (by omega), sA_sF, iL1, iN_add]
    have eg : upd (fun j => if j < m then x else s.2.2.1 20 j) m x = fun j => if j < m + 1 then x else s.2.2.1 20 j := by
      funext j
      by_cases hj : j = m
      · rw [hj, upd_self, if_pos (by omega)]
      · rw [upd_ne hj]
        by_cases hj2 : j < m
        · rw [if_pos hj2, if_pos (by omega)]
        · rw [if_neg hj2, if_neg (by omega)]
    rw [eg]
    exact hst
theorem c_fill_20 (K : px_K) (N : Nat) (hN : 2000 ≤ N) (t : px_W) (x : Int32) (s : px_S) (L : Nat) (hL : K.2.2 20 = L) (hL2 : L < 2000) : f_Arrays_fill_20 K N x s t = some (.inl none, sF s 20 (fun j => if j < L then x else s.2.2.1 20 j), t) := by
  have h := c_fill_loop_20 K N t x s L hL hL2 L 0 N (by omega) (by omega)
  have e0 : (fun j => if j < 0 then x else s.2.2.1 20 j) = s.2.2.1 20 := by
    funext j; exact if_neg (Nat.not_lt_zero _)
  rw [e0, sF_triv] at h
  have h : l_Arrays_fill_20_5 K N N x (Int32.ofNat L) (0 : Int32) s t = _ := h
  unfold f_Arrays_fill_20
  rw [hL]
  show px_lp (l_Arrays_fill_20_5 K N N x (Int32.ofNat L) (0 : Int32) s t) _ _ = _
  rw [h]; rfl
theorem c_fill_loop_27 (K : px_K) (N : Nat) (t : px_W) (x : Int32) (s : px_S) (L : Nat) (hL : K.2.2 27 = L) (hL2 : L < 2000) : ∀ (d m n : Nat), m + d = L → d < n → l_Arrays_fill_27_5 K N n x (Int32.ofNat L) (iN m) (sF s 27 (fun j => if j < m then x else s.2.2.1 27 j)) t = some (.inl (14, [], sF s 27 (fun j => if j < L then x else s.2.2.1 27 j), t)) := by
  intro d
  induction d with
  | zero =>
    intro m n hm hn
    obtain ⟨n, rfl⟩ : ∃ n', n = n' + 1 := ⟨n - 1, by omega⟩
    have hm : m = L := by omega
    subst hm
    unfold l_Arrays_fill_27_5
    rw [if_pos (by show iN m ≤ iN m; rw [iN_le (by omega) (by omega)]; omega)]
  | succ d ih =>
    intro m n hm hn
    obtain ⟨n, rfl⟩ : ∃ n', n = n' + 1 := ⟨n - 1, by omega⟩
    have hst := ih (m + 1) n (by omega) (by omega)
    unfold l_Arrays_fill_27_5
    rw [if_neg (by show ¬ iN L ≤ iN m; rw [iN_le (by omega) (by omega)]; omega), px_gd_of (by rw [hL]; exact iN_in (by omega) (by omega)), iN_nat (a := m) (by omega), sA_sF, iL1, iN_add]
    have eg : upd (fun j => if j < m then x else s.2.2.1 27 j) m x = fun j => if j < m + 1 then x else s.2.2.1 27 j := by
      funext j
      by_cases hj : j = m
      · rw [hj, upd_self, if_pos (by omega)]
      · rw [upd_ne hj]
        by_cases hj2 : j < m
        · rw [if_pos hj2, if_pos (by omega)]
        · rw [if_neg hj2, if_neg (by omega)]
    rw [eg]
    exact hst
theorem c_fill_27 (K : px_K) (N : Nat) (hN : 2000 ≤ N) (t : px_W) (x : Int32) (s : px_S) (L : Nat) (hL : K.2.2 27 = L) (hL2 : L < 2000) : f_Arrays_fill_27 K N x s t = some (.inl none, sF s 27 (fun j => if j < L then x else s.2.2.1 27 j), t) := by
  have h := c_fill_loop_27 K N t x s L hL hL2 L 0 N (by omega) (by omega)
  have e0 : (fun j => if j < 0 then x else s.2.2.1 27 j) = s.2.2.1 27 := by
    funext j; exact if_neg (Nat.not_lt_zero _)
  rw [e0, sF_triv] at h
  have h : l_Arrays_fill_27_5 K N N x (Int32.ofNat L) (0 : Int32) s t = _ := h
  unfold f_Arrays_fill_27
  rw [hL]
  show px_lp (l_Arrays_fill_27_5 K N N x (Int32.ofNat L) (0 : Int32) s t) _ _ = _
  rw [h]; rfl
theorem c_setRow (K : px_K) (N n sets : Nat) (hN : 2000 ≤ N) (hK : zKc K n sets) (t : px_W) (s : px_S) (a b c : Nat) (a0 b0 c0 : Int32) (ha : a0 = iN a) (hb : b0 = iN b) (hc : c0 = iN c) : ∃ g, f_V_setRow_13 K N a0 b0 c0 s t = some (.inl none, sF s 20 g, t) ∧ ∀ w, w < 16 → g w = zThree a b c w := by
  have k20 : K.2.2 20 = 16 := hK.2.2.2.2.2.2.2.2.2.2.2.2.2.1
  obtain ⟨g, hg⟩ : ∃ g : Nat → Int32, g = fun j => if j < 16 then (0 : Int32) else s.2.2.1 20 j := ⟨_, rfl⟩
  have hf := c_fill_20 K N hN t 0 s 16 k20 (by omega)
  rw [← hg] at hf
  refine ⟨upd (upd (upd g 0 a0) 1 b0) 2 c0, ?_, ?_⟩
  · obtain ⟨r, e1, e2⟩ : wp (f_V_setRow_13 K N a0 b0 c0 s t) (fun r => r = (.inl none, sF s 20 (upd (upd (upd g 0 a0) 1 b0) 2 c0), t)) := by
      unfold f_V_setRow_13
      rw [k20]
      refine wp_bv hf (wp_gd (iN_in (a := 0) (n := 16) (by omega) (by omega)) (wp_let (wp_gd (iN_in (a := 1) (n := 16) (by omega) (by omega)) (wp_let (wp_gd (iN_in (a := 2) (n := 16) (by omega) (by omega)) (wp_let (wp_some ?_)))))))
      rw [sA_sF, sA_sF, sA_sF]; rfl
    rw [e1, e2]
  · intro w hw
    unfold zThree
    by_cases h2 : w = 2
    · rw [h2, upd_self, if_neg (by omega), if_neg (by omega), if_pos rfl, hc]
    rw [upd_ne h2]
    by_cases h1 : w = 1
    · rw [h1, upd_self, if_neg (by omega), if_pos rfl, hb]
    rw [upd_ne h1]
    by_cases h0 : w = 0
    · rw [h0, upd_self, if_pos rfl, ha]
    rw [upd_ne h0, if_neg h0, if_neg h1, if_neg h2, hg]
    exact if_pos hw
theorem c_landed (K : px_K) (N n sets : Nat) (hK : zKc K n sets) (t : px_W) (s : px_S) (d : ZDv) (h : zCd s 1 3 125 d) : f_V_landed_13 K N s t = some (.inl (some (.int (d.now 1 1))), s, t) := by
  have k6 : K.2.2 6 = 2000 := hK.2.2.1
  unfold f_V_landed_13
  rw [px_gd_of (by rw [k6]; exact iN_in (a := 17) (n := 2000) (by omega) (by omega))]
  have := h.2.2.2.2.2.2.2 1 1 (by omega) (by omega)
  rw [← this]; rfl
/-! setLanded -/
theorem setLanded_mrk {e : Nat} {v : ZVs} (he : 0 < e) (h0 : ∀ s, s < v.n → v.sb s = 0 → v.se s = 0) (h3 : ∀ s s', s < v.n → s' < v.n → v.sb s ≠ 0 → v.sb s = v.sb s' → v.se s = v.se s' ∨ v.se s = 0 → s = s') : ∀ i, i ≤ v.n → ∀ s, (ZVs.setLanded e i v).mrk s = if (ZVs.setLanded e i v).sb s = v.sb s then v.mrk s else false := by
  intro i
  induction i with
  | zero => intro _ s; exact (if_pos rfl).symm
  | succ i ih =>
    intro hi s
    have hs := setLanded_spec he h0 h3 i (by omega) i
    rw [if_neg (by omega), if_neg (by omega)] at hs
    have ih := ih (by omega) s
    rw [setLanded_step]
    obtain ⟨u, hu⟩ : ∃ u, u = ZVs.setLanded e i v := ⟨_, rfl⟩
    rw [← hu] at hs ih
    rw [← hu]
    by_cases hc : u.se i = e
    · rw [if_pos hc]
      cases (u.s_se (zu u.se i 0)).newest (u.sb i - 1) with
      | none => exact ih
      | some j =>
        show ((if 0 < (u.s_se (zu u.se i 0)).se j then ((u.s_se (zu u.se i 0)).s_sb (zu u.sb i 0)).s_mrk (zu u.mrk i false) else u.s_se (zu u.se i 0)) : ZVs).mrk s = if ((if 0 < (u.s_se (zu u.se i 0)).se j then ((u.s_se (zu u.se i 0)).s_sb (zu u.sb i 0)).s_mrk (zu u.mrk i false) else u.s_se (zu u.se i 0)) : ZVs).sb s = v.sb s then v.mrk s else false
        by_cases hj : 0 < (u.s_se (zu u.se i 0)).se j
        · rw [if_pos hj]
          show zu u.mrk i false s = if zu u.sb i 0 s = v.sb s then v.mrk s else false
          by_cases hsi : s = i
          · subst hsi
            have hne : v.sb s ≠ 0 := fun hx => by
              have := h0 s (by omega) hx
              rw [hs.1] at hc; omega
            rw [zu_self, zu_self, if_neg (fun hx => hne hx.symm)]
          · rw [zu_ne _ _ hsi, zu_ne _ _ hsi]; exact ih
        · rw [if_neg hj]; exact ih
    · rw [if_neg hc]; exact ih
/-- the slots while some of an epoch have landed -/
noncomputable def zLst (v : ZVs) (L : List Nat) : ZVs := ZVs.mk v.p v.sets v.ways v.eps v.wf (fun s => @ite _ (s ∈ L ∧ ∃ j, j < v.n ∧ j ≠ s ∧ v.sb j = v.sb s) (Classical.propDecidable _) 0 (v.sb s)) (fun s => if s ∈ L then 0 else v.se s) (fun s => @ite _ (s ∈ L ∧ ∃ j, j < v.n ∧ j ≠ s ∧ v.sb j = v.sb s) (Classical.propDecidable _) false (v.mrk s)) v.hd v.opn v.half v.gen v.plc
theorem zLst_done {e : Nat} {v : ZVs} (hs : zSw v) (he : 0 < e) (L : List Nat) (hL : ∀ i, i ∈ L ↔ i < v.n ∧ v.se i = e) (s : Nat) (hsn : s < v.n) : (ZVs.setLanded e v.n v).sb s = (zLst v L).sb s ∧ (ZVs.setLanded e v.n v).se s = (zLst v L).se s ∧ (ZVs.setLanded e v.n v).mrk s = (zLst v L).mrk s := by
  have h0 := hs.2.2.1
  have h3 := hs.2.2.2.2.2.1
  obtain ⟨a1, a2⟩ := setLanded_spec he h0 h3 v.n (Nat.le_refl _) s
  have a3 := setLanded_mrk he h0 h3 v.n (Nat.le_refl _) s
  rw [if_pos hsn] at a1 a2
  have hm : s ∈ L ↔ v.se s = e := by rw [hL]; exact ⟨fun h => h.2, fun h => ⟨hsn, h⟩⟩
  have b2 : (zLst v L).sb s = zLsb v.sb v.se v.n e s := by
    show @ite _ _ (Classical.propDecidable _) _ _ = @ite _ _ (Classical.propDecidable _) _ _
    by_cases hc : v.se s = e ∧ ∃ j, j < v.n ∧ j ≠ s ∧ v.sb j = v.sb s
    · rw [if_pos ⟨hm.mpr hc.1, hc.2⟩, if_pos hc]
    · rw [if_neg (fun hx => hc ⟨hm.mp hx.1, hx.2⟩), if_neg hc]
  refine ⟨a2.trans b2.symm, ?_, ?_⟩
  · rw [a1]
    show zOff v.se e s = if s ∈ L then 0 else v.se s
    unfold zOff
    by_cases hc : v.se s = e
    · rw [if_pos hc, if_pos (hm.mpr hc)]
    · rw [if_neg hc, if_neg (fun hx => hc (hm.mp hx))]
  · rw [a3, a2]
    show (if zLsb v.sb v.se v.n e s = v.sb s then v.mrk s else false) = @ite _ _ (Classical.propDecidable _) _ _
    unfold zLsb
    by_cases hc : v.se s = e ∧ ∃ j, j < v.n ∧ j ≠ s ∧ v.sb j = v.sb s
    · have hne : v.sb s ≠ 0 := fun hx => by have := h0 s hsn hx; omega
      rw [if_pos (c := s ∈ L ∧ _) ⟨hm.mpr hc.1, hc.2⟩, if_pos (c := v.se s = e ∧ _) hc, if_neg (fun hx => hne hx.symm)]
    · rw [if_neg (c := s ∈ L ∧ _) (fun hx => hc ⟨hm.mp hx.1, hx.2⟩), if_neg (c := v.se s = e ∧ _) hc, if_pos rfl]
theorem c_setLanded (K : px_K) (N n sets : Nat) (hN : 2000 ≤ N) (hK : zKc K n sets) (t : px_W) (s : px_S) (v : ZVs) (hn : v.n = n) (hz : zCz s v) (hs : zSw v) (e : Nat) (he : 0 < e) (L : List Nat) (hL : ∀ i ∈ L, i < v.n ∧ v.se i = e) (i : Nat) (hi : i < v.n) (hie : v.se i = e) (hiL : i ∉ L) (h : zCk s (zLst v L)) : ∃ u, f_S_setLanded_14 K N (iN i) s t = some (.inl none, u, t) ∧ zCk u (zLst v (i :: L)) ∧ zHs s u ∧ u.2.2.1 19 = s.2.2.1 19 := by
  have hn64 : n ≤ 64 := hK.2.2.2.2.2.2.2.2.2.2.2.2.2.2.2.2.2.2.2.2
  have k15 : K.2.2 15 = n := hK.2.2.2.2.2.2.2.2.1
  have k16 : K.2.2 16 = n := hK.2.2.2.2.2.2.2.2.2.1
  have k17 : K.2.2 17 = n := hK.2.2.2.2.2.2.2.2.2.2.1
  have h0 := hs.2.2.1
  have h3 := hs.2.2.2.2.2.1
  have hsb0 : v.sb i ≠ 0 := fun hx => by have := h0 i hi hx; omega
  obtain ⟨hb106, hbset⟩ := hs.2.2.2.2.1 i hi hsb0
  -- the slots with this one landed, not yet freed
  obtain ⟨w, hw⟩ : ∃ w, w = (zLst v L).s_se (zu (zLst v L).se i 0) := ⟨_, rfl⟩
  have wn : w.n = v.n := by rw [hw]; rfl
  have wsb : w.sb = (zLst v L).sb := by rw [hw]; rfl
  have wse : w.se = zu (zLst v L).se i 0 := by rw [hw]; rfl
  have wmk : w.mrk = (zLst v L).mrk := by rw [hw]; rfl
  have esb : ∀ j, (zLst v L).sb j = v.sb j ∨ ((zLst v L).sb j = 0 ∧ j ∈ L) := by
    intro j
    by_cases hc : j ∈ L ∧ ∃ q, q < v.n ∧ q ≠ j ∧ v.sb q = v.sb j
    · exact Or.inr ⟨if_pos hc, hc.1⟩
    · exact Or.inl (if_neg hc)
  have ese : ∀ j, (zLst v L).se j = if j ∈ L then 0 else v.se j := fun _ => rfl
  have ei1 : (zLst v L).sb i = v.sb i := by
    rcases esb i with h | h
    · exact h
    · exact absurd h.2 hiL
  have hws : zSx w := by
    refine ⟨by rw [hw]; exact hs.1, by rw [hw]; exact hs.2.1, ?_, ?_⟩
    · intro j hj
      rw [wn] at hj
      have h4 := hs.2.2.2.1 j hj
      have : w.opn = v.opn := by rw [hw]; rfl
      rw [this, wse]
      by_cases hji : j = i
      · rw [hji, zu_self]; omega
      · rw [zu_ne _ _ hji, ese j]
        split
        · omega
        · exact h4
    · intro j hj hx
      rw [wn] at hj
      rw [wsb] at hx ⊢
      have e1 : w.ways = v.ways := by rw [hw]; rfl
      have e2 : w.sets = v.sets := by rw [hw]; rfl
      rw [e1, e2]
      rcases esb j with h | h
      · rw [h] at hx ⊢; exact hs.2.2.2.2.1 j hj hx
      · exact absurd h.1 hx
  -- the state with it landed
  obtain ⟨s5, hs5⟩ : ∃ s5, s5 = sA (sA s 15 i 1) 17 i 0 := ⟨_, rfl⟩
  have a15 : s5.2.2.1 15 = upd (s.2.2.1 15) i 1 := by
    rw [hs5]; show (sF (sF s 15 _) 17 _).2.2.1 15 = _
    rw [sF_arr_ne (by omega), sF_arr]
  have a17 : s5.2.2.1 17 = upd (s.2.2.1 17) i 0 := by
    rw [hs5]; show (sF (sF s 15 _) 17 _).2.2.1 17 = _
    rw [sF_arr]
    show upd ((sF s 15 _).2.2.1 17) i 0 = _
    rw [sF_arr_ne (by omega)]
  have a16 : s5.2.2.1 16 = s.2.2.1 16 := by
    rw [hs5]; show (sF (sF s 15 _) 17 _).2.2.1 16 = _
    rw [sF_arr_ne (by omega), sF_arr_ne (by omega)]
  have a18 : s5.2.2.1 18 = s.2.2.1 18 := by
    rw [hs5]; show (sF (sF s 15 _) 17 _).2.2.1 18 = _
    rw [sF_arr_ne (by omega), sF_arr_ne (by omega)]
  have a19 : s5.2.2.1 19 = s.2.2.1 19 := by
    rw [hs5]; show (sF (sF s 15 _) 17 _).2.2.1 19 = _
    rw [sF_arr_ne (by omega), sF_arr_ne (by omega)]
  have hH : zHs s s5 := by rw [hs5]; exact zHs_trans (zHs_sA (by omega)) (zHs_sA (by omega))
  have hck : zCk s5 w := by
    intro j hj
    rw [wn] at hj
    obtain ⟨d1, d2, d3, d4⟩ := h j hj
    unfold zC1
    rw [a15, a16, a17, a18, wsb, wse, wmk]
    by_cases hji : j = i
    · rw [hji] at d2 d4 ⊢
      rw [upd_self, upd_self, zu_self]
      exact ⟨((zKnd_1 _ _).mpr ⟨by rw [ei1]; exact hsb0, rfl⟩).symm, d2, rfl, d4⟩
    · rw [upd_ne hji, upd_ne hji, zu_ne _ _ hji]; exact ⟨d1, d2, d3, d4⟩
  have hzw : zCz s5 w := by
    unfold zCz
    rw [hH.2.1, hw]
    exact hz
  have hnew := c_newest K N n sets hN hK t s5 w (by rw [wn, hn]) hck hzw hws (v.sb i - 1) (by omega)
  have c16 : s5.2.2.1 16 i = iN (v.sb i - 1) := by rw [a16, (h i hi).2.1, ei1]
  -- what comes of it
  have hfin : (∃ j, j < v.n ∧ j ≠ i ∧ v.sb j = v.sb i) ∨ ¬ (∃ j, j < v.n ∧ j ≠ i ∧ v.sb j = v.sb i) := Classical.em _
  have hcons : ∀ j, (j ∈ i :: L) ↔ (j = i ∨ j ∈ L) := fun j => List.mem_cons
  obtain ⟨j, hj1, hj2, hj3, hj4⟩ : ∃ j, w.newest (v.sb i - 1) = some j ∧ j < v.n ∧ w.sb j = v.sb i ∧ ∀ q, q < v.n → w.sb q = v.sb i → w.se q ≤ w.se j := by
    have esi : v.sb i - 1 + 1 = v.sb i := by omega
    cases hx : w.newest (v.sb i - 1) with
    | none =>
      have := zNew_none.mp hx i (by rw [wn]; exact hi)
      rw [wsb, ei1, esi] at this
      exact absurd rfl this
    | some j =>
      obtain ⟨q1, q2, q3⟩ := zNew_some hx
      rw [esi] at q2 q3
      rw [wn] at q1 q3
      exact ⟨j, rfl, q1, q2, q3⟩
  rw [hj1] at hnew
  obtain ⟨d1, d2, d3, d4⟩ := hck j (by rw [wn]; exact hj2)
  obtain ⟨r, q1, q2⟩ : wp (f_S_setLanded_14 K N (iN i) s t) (zB t (fun u => zCk u (zLst v (i :: L)) ∧ zHs s u ∧ u.2.2.1 19 = s.2.2.1 19)) := by
    unfold f_S_setLanded_14
    rw [iN_nat (a := i) (by omega)]
    refine wp_gd (by rw [k15]; exact iN_in (by omega) (by omega)) (wp_let (wp_gd (by rw [k17]; exact iN_in (by omega) (by omega)) (wp_let ?_)))
    rw [← hs5, c16]
    refine wp_gd (by rw [k16]; exact iN_in (by omega) (by omega)) (wp_bi hnew ?_)
    show wp (if iN j < 0 then _ else _) _
    refine wp_ifn (iN_neg (by omega)) ?_
    show wp (px_gd (vp_in (iN j) (K.2.2 15)) (if ¬ s5.2.2.1 15 (iN j).toNatClampNeg = 2 then _ else _)) _
    rw [iN_nat (a := j) (by omega), d1]
    refine wp_gd (by rw [k15]; exact iN_in (by omega) (by omega)) ?_
    by_cases hex : ∃ j, j < v.n ∧ j ≠ i ∧ v.sb j = v.sb i
    · -- another has the block: it is dirty, and newer
      obtain ⟨q, g1, g2, g3⟩ := hex
      have hq0 : v.se q ≠ 0 := fun hx => g2 (h3 q i g1 hi (by rw [g3]; exact hsb0) g3 (Or.inr hx))
      have hqe : v.se q ≠ e := fun hx => g2 (h3 q i g1 hi (by rw [g3]; exact hsb0) g3 (Or.inl (hx.trans hie.symm)))
      have hqL : q ∉ L := fun hx => hqe (hL q hx).2
      have hqsb : w.sb q = v.sb i := by
        rw [wsb]
        rcases esb q with hh | hh
        · rw [hh, g3]
        · exact absurd hh.2 hqL
      have hqse : w.se q = v.se q := by rw [wse, zu_ne _ _ g2, ese q, if_neg hqL]
      have hpos := hj4 q g1 hqsb
      rw [hqse] at hpos
      refine wp_ifn (fun hx => hx ((zKnd_2 _ _).mpr ⟨by rw [hj3]; exact hsb0, by omega⟩)) (wp_bv (c_free K N n sets hK t s5 i (by omega)) (wp_rB ⟨?_, ?_, ?_⟩))
      · refine zC1_free (v := w) (fun j hj hji => hck j hj) (by rw [wn]; rfl) ⟨?_, ?_, ?_⟩ (fun j hji => ⟨?_, ?_, ?_⟩)
        · exact if_pos ⟨List.mem_cons_self, q, g1, g2, g3⟩
        · exact if_pos List.mem_cons_self
        · exact if_pos ⟨List.mem_cons_self, q, g1, g2, g3⟩
        · rw [wsb]
          show @ite _ _ (Classical.propDecidable _) _ _ = @ite _ _ (Classical.propDecidable _) _ _
          by_cases hc : j ∈ L ∧ ∃ q, q < v.n ∧ q ≠ j ∧ v.sb q = v.sb j
          · rw [if_pos (c := j ∈ i :: L ∧ _) ⟨List.mem_cons_of_mem _ hc.1, hc.2⟩, if_pos hc]
          · rw [if_neg (c := j ∈ i :: L ∧ _) (fun hx => by
              rcases (hcons j).mp hx.1 with h | h
              · exact hji h
              · exact hc ⟨h, hx.2⟩), if_neg hc]
        · rw [wse, zu_ne _ _ hji]
          show (if j ∈ i :: L then 0 else v.se j) = if j ∈ L then 0 else v.se j
          by_cases hc : j ∈ L
          · rw [if_pos hc, if_pos (List.mem_cons_of_mem _ hc)]
          · rw [if_neg hc, if_neg (fun hx => by
              rcases (hcons j).mp hx with h | h
              · exact hji h
              · exact hc h)]
        · rw [wmk]
          show @ite _ _ (Classical.propDecidable _) _ _ = @ite _ _ (Classical.propDecidable _) _ _
          by_cases hc : j ∈ L ∧ ∃ q, q < v.n ∧ q ≠ j ∧ v.sb q = v.sb j
          · rw [if_pos (c := j ∈ i :: L ∧ _) ⟨List.mem_cons_of_mem _ hc.1, hc.2⟩, if_pos hc]
          · rw [if_neg (c := j ∈ i :: L ∧ _) (fun hx => by
              rcases (hcons j).mp hx.1 with h | h
              · exact hji h
              · exact hc ⟨h, hx.2⟩), if_neg hc]
      · exact zHs_trans hH (zcF_eq s5 i).2.2.2.2.1
      · rw [(zcF_eq s5 i).2.2.2.2.2, a19]
    · -- it is the only one
      have hji : j = i := by
        by_cases hji : j = i
        · exact hji
        · refine absurd ⟨j, hj2, hji, ?_⟩ hex
          rw [wsb] at hj3
          rcases esb j with hh | hh
          · rw [← hh]; exact hj3
          · rw [hh.1] at hj3; exact absurd hj3.symm hsb0
      refine wp_if (fun hx => ?_) (wp_rB ⟨?_, hH, a19⟩)
      · have := ((zKnd_2 _ _).mp hx).2
        rw [wse, hji, zu_self] at this
        exact this rfl
      · intro q hq
        have hq : q < v.n := hq
        have hh := hck q (by rw [wn]; exact hq)
        have f1 : (zLst v (i :: L)).sb q = w.sb q := by
          rw [wsb]
          show @ite _ _ (Classical.propDecidable _) _ _ = @ite _ _ (Classical.propDecidable _) _ _
          by_cases hc : q ∈ L ∧ ∃ j, j < v.n ∧ j ≠ q ∧ v.sb j = v.sb q
          · rw [if_pos (c := q ∈ i :: L ∧ _) ⟨List.mem_cons_of_mem _ hc.1, hc.2⟩, if_pos hc]
          · rw [if_neg (c := q ∈ i :: L ∧ _) (fun hx => by
              rcases (hcons q).mp hx.1 with h | h
              · rw [h] at hx; exact hex hx.2
              · exact hc ⟨h, hx.2⟩), if_neg hc]
        have f2 : (zLst v (i :: L)).se q = w.se q := by
          rw [wse]
          show (if q ∈ i :: L then 0 else v.se q) = _
          by_cases hqi : q = i
          · rw [hqi, zu_self, if_pos List.mem_cons_self]
          · rw [zu_ne _ _ hqi, ese q]
            by_cases hc : q ∈ L
            · rw [if_pos hc, if_pos (List.mem_cons_of_mem _ hc)]
            · rw [if_neg hc, if_neg (fun hx => by
                rcases (hcons q).mp hx with h | h
                · exact hqi h
                · exact hc h)]
        have f3 : (zLst v (i :: L)).mrk q = w.mrk q := by
          rw [wmk]
          show @ite _ _ (Classical.propDecidable _) _ _ = @ite _ _ (Classical.propDecidable _) _ _
          by_cases hc : q ∈ L ∧ ∃ j, j < v.n ∧ j ≠ q ∧ v.sb j = v.sb q
          · rw [if_pos (c := q ∈ i :: L ∧ _) ⟨List.mem_cons_of_mem _ hc.1, hc.2⟩, if_pos hc]
          · rw [if_neg (c := q ∈ i :: L ∧ _) (fun hx => by
              rcases (hcons q).mp hx.1 with h | h
              · rw [h] at hx; exact hex hx.2
              · exact hc ⟨h, hx.2⟩), if_neg hc]
        unfold zC1
        rw [f1, f2, f3]; exact hh
  obtain ⟨u, q3, q4⟩ := q2
  exact ⟨u, by rw [q1, q3], q4⟩
/-! the slot to write to; a closed one in a set -/
theorem c_toWrite (K : px_K) (N n sets : Nat) (hN : 2000 ≤ N) (hK : zKc K n sets) (t : px_W) (s : px_S) (v : ZVs) (hn : v.n = n) (hsets : v.sets = sets) (h : zCk s v) (hy : zCy s v) (hz : zCz s v) (hs : zSw v) (b : Nat) (hb : b < 106) : wp (f_S_toWrite_14 K N (iN b) s t) (zA (oN (v.claim b).1) t (fun u => zCk u (v.claim b).2 ∧ zCy u (v.claim b).2 ∧ zHs s u)) := by
  have hn64 : n ≤ 64 := hK.2.2.2.2.2.2.2.2.2.2.2.2.2.2.2.2.2.2.2.2
  have k15 : K.2.2 15 = n := hK.2.2.2.2.2.2.2.2.1
  have s1 := hs.1.s1
  have s8 := hs.1.s8
  have hq : b % v.sets < v.sets := Nat.mod_lt _ (by omega)
  have hnew := c_newest K N n sets hN hK t s v hn h hz (zSw_x hs) b hb
  have hne : ¬ s.1 18 = 0 := by rw [hz.2.2.1, iL0, iN_eq (by omega) (by omega)]; omega
  have erem : iN b - iN b / s.1 18 * s.1 18 = iN (b % v.sets) := by rw [hz.2.2.1, iN_rem (by omega) (by omega) (by omega)]
  have hfind := c_find K N n sets hN hK t s v hn hsets h hy hz hs (b % v.sets) hq
  obtain ⟨u, hu1, hu2⟩ := wp_A hfind
  -- a clean slot with the block is the only one
  have hcl : ∀ j, v.newest b = some j → v.se j = 0 → zClean v.sb v.se b v.n = some j := by
    intro j hj hj0
    obtain ⟨q1, q2, q3⟩ := zNew_some hj
    cases hx : zClean v.sb v.se b v.n with
    | none => exact absurd hj0 (zClean_none hx j q1 q2)
    | some i =>
      obtain ⟨p1, p2, p3⟩ := zClean_some hx
      rw [hs.2.2.2.2.2.1 j i q1 p1 (by omega) (by rw [q2, p2]) (Or.inr hj0)]
  have hcn : (∀ j, v.newest b = some j → v.se j ≠ 0) → zClean v.sb v.se b v.n = none := by
    intro hall
    cases hx : zClean v.sb v.se b v.n with
    | none => rfl
    | some i =>
      obtain ⟨p1, p2, p3⟩ := zClean_some hx
      cases hy2 : v.newest b with
      | none => exact absurd p2 (zNew_none.mp hy2 i p1)
      | some j =>
        obtain ⟨q1, q2, q3⟩ := zNew_some hy2
        have := hs.2.2.2.2.2.1 i j p1 q1 (by omega) (by rw [q2, p2]) (Or.inr p3)
        subst this
        exact absurd p3 (hall i hy2)
  unfold f_S_toWrite_14
  refine wp_bi hnew ?_
  cases hx : v.newest b with
  | none =>
    have e : v.claim b = ZVs.find (b % v.sets) (2 * v.ways) v := by
      unfold ZVs.claim
      rw [hcn (fun j hj => by rw [hx] at hj; cases hj)]
    rw [e]
    show wp (if (-1 : Int32) < 0 then _ else _) _
    refine wp_if (by decide) (wp_gd hne ?_)
    rw [erem]
    exact wp_bi hu1 (wp_rA hu2)
  | some j =>
    obtain ⟨q1, q2, q3⟩ := zNew_some hx
    obtain ⟨d1, d2, d3, d4⟩ := h j q1
    show wp (α := px_Res) (if iN j < 0 then _ else px_gd (vp_in (iN j) (K.2.2 15)) (if ¬ s.2.2.1 15 (iN j).toNatClampNeg = 1 then _ else some (.inl (some (.int (iN j))), s, t))) _
    have q1' : j < v.n := q1
    rw [iN_nat (a := j) (by omega), d1]
    refine wp_ifn (iN_neg (by omega)) (wp_gd (by rw [k15]; exact iN_in (by omega) (by omega)) ?_)
    by_cases hj0 : v.se j = 0
    · have e : v.claim b = (some j, v) := by
        unfold ZVs.claim
        rw [hcl j hx hj0]
      rw [e]
      exact wp_ifn (fun hy => hy ((zKnd_1 _ _).mpr ⟨by omega, hj0⟩)) (wp_rA ⟨h, hy, zHs_refl s⟩)
    · have e : v.claim b = ZVs.find (b % v.sets) (2 * v.ways) v := by
        unfold ZVs.claim
        rw [hcn (fun i hi => by rw [hx] at hi; cases hi; exact hj0)]
      rw [e]
      refine wp_if (fun hy => hj0 ((zKnd_1 _ _).mp hy).2) (wp_gd hne ?_)
      rw [erem]
      exact wp_bi hu1 (wp_rA hu2)
theorem c_hasClosed_loop (K : px_K) (N n sets : Nat) (hK : zKc K n sets) (t : px_W) (s : px_S) (v : ZVs) (hn : v.n = n) (h : zCk s v) (hz : zCz s v) (hs : zSw v) (set : Nat) (hset : set < v.sets) : ∀ (d w f : Nat), w + d = v.ways → d < f → (∀ q, q < w → ¬ (0 < v.se (set * v.ways + q) ∧ v.se (set * v.ways + q) < v.opn)) → (v.hasClosed set ∧ l_S_hasClosed_14_5 K N f (iN set) (iN v.opn) (iN (set * v.ways + w)) s t = some (.inl (25, [], s, t))) ∨ (¬ v.hasClosed set ∧ l_S_hasClosed_14_5 K N f (iN set) (iN v.opn) (iN (set * v.ways + w)) s t = some (.inl (29, [], s, t))) := by
  have hn64 : n ≤ 64 := hK.2.2.2.2.2.2.2.2.2.2.2.2.2.2.2.2.2.2.2.2
  have k15 : K.2.2 15 = n := hK.2.2.2.2.2.2.2.2.1
  have k17 : K.2.2 17 = n := hK.2.2.2.2.2.2.2.2.2.2.1
  have hle := zSet_lt (ways := v.ways) hset
  have hle : set * v.ways + v.ways ≤ v.n := hle
  have o3 := hs.2.1
  have emul : (iN set + (1 : Int32)) * s.1 19 = iN (set * v.ways + v.ways) := by
    rw [hz.2.2.2.1, iL1, iN_add, iN_mul, Nat.succ_mul]
  intro d
  induction d with
  | zero =>
    intro w f hw hf hno
    obtain ⟨f, rfl⟩ : ∃ f', f = f' + 1 := ⟨f - 1, by omega⟩
    refine Or.inr ⟨?_, ?_⟩
    · rintro ⟨q, q1, q2⟩
      exact hno q (by omega) q2
    · unfold l_S_hasClosed_14_5
      rw [emul, if_pos (by rw [iN_le (by omega) (by omega)]; omega)]
  | succ d ih =>
    intro w f hw hf hno
    obtain ⟨f, rfl⟩ : ∃ f', f = f' + 1 := ⟨f - 1, by omega⟩
    obtain ⟨i, hi⟩ : ∃ i, i = set * v.ways + w := ⟨_, rfl⟩
    have hin : i < v.n := by omega
    obtain ⟨d1, d2, d3, d4⟩ := h i hin
    have o1 := hs.2.2.2.1 i hin
    have hrec := ih (w + 1) f (by omega) (by omega)
    rw [show set * v.ways + (w + 1) = i + 1 by omega] at hrec
    rw [← hi]
    have hdr : ∀ z, (v.se i = 0 ∨ v.se i = v.opn → l_S_hasClosed_14_5 K N f (iN set) (iN v.opn) (iN (i + 1)) s t = z) → (¬ (v.se i = 0 ∨ v.se i = v.opn) → z = some (.inl (25, [], s, t))) → l_S_hasClosed_14_5 K N (f + 1) (iN set) (iN v.opn) (iN i) s t = z := by
      intro z hz1 hz2
      conv => lhs; unfold l_S_hasClosed_14_5
      rw [emul, if_neg (by rw [iN_le (by omega) (by omega)]; omega), px_gd_of (by rw [k15]; exact iN_in (by omega) (by omega)), iN_nat (a := i) (by omega), d1, d3, iL1, iN_add]
      by_cases hk : zKnd (v.sb i) (v.se i) = 2
      · rw [if_neg (fun hx => hx hk), px_gd_of (by rw [k17]; exact iN_in (by omega) (by omega))]
        by_cases ho : v.se i = v.opn
        · rw [if_pos (by rw [ho])]; exact hz1 (Or.inr ho)
        · rw [if_neg (fun hx => ho ((iN_eq (by omega) (by omega)).mp hx))]
          exact (hz2 (fun hx => by rcases hx with hx | hx; exact ((zKnd_2 _ _).mp hk).2 hx; exact ho hx)).symm
      · rw [if_pos hk]
        refine hz1 (Or.inl ?_)
        by_cases h0 : v.se i = 0
        · exact h0
        · exact absurd ((zKnd_2 _ _).mpr ⟨fun hx => h0 (hs.2.2.1 i hin hx), h0⟩) hk
    by_cases hc : v.se i = 0 ∨ v.se i = v.opn
    · have hno2 : ∀ q, q < w + 1 → ¬ (0 < v.se (set * v.ways + q) ∧ v.se (set * v.ways + q) < v.opn) := by
        intro q hq
        by_cases hqw : q = w
        · rw [hqw, ← hi]; omega
        · exact hno q (by omega)
      rcases hrec hno2 with ⟨g1, g2⟩ | ⟨g1, g2⟩
      · exact Or.inl ⟨g1, hdr _ (fun _ => g2) (fun hx => absurd hc hx)⟩
      · exact Or.inr ⟨g1, hdr _ (fun _ => g2) (fun hx => absurd hc hx)⟩
    · refine Or.inl ⟨⟨w, by omega, ?_⟩, hdr _ (fun hx => absurd hx hc) (fun _ => rfl)⟩
      rw [← hi]; omega
theorem c_hasClosed (K : px_K) (N n sets : Nat) (hN : 2000 ≤ N) (hK : zKc K n sets) (t : px_W) (s : px_S) (v : ZVs) (hn : v.n = n) (h : zCk s v) (hz : zCz s v) (hs : zSw v) (set : Nat) (hset : set < v.sets) : (v.hasClosed set ∧ f_S_hasClosed_14 K N (iN set) (iN v.opn) s t = some (.inl (some (.int 1)), s, t)) ∨ (¬ v.hasClosed set ∧ f_S_hasClosed_14 K N (iN set) (iN v.opn) s t = some (.inl (some (.int 0)), s, t)) := by
  have w8 := hs.1.w8
  have hl := c_hasClosed_loop K N n sets hK t s v hn h hz hs set hset v.ways 0 N (by omega) (by omega) (fun q hq => absurd hq (Nat.not_lt_zero _))
  rw [Nat.add_zero] at hl
  unfold f_S_hasClosed_14
  rw [hz.2.2.2.1, iN_mul]
  rcases hl with ⟨g1, g2⟩ | ⟨g1, g2⟩
  · exact Or.inl ⟨g1, by rw [g2]; rfl⟩
  · exact Or.inr ⟨g1, by rw [g2]; rfl⟩

