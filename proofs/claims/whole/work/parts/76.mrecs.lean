/-! THE RECORDS OF AN EPOCH (the reference) -/
/-- devices, power, slots and epochs -/
def zRv (s : px_S) (v : ZVs) : Prop := zRw s v.p ∧ zRs s v
/-- nothing changes but devices, power, the row 43 and the place -/
def zFr1 (s u : px_S) : Prop := (∀ c, c < 29 ∨ (34 < c ∧ c ≠ 43) → u.2.2.1 c = s.2.2.1 c) ∧ (∀ r, r ≠ 29 → r ≠ 30 → r ≠ 35 → u.1 r = s.1 r) ∧ u.2.1 = s.2.1 ∧ u.2.2.2 = s.2.2.2
theorem zFr1_refl (s : px_S) : zFr1 s s := ⟨fun _ _ => rfl, fun _ _ _ _ => rfl, rfl, rfl⟩
theorem zFr1_trans {s u v : px_S} (h1 : zFr1 s u) (h2 : zFr1 u v) : zFr1 s v := ⟨fun c hc => (h2.1 c hc).trans (h1.1 c hc), fun r a b c => (h2.2.1 r a b c).trans (h1.2.1 r a b c), h2.2.2.1.trans h1.2.2.1, h2.2.2.2.trans h1.2.2.2⟩
theorem zFr1_fm {s u : px_S} (h : zFm s u) : zFr1 s u := ⟨fun c hc => h.1 c (by omega), fun r a b _ => h.2.1 r a b, h.2.2.1, h.2.2.2⟩
theorem zFr1_row {s : px_S} {g : Nat → Int32} : zFr1 s (sF s 43 g) := ⟨fun c hc => sF_arr_ne (by omega), fun _ _ _ _ => rfl, rfl, rfl⟩
theorem zFr1_plc {s : px_S} {x : Int32} : zFr1 s (sR s 35 x) := ⟨fun _ _ => rfl, fun r _ _ h => by rw [sR_1, if_neg h], rfl, rfl⟩
/-- one record's acts -/
theorem m_rec_act (K : px_K) (N : Nat) (hN : 2000 ≤ N) (hK : zKm K) (t : px_W) (s : px_S) (v : ZVs) (h : zRv s v) (hh : v.half < 2) (hp : v.plc < 88) (x : ZBk) (hx : ∀ w, w < 16 → s.2.2.1 43 w = x w) : ∃ s', f_M_write_28_43 K N (1 : Int32) ((((25 : Int32) * (s.1 33)) + (1 : Int32)) + (s.1 35)) (0 : Int32) s t = some (.inl none, s', t) ∧ zRv s' (v.wr 1 (25 * v.half + 1 + v.plc) x) ∧ zFm s s' := by
  have e : (((25 : Int32) * (s.1 33)) + (1 : Int32)) + (s.1 35) = iN (25 * v.half + 1 + v.plc) := by
    have h25 : (25 : Int32) = iN 25 := rfl
    rw [h.2.2.2.2.2.2.1, h.2.2.2.2.2.2.2.2.1, h25, iN_mul, iL1, iN_add, iN_add]
  have hX : K.2.2 43 = 16 := hK.2.2.2.2.2.2.2.2.2.2.2.2.2.2.1
  obtain ⟨s', a1, a2, a3⟩ := m_write_43 K N hN hK t s v.p h.1 1 (25 * v.half + 1 + v.plc) 0 x (by omega) (by show _ < 114; omega) (by omega) (by omega) (fun w hw => by rw [Nat.zero_add]; exact hx w hw)
  rw [e]
  exact ⟨s', a1, ⟨a2, zRs_fm h.2 a3 _⟩, a3⟩
theorem m_fl_act (K : px_K) (N : Nat) (hN : 2000 ≤ N) (hK : zKm K) (t : px_W) (s : px_S) (v : ZVs) (h : zRv s v) (k : Nat) (hk : k < 2) : ∃ s', f_M_flush_28 K N (iN k) s t = some (.inl none, s', t) ∧ zRv s' (v.fl k) ∧ zFm s s' := by
  obtain ⟨s', a1, a2, a3⟩ := m_flush K N (by omega) hK t s v.p h.1 k hk
  exact ⟨s', a1, ⟨a2, zRs_fm h.2 a3 _⟩, a3⟩
theorem m_recs (K : px_K) (N : Nat) (hN : 2000 ≤ N) (hK : zKm K) (t : px_W) (e : Nat) (he : e < 2147483648) (cl : Bool) : ∀ (k : Nat) (l : List Nat) (a m n : Nat) (s : px_S) (v : ZVs), zRv s v → zSf v → v.half < 2 → v.plc + k ≤ 88 → zUpw v e m l → l.length ≤ 6 * k → a + l.length ≤ 64 → k < n → ∃ s', l_M_records_28_8 K N n (iN e) (bN cl) (iN (a + l.length)) (iN a) (iN m) s t = some (.inl (145, [], s', t)) ∧ zRv s' (ZVs.recs e cl k l v) ∧ zFr1 s s' := by
  intro k
  induction k with
  | zero =>
    intro l a m n s v h hs hh hp hu hl ha hn
    obtain ⟨n, rfl⟩ : ∃ n', n = n' + 1 := ⟨n - 1, by omega⟩
    have hl0 : l.length = 0 := by omega
    refine ⟨s, ?_, h, zFr1_refl s⟩
    unfold l_M_records_28_8
    rw [if_pos ((iN_le (by omega) (by omega)).mpr (by omega))]
  | succ k ih =>
    intro l a m n s v h hs hh hp hu hl ha hn
    obtain ⟨n, rfl⟩ : ∃ n', n = n' + 1 := ⟨n - 1, by omega⟩
    by_cases hl0 : l = []
    · refine ⟨s, ?_, ?_, zFr1_refl s⟩
      · unfold l_M_records_28_8
        rw [if_pos ((iN_le (by omega) (by omega)).mpr (by rw [hl0]; exact Nat.le_refl _))]
      · unfold ZVs.recs; rw [if_pos hl0]; exact h
    have hlen : 0 < l.length := List.length_pos_iff.mpr hl0
    have hX : K.2.2 43 = 16 := hK.2.2.2.2.2.2.2.2.2.2.2.2.2.2.1
    obtain ⟨c, hc⟩ : ∃ c, c = l.take 6 := ⟨_, rfl⟩
    have hcl : c.length = min 6 l.length := by rw [hc, List.length_take]
    have hc6 : c.length ≤ 6 := by omega
    obtain ⟨lst, hlst⟩ : ∃ lst : Bool, lst = decide (l.length ≤ 6) := ⟨_, rfl⟩
    have ev2 : (if (6 : Int32) ≤ iN (a + l.length) - iN a then (6 : Int32) else iN (a + l.length) - iN a) = iN c.length := by
      have e6 : (6 : Int32) = iN 6 := rfl
      have es : iN (a + l.length) - iN a = iN l.length := by rw [iN_sub (by omega)]; congr 1; omega
      rw [es, e6]
      by_cases h6 : 6 ≤ l.length
      · rw [if_pos ((iN_le (by omega) (by omega)).mpr h6)]; congr 1; omega
      · rw [if_neg (fun hx => h6 ((iN_le (by omega) (by omega)).mp hx))]; congr 1; omega
    have ev4 : (if ¬ iN a + iN c.length = iN (a + l.length) then (0 : Int32) else (1 : Int32)) = bN lst := by
      rw [iN_add, hlst]
      by_cases h6 : l.length ≤ 6
      · rw [if_neg (by have : a + c.length = a + l.length := by omega
                       rw [this]; exact fun hx => hx rfl), decide_eq_true h6]; rfl
      · rw [if_pos (by rw [iN_eq (by omega) (by omega)]; omega), decide_eq_false h6]; rfl
    obtain ⟨d1, d2⟩ := zUpw_drop 6 hu
    rw [← hc] at d1 d2
    unfold l_M_records_28_8
    rw [if_neg (by rw [iN_le (by omega) (by omega)]; omega), ev2]
    unfold px_let
    dsimp only
    rw [ev4]
    have z1 := m_rz_loop K N hK (iN e) (bN cl) (iN (a + l.length)) (iN a) (iN m) (iN c.length) (bN lst) s t 12 4 N (by omega) (by omega) (by omega)
    have z0 : (fun q => if 4 ≤ q ∧ q < 4 then 0 else s.2.2.1 43 q) = s.2.2.1 43 := by funext q; rw [if_neg (by omega)]
    rw [z0, sF_triv] at z1
    have i4 : (4 : Int32) = iN 4 := rfl
    rw [i4, z1]
    unfold px_lp
    dsimp only
    rw [if_pos rfl]
    unfold px_v0
    dsimp only
    have n0 : (0 : Int32).toNatClampNeg = 0 := rfl
    have n1 : (1 : Int32).toNatClampNeg = 1 := rfl
    have n2 : (2 : Int32).toNatClampNeg = 2 := rfl
    have n3 : (3 : Int32).toNatClampNeg = 3 := rfl
    have el : (if bN lst = 0 then (0 : Int32) else (1 : Int32)) = if lst = true then 1 else 0 := by cases lst <;> decide
    rw [px_gd_of (by rw [hX]; exact iN_in (a := 0) (by omega) (by omega)), px_gd_of (by rw [hX]; exact iN_in (a := 1) (by omega) (by omega)), px_gd_of (by rw [hX]; exact iN_in (a := 2) (by omega) (by omega)), px_gd_of (by rw [hX]; exact iN_in (a := 3) (by omega) (by omega)), n0, n1, n2, n3, el, sA_sF, sA_sF, sA_sF, sA_sF]
    have eg : (sF s 43 (fun q => if 4 ≤ q ∧ q < 16 then 0 else s.2.2.1 43 q)).1 34 = iN v.gen := h.2.2.2.2.2.2.2.1
    rw [eg]
    obtain ⟨G, hG⟩ : ∃ G, G = upd (upd (upd (upd (fun q => if 4 ≤ q ∧ q < 16 then 0 else s.2.2.1 43 q) 0 (iN v.gen)) 1 (iN e)) 2 (if lst = true then 1 else 0)) 3 (iN c.length) := ⟨_, rfl⟩
    rw [← hG]
    have hfl := m_fill K N (by omega) hK t v hs e he (bN cl) (iN (a + l.length)) (iN a) (bN lst) c.length hc6 c 0 m N (sF s 43 G) (zRs_row h.2 (by omega)) d1 (by omega) (by omega)
    rw [sF_sF, sF_arr, ← iL0] at hfl
    rw [hfl]
    dsimp only
    rw [if_pos rfl]
    unfold px_v1
    dsimp only
    obtain ⟨s7, hs7⟩ : ∃ s7, s7 = sF s 43 (zFill v.sb 0 c G) := ⟨_, rfl⟩
    rw [← hs7]
    have hv7 : zRv s7 v := by rw [hs7]; exact ⟨zRw_row h.1 (by omega), zRs_row h.2 (by omega)⟩
    have hx7 : ∀ w, w < 16 → s7.2.2.1 43 w = zRec v.gen e lst c v.sb w := fun w hw => by
      rw [hs7, sF_arr, hG]; exact zRec_row v.gen e lst c v.sb hc6 _ w hw
    have f7 : zFr1 s s7 := by rw [hs7]; exact zFr1_row
    have eac : iN a + iN c.length = iN (a + c.length) := iN_add _ _
    have edl : a + l.length = a + c.length + (l.drop 6).length := by rw [List.length_drop]; omega
    -- the rest, once the acts are done
    have rest : ∀ (u : px_S) (x : ZVs), zRv u x → zFr1 s u → zSf x → x.half = v.half → x.plc = v.plc → x.se = v.se → x.sb = v.sb → ∃ s', l_M_records_28_8 K N n (iN e) (bN cl) (iN (a + l.length)) (iN (a + c.length)) (iN (zEnd m c)) (sR u 35 (u.1 35 + (1 : Int32))) t = some (.inl (145, [], s', t)) ∧ zRv s' (ZVs.recs e cl k (l.drop 6) (x.s_plc (v.plc + 1))) ∧ zFr1 s s' := by
      intro u x hux hfu hsx hx1 hx2 hx3 hx4
      have e35 : u.1 35 + (1 : Int32) = iN (v.plc + 1) := by rw [hux.2.2.2.2.2.2.2.2.1, hx2, iL1, iN_add]
      rw [e35, edl]
      have hzu : zUpw (x.s_plc (v.plc + 1)) e (zEnd m c) (l.drop 6) := by
        have : ∀ (l : List Nat) (m : Nat), zUpw v e m l → zUpw (x.s_plc (v.plc + 1)) e m l := by
          intro l
          induction l with
          | nil => intro m _; trivial
          | cons y l ihl =>
            intro m hy
            obtain ⟨y1, y2, y3, y4, y5, y6⟩ := hy
            exact ⟨y1, y2, by show x.se y = e; rw [hx3]; exact y3, by show 1 ≤ x.sb y; rw [hx4]; exact y4, fun j j1 j2 => by show x.se j ≠ e; rw [hx3]; exact y5 j j1 j2, ihl _ y6⟩
        exact this _ _ d2
      obtain ⟨s', q1, q2, q3⟩ := ih (l.drop 6) (a + c.length) (zEnd m c) n (sR u 35 (iN (v.plc + 1))) (x.s_plc (v.plc + 1)) ⟨zRw_int hux.1 (by omega), zRs_plc hux.2 _⟩ hsx (by show x.half < 2; omega) (by show v.plc + 1 + k ≤ 88; omega) hzu (by rw [List.length_drop]; omega) (by rw [List.length_drop]; omega) (by omega)
      exact ⟨s', q1, q2, zFr1_trans (zFr1_trans hfu zFr1_plc) q3⟩
    unfold ZVs.recs
    rw [if_neg hl0]
    dsimp only
    rw [← hlst, ← hc, eac]
    cases lst with
    | false =>
      rw [if_pos (c := bN false = 0) rfl]
      obtain ⟨u, b1, b2, b3⟩ := m_rec_act K N hN hK t s7 v hv7 hh (by omega) _ hx7
      rw [b1]
      unfold px_bv
      dsimp only
      rw [if_pos (c := bN false = 0) rfl, Bool.false_and, if_neg (c := false = true) Bool.noConfusion, if_neg (c := false = true) Bool.noConfusion]
      exact rest u _ b2 (zFr1_trans f7 (zFr1_fm b3)) hs rfl rfl rfl rfl
    | true =>
      rw [if_neg (c := bN true = 0) (by decide)]
      cases cl with
      | false =>
        rw [if_pos (c := bN false = 0) rfl]
        obtain ⟨u, b1, b2, b3⟩ := m_rec_act K N hN hK t s7 v hv7 hh (by omega) _ hx7
        rw [b1]
        unfold px_bv
        dsimp only
        rw [if_neg (c := bN true = 0) (by decide), if_pos (c := bN false = 0) rfl, Bool.and_false, if_neg (c := false = true) Bool.noConfusion, if_neg (c := false = true) Bool.noConfusion]
        exact rest u _ b2 (zFr1_trans f7 (zFr1_fm b3)) hs rfl rfl rfl rfl
      | true =>
        rw [if_neg (c := bN true = 0) (by decide)]
        obtain ⟨u0, a1, a2, a3⟩ := m_fl_act K N hN hK t s7 v hv7 1 (by omega)
        have a1 : f_M_flush_28 K N (1 : Int32) s7 t = some (.inl none, u0, t) := a1
        rw [a1]
        unfold px_bv
        dsimp only
        obtain ⟨u, b1, b2, b3⟩ := m_rec_act K N hN hK t u0 (v.fl 1) a2 hh (by show v.plc < 88; omega) (zRec v.gen e true c v.sb) (fun w hw => by rw [a3.1 43 (by omega)]; exact hx7 w hw)
        rw [b1]
        dsimp only
        rw [if_neg (c := bN true = 0) (by decide), if_neg (c := bN true = 0) (by decide)]
        obtain ⟨u2, c1, c2, c3⟩ := m_fl_act K N hN hK t u _ b2 1 (by omega)
        have c1 : f_M_flush_28 K N (1 : Int32) u t = some (.inl none, u2, t) := c1
        rw [c1]
        dsimp only
        rw [Bool.and_true, if_pos (c := true = true) rfl, if_pos (c := true = true) rfl]
        exact rest u2 _ c2 (zFr1_trans f7 (zFr1_fm (zFm_trans (zFm_trans a3 b3) c3))) hs rfl rfl rfl rfl
theorem m_records (K : px_K) (N : Nat) (hN : 2000 ≤ N) (hK : zKm K) (t : px_W) (e : Nat) (he : e < 2147483648) (cl : Bool) (s : px_S) (v : ZVs) (h : zRv s v) (hs : zSf v) (hh : v.half < 2) (hp : v.plc + 11 ≤ 88) (hb : ∀ q, q < v.n → v.se q = e → 1 ≤ v.sb q) : ∃ s', f_M_records_28 K N (iN e) (bN cl) s t = some (.inl none, s', t) ∧ zRv s' (ZVs.recsAll e cl v) ∧ zFr1 s s' := by
  have hn64 : v.n ≤ 64 := hs.1.n64
  have hlen : (v.dl e).length ≤ 64 := Nat.le_trans (zDl_len _ _ _) hn64
  obtain ⟨s', a1, a2, a3⟩ := m_recs K N hN hK t e he cl 11 (v.dl e) 0 0 N s v h hs hh hp (zUpw_dl hb hn64) (by omega) (by omega) (by omega)
  refine ⟨s', ?_, a2, a3⟩
  unfold f_M_records_28
  rw [m_dirty K N (by omega) hK t s v h.2 hs e he]
  unfold px_bi
  dsimp only
  have e0 : iN (0 + (v.dl e).length) = iN (v.dirty e) := by rw [Nat.zero_add]; rfl
  rw [e0, ← iL0] at a1
  rw [a1]
  rfl
theorem zplc_recs (e : Nat) (cl : Bool) : ∀ (k : Nat) (l : List Nat) (v : ZVs), (ZVs.recs e cl k l v).plc ≤ v.plc + k := by
  intro k
  induction k with
  | zero => intro l v; exact Nat.le_refl _
  | succ k ih =>
    intro l v
    unfold ZVs.recs
    split
    · omega
    · dsimp only
      have key : ∀ x : ZVs, (ZVs.recs e cl k (l.drop 6) (x.s_plc (v.plc + 1))).plc ≤ v.plc + (k + 1) := by
        intro x
        have := ih (l.drop 6) (x.s_plc (v.plc + 1))
        have h2 : (x.s_plc (v.plc + 1)).plc = v.plc + 1 := rfl
        omega
      exact key _
/-- the closed epochs' records -/
theorem m_recsTo (K : px_K) (N : Nat) (hN : 2000 ≤ N) (hK : zKm K) (t : px_W) : ∀ (k e n : Nat) (s : px_S) (v : ZVs), zRv s v → zSf v → v.half < 2 → v.plc + 11 * k ≤ 88 → 1 ≤ e → (∀ q, q < v.n → 0 < v.se q → 1 ≤ v.sb q) → (e + k = v.opn ∨ (k = 0 ∧ v.opn ≤ e)) → e < 2147483648 → k < n → ∃ s', l_M_changeHalves_28_20 K N n (iN e) s t = some (.inl (30, [], s', t)) ∧ zRv s' (ZVs.recsTo k e v) ∧ zFr1 s s' := by
  intro k
  induction k with
  | zero =>
    intro e n s v h hs hh hp he hb hk he31 hn
    obtain ⟨n, rfl⟩ : ∃ n', n = n' + 1 := ⟨n - 1, by omega⟩
    refine ⟨s, ?_, h, zFr1_refl s⟩
    unfold l_M_changeHalves_28_20
    rw [h.2.2.2.2.2.1, if_pos ((iN_le hs.2.2 he31).mpr (by omega))]
  | succ k ih =>
    intro e n s v h hs hh hp he hb hk he31 hn
    obtain ⟨n, rfl⟩ : ∃ n', n = n' + 1 := ⟨n - 1, by omega⟩
    have ho := hs.2.2
    have e3 : iN e + (1 : Int32) = iN (e + 1) := by rw [iL1, iN_add]
    obtain ⟨s1, a1, a2, a3⟩ := m_records K N hN hK t e he31 false s v h hs hh (by omega) (fun q hq hx => hb q hq (by omega))
    have a1 : f_M_records_28 K N (iN e) (0 : Int32) s t = some (.inl none, s1, t) := a1
    obtain ⟨z1, z2, z3, z4⟩ := zfr_recsAll e false v
    have zp : (ZVs.recsAll e false v).plc ≤ v.plc + 11 := zplc_recs e false 11 _ v
    unfold l_M_changeHalves_28_20
    rw [h.2.2.2.2.2.1, if_neg (by rw [iN_le ho he31]; omega), a1]
    unfold px_bv
    dsimp only
    rw [e3]
    have key : ∀ x : ZVs, zRv s1 x → x.sets = v.sets → x.ways = v.ways → x.eps = v.eps → x.se = v.se → x.sb = v.sb → x.opn = v.opn → x.half = v.half → x.plc ≤ v.plc + 11 → ∃ s', l_M_changeHalves_28_20 K N n (iN (e + 1)) s1 t = some (.inl (30, [], s', t)) ∧ zRv s' (ZVs.recsTo k (e + 1) x) ∧ zFr1 s s' := by
      intro x hx x1 x2 x3 x4 x5 x6 x7 x8
      have hsx : zSf x := by
        refine ⟨by rw [x1, x2, x3]; exact hs.1, fun i hi => by rw [x4, x5]; exact hs.2.1 i hi, by rw [x6]; exact ho⟩
      obtain ⟨s', q1, q2, q3⟩ := ih (e + 1) n s1 x hx hsx (by rw [x7]; exact hh) (by omega) (by omega) (by intro q hq; have hq : q < x.sets * x.ways := hq; rw [x1, x2] at hq; rw [x4, x5]; exact hb q hq) (by rw [x6]; omega) (by omega) (by omega)
      exact ⟨s', q1, q2, zFr1_trans a3 q3⟩
    exact key _ a2 z1.s z1.w z1.e z2.se z2.sb z2.opn z4 zp
