theorem zw_29 {W W' : ZSt} (h : ∀ b, 29 ≤ b → W b = W' b) (hw : ZW W) : ZW W' := by
  have hI : ∀ i w, i < 24 → tI W' i w = tI W i w := fun i w hi => tI_out (fun c c1 c2 => (h c (by omega)).symm) hi
  have hP : ∀ i k, i < 24 → k ≤ 20 → tP W' i k = tP W i k := fun i k hi hk => tP_out hi hk (fun c c1 c2 => (h c (by omega)).symm) (fun hne _ _ => by
    have := (hw.a.pv i 20 hi (by omega)).2
    rw [← tF_eq] at this
    rw [h _ (by omega)])
  have hB : ∀ i k, i < 24 → k ≤ 20 → tB W' i k = tB W i k := fun i k hi hk => by unfold tB; rw [hP i k hi hk]
  refine ⟨hw.a.congr (fun i w hi _ => hI i w hi) hP (fun i k hi hk hne => ?_), hw.b.congr (fun i hi => hI i 0 hi) (fun d hd _ => hI d 1 hd) (fun d p hd hk hp => ?_), zWc_congr hw.c (fun i w hi _ => hI i w hi) (fun i k hi hk => hB i k hi (by omega)) (fun i k w hi _ hk _ hne _ => ?_)⟩
  · have e : tU W' (tB W i k - 42) = tU W (tB W i k - 42) := by unfold tU; rw [h 29 (by omega)]
    rw [e]; exact hw.a.pu i k hi hk hne
  · obtain ⟨b0, b1, b2, b3⟩ := zdir_blk hw.a hd hk hp
    unfold tN tE
    rw [hB d (p / 8) hd (by omega), ← h _ (by omega)]; exact ⟨rfl, rfl⟩
  · have := (hw.a.pv i k hi (by omega)).2
    rw [← h _ (by omega)]
/-! THE REFERENCE'S CALLS -/
theorem zbeg_ok {T : ZTs} (hi : ZTi ZW T) (hn : T.tv.p.na + 3000000 < 2147483648) (hn2 : T.home.tv.p.na + 1000000 < 2147483648) : ZTOk ZW (fun U => ZTi ZW U ∧ (zCl U.ch).length ≤ 7) (zBeg T) := by
  have hW : ∀ W W' : ZSt, (∀ b, 29 ≤ b → W b = W' b) → ZW W → ZW W' := fun W W' h hw => zw_29 h hw
  unfold zBeg
  split
  · rcases hi.commit hW hn hn2 with ⟨h1, h2, h3, h4⟩ | h
    · refine Or.inl ⟨h1, h2, ?_⟩
      have : zCl T.commit.ch = [] := by
        rw [List.eq_nil_iff_forall_not_mem]; intro b hb
        have := (mem_zCl.mp hb).2
        rw [h4 b] at this; cases this
      rw [this]; exact Nat.zero_le _
    · exact Or.inr h
  · rename_i h7
    exact Or.inl ⟨hi.iv.up, hi, by omega⟩
theorem hWZ : ∀ W W' : ZSt, (∀ b, 29 ≤ b → W b = W' b) → ZW W → ZW W' := fun W W' h hw => zw_29 h hw
/-- a call that first may commit -/
noncomputable def zCall (T : ZTs) (f : ZTs → Int32 × ZTs) : Int32 × ZTs := if (zBeg T).tv.p.up = true then f (zBeg T) else (-9, zBeg T)
/-- the call's run: the beginning, and what follows -/
theorem m_call (K : px_K) (N : Nat) (hN : 2000 ≤ N) (hK : zKm K) (t : px_W) (s : px_S) (T : ZTs) (h : zRt s T) (hm : zMm T.tv) (hi : ZTi ZW T) (hn : T.tv.p.na + 3000000 < 2147483648) (f : ZTs → Int32 × ZTs) {F : px_S → px_W → Option px_Res} {g1 : Nat → px_S → px_W → Option px_Res} (hF : ∀ s3 U, zRt s3 U → zMm U.tv → ZTi ZW U → (zCl U.ch).length ≤ 7 → zFt (sR s 25 (0 : Int32)) s3 → wp (F s3 t) (zA (f U).1 t (fun s' => zRt s' (f U).2 ∧ zMm (f U).2.tv ∧ zFt s3 s'))) : wp (px_let (sR s 25 (0 : Int32)) (fun s1 => (px_bi (f_M_begins_28 K N s1 t) (fun v6 s3 t4 => (if ¬ v6 = 0 then F s3 t4 else (some (.inl (some (.int (-9 : Int32))), s3, t4)))) g1))) (zA (zCall T f).1 t (fun s' => zRt s' (zCall T f).2 ∧ zMm (zCall T f).2.tv ∧ zFu s s')) := by
  have h0 := zRt_25 h 0
  have hz : ZSz T.tv.sets T.tv.ways T.tv.eps := hm.1.1
  obtain ⟨hn1, hn2⟩ := zBnd2 hn (zfr_home T hz).n2
  obtain ⟨s1, a1, a2, a3, a4⟩ := m_begins hWZ K N hN hK t _ T h0 hm hi hn
  refine wp_let (wp_bi a1 ?_)
  unfold zCall
  rcases zbeg_ok hi hn hn2 with ⟨hu, hq, h7⟩ | hdn
  · rw [if_pos (c := (zBeg T).tv.p.up = true) hu, hu]
    refine wp_if (by decide) (wp_imp (hF s1 _ a2 a3 hq h7 a4) ?_)
    rintro r ⟨s', r1, r2, r3, r4⟩
    exact ⟨s', r1, r2, r3, zFu_t (zFt_trans a4 r4)⟩
  · rw [if_neg (c := (zBeg T).tv.p.up = true) (by rw [hdn.up]; exact Bool.noConfusion), hdn.up]
    exact wp_ifn (fun hx => hx rfl) (wp_rA ⟨a2, a3, zFu_t a4⟩)
theorem m_makeCall (K : px_K) (N : Nat) (hN : 2000 ≤ N) (hK : zKm K) (t : px_W) (s : px_S) (T : ZTs) (h : zRt s T) (hm : zMm T.tv) (hi : ZTi ZW T) (hn : T.tv.p.na + 3000000 < 2147483648) (d x a2 : Int32) : ∃ s', f_M_make_28 K N d x a2 s t = some (.inl (some (.int (zCall T (fun U => xMake U d x (if a2 = 0 then 2 else 1))).1)), s', t) ∧ zRt s' (zCall T (fun U => xMake U d x (if a2 = 0 then 2 else 1))).2 ∧ zMm (zCall T (fun U => xMake U d x (if a2 = 0 then 2 else 1))).2.tv ∧ zFu s s' := by
  apply wp_A
  unfold f_M_make_28
  refine m_call K N hN hK t s T h hm hi hn (fun U => xMake U d x (if a2 = 0 then 2 else 1)) (fun s3 U h3 hm3 hi3 h7 hf3 => ?_)
  obtain ⟨s', b1, b2, b3⟩ := m_make (W := ZW) K N hN hK t s3 U h3 hi3.ww d x a2 (if a2 = 0 then 2 else 1) rfl
  obtain ⟨_, L, _, st⟩ := zmake_ok hi3.ww d x (if a2 = 0 then 2 else 1) (by split <;> simp)
  refine wp_imp b1 ?_
  rintro r rfl
  exact ⟨s', rfl, b2, by show zMm (xMake U d x (if a2 = 0 then 2 else 1)).2.tv; rw [st.1]; exact hm3, b3⟩
theorem m_removeCall (K : px_K) (N : Nat) (hN : 2000 ≤ N) (hK : zKm K) (t : px_W) (s : px_S) (T : ZTs) (h : zRt s T) (hm : zMm T.tv) (hi : ZTi ZW T) (hn : T.tv.p.na + 3000000 < 2147483648) (d x : Int32) : ∃ s', f_M_remove_28 K N d x s t = some (.inl (some (.int (zCall T (fun U => xRemove U d x)).1)), s', t) ∧ zRt s' (zCall T (fun U => xRemove U d x)).2 ∧ zMm (zCall T (fun U => xRemove U d x)).2.tv ∧ zFu s s' := by
  apply wp_A
  unfold f_M_remove_28
  refine m_call K N hN hK t s T h hm hi hn (fun U => xRemove U d x) (fun s3 U h3 hm3 hi3 h7 hf3 => ?_)
  obtain ⟨_, L, _, st⟩ := zremove_ok hi3.ww d x
  refine wp_imp (m_remove K N hN hK t s3 U h3 hi3.ww d x) ?_
  rintro r ⟨s', r1, r2, r3⟩
  exact ⟨s', r1, r2, by show zMm (xRemove U d x).2.tv; rw [st.1]; exact hm3, r3⟩
theorem m_moveCall (K : px_K) (N : Nat) (hN : 2000 ≤ N) (hK : zKm K) (t : px_W) (s : px_S) (T : ZTs) (h : zRt s T) (hm : zMm T.tv) (hi : ZTi ZW T) (hn : T.tv.p.na + 3000000 < 2147483648) (d x to y : Int32) : ∃ s', f_M_move_28 K N d x to y s t = some (.inl (some (.int (zCall T (fun U => xMove U d x to y)).1)), s', t) ∧ zRt s' (zCall T (fun U => xMove U d x to y)).2 ∧ zMm (zCall T (fun U => xMove U d x to y)).2.tv ∧ zFu s s' := by
  apply wp_A
  unfold f_M_move_28
  refine m_call K N hN hK t s T h hm hi hn (fun U => xMove U d x to y) (fun s3 U h3 hm3 hi3 h7 hf3 => ?_)
  obtain ⟨_, L, _, st⟩ := zmove_ok hi3.ww d x to y
  refine wp_imp (m_move K N hN hK t s3 U h3 hi3.ww d x to y) ?_
  rintro r ⟨s', r1, r2, r3⟩
  exact ⟨s', r1, r2, by show zMm (xMove U d x to y).2.tv; rw [st.1]; exact hm3, r3⟩
theorem m_writeCall (K : px_K) (N : Nat) (hN : 2000 ≤ N) (hK : zKm K) (t : px_W) (s : px_S) (T : ZTs) (h : zRt s T) (hm : zMm T.tv) (hi : ZTi ZW T) (hn : T.tv.p.na + 3000000 < 2147483648) (f p x : Int32) : ∃ s', f_M_write2_28 K N f p x s t = some (.inl (some (.int (zCall T (fun U => xWrite U f p x)).1)), s', t) ∧ zRt s' (zCall T (fun U => xWrite U f p x)).2 ∧ zMm (zCall T (fun U => xWrite U f p x)).2.tv ∧ zFu s s' := by
  apply wp_A
  unfold f_M_write2_28
  exact m_call K N hN hK t s T h hm hi hn (fun U => xWrite U f p x) (fun s3 U h3 hm3 hi3 h7 hf3 => m_write2 K N hN hK t s3 U h3 hm3 hi3 hi3.ww f p x)
theorem m_cutCall (K : px_K) (N : Nat) (hN : 2000 ≤ N) (hK : zKm K) (t : px_W) (s : px_S) (T : ZTs) (h : zRt s T) (hm : zMm T.tv) (hi : ZTi ZW T) (hn : T.tv.p.na + 3000000 < 2147483648) (f n : Int32) : ∃ s', f_M_cut_28 K N f n s t = some (.inl (some (.int (zCall T (fun U => xCut U f n)).1)), s', t) ∧ zRt s' (zCall T (fun U => xCut U f n)).2 ∧ zMm (zCall T (fun U => xCut U f n)).2.tv ∧ zFu s s' := by
  apply wp_A
  unfold f_M_cut_28
  exact m_call K N hN hK t s T h hm hi hn (fun U => xCut U f n) (fun s3 U h3 hm3 hi3 h7 hf3 => m_cut K N hN hK t s3 U h3 hm3 hi3 hi3.ww f n)
/-- what a call leaves: a tree in order, or a volume that is down -/
theorem zcall_ok {T : ZTs} (hi : ZTi ZW T) (hn : T.tv.p.na + 3000000 < 2147483648) (hn2 : T.home.tv.p.na + 1000000 < 2147483648) (f : ZTs → Int32 × ZTs) (hf : ∀ U, ZTi ZW U → (zCl U.ch).length ≤ 7 → ZTOk ZW (fun V => ZTi ZW V) (f U).2) : ZTOk ZW (fun V => ZTi ZW V) (zCall T f).2 := by
  unfold zCall
  rcases zbeg_ok hi hn hn2 with ⟨hu, hq, h7⟩ | hdn
  · rw [if_pos hu]; exact hf _ hq h7
  · rw [if_neg (by rw [hdn.up]; exact Bool.noConfusion)]; exact Or.inr hdn
theorem zstep_ok {T U : ZTs} (hi : ZTi ZW T) (h7 : (zCl T.ch).length ≤ 7) (h : ZW U.wd ∧ ∃ L : List Nat, L.length ≤ 5 ∧ zStep L T U) : ZTOk ZW (fun V => ZTi ZW V) U := by
  obtain ⟨h1, L, h2, h3⟩ := h
  exact Or.inl ⟨by rw [h3.1]; exact hi.iv.up, hi.step h3 h1 h7 h2⟩
/-! a call of one that is down -/
theorem m_beg_down (K : px_K) (N : Nat) (t : px_W) (s : px_S) (h : s.1 29 = 0) : f_M_begins_28 K N s t = some (.inl (some (.int 0)), s, t) := by
  unfold f_M_begins_28
  rw [if_pos h, px_gd_of (Or.inl h), h]
theorem m_down (K : px_K) (N : Nat) (t : px_W) (s : px_S) (h : s.1 29 = 0) : (∀ a b c, f_M_make_28 K N a b c s t = some (.inl (some (.int (-9))), sR s 25 (0 : Int32), t)) ∧ (∀ a b, f_M_find2_28 K N a b s t = some (.inl (some (.int (-9))), sR s 25 (0 : Int32), t)) ∧ (∀ a b c, f_M_write2_28 K N a b c s t = some (.inl (some (.int (-9))), sR s 25 (0 : Int32), t)) ∧ (∀ a b, f_M_cut_28 K N a b s t = some (.inl (some (.int (-9))), sR s 25 (0 : Int32), t)) ∧ (∀ a b, f_M_remove_28 K N a b s t = some (.inl (some (.int (-9))), sR s 25 (0 : Int32), t)) ∧ (∀ a b c d, f_M_move_28 K N a b c d s t = some (.inl (some (.int (-9))), sR s 25 (0 : Int32), t)) ∧ (∀ a b, f_M_inode_28 K N a b s t = some (.inl (some (.int (-1))), sR s 25 (0 : Int32), t)) ∧ (∀ a b c, f_M_entry_28 K N a b c s t = some (.inl (some (.int (-1))), sR s 25 (0 : Int32), t)) ∧ f_M_sync_28 K N s t = some (.inl (some (.int (-9))), sR s 25 (0 : Int32), t) ∧ f_M_land_28 K N s t = some (.inl (some (.int (-9))), sR s 25 (0 : Int32), t) ∧ f_M_home_28 K N s t = some (.inl (some (.int (-9))), sR s 25 (0 : Int32), t) ∧ f_M_attach_28 K N s t = some (.inl (some (.int (-9))), sR s 25 (0 : Int32), t) ∧ (∀ a b, f_M_slot_28 K N a b s t = some (.inl (some (.int (-1))), sR s 25 (0 : Int32), t)) ∧ (∀ a b, f_M_read2_28 K N a b s t = some (.inl (some (.int 0)), sR s 25 (1 : Int32), t)) := by
  have h1 : (sR s 25 (0 : Int32)).1 29 = 0 := h
  have hb := m_beg_down K N t (sR s 25 (0 : Int32)) h1
  have cl : ∀ (F : px_S → px_W → Option px_Res) (g1 : Nat → px_S → px_W → Option px_Res), px_let (sR s 25 (0 : Int32)) (fun s1 => (px_bi (f_M_begins_28 K N s1 t) (fun v6 s3 t4 => (if ¬ v6 = 0 then F s3 t4 else (some (.inl (some (.int (-9 : Int32))), s3, t4)))) g1)) = some (.inl (some (.int (-9))), sR s 25 (0 : Int32), t) := by
    intro F g1
    obtain ⟨r, e1, e2⟩ : wp (px_let (sR s 25 (0 : Int32)) (fun s1 => (px_bi (f_M_begins_28 K N s1 t) (fun v6 s3 t4 => (if ¬ v6 = 0 then F s3 t4 else (some (.inl (some (.int (-9 : Int32))), s3, t4)))) g1))) (fun r => r = (.inl (some (.int (-9))), sR s 25 (0 : Int32), t)) := wp_let (wp_bi hb (wp_ifn (fun hx => hx rfl) (wp_some rfl)))
    rw [e1, e2]
  have up : ∀ (A B : Option px_Res), (if ¬ (sR s 25 (0 : Int32)).1 29 = 0 then A else B) = B := fun A B => if_neg (fun hx => hx h1)
  have dn : ∀ (A B : Option px_Res), (if (sR s 25 (0 : Int32)).1 29 = 0 then A else B) = A := fun A B => if_pos h1
  refine ⟨fun a b c => cl _ _, fun a b => up _ _, fun a b c => cl _ _, fun a b => cl _ _, fun a b => cl _ _, fun a b c d => cl _ _, fun a b => dn _ _, fun a b c => dn _ _, up _ _, up _ _, up _ _, up _ _, fun a b => dn _ _, fun a b => ?_⟩
  obtain ⟨r, e1, e2⟩ : wp (f_M_read2_28 K N a b s t) (fun r => r = (.inl (some (.int 0)), sR s 25 (1 : Int32), t)) := by
    unfold f_M_read2_28
    exact wp_ifn (fun hx => hx h) (wp_let (wp_ifn (by show ¬ (1 : Int32) ≤ 0; decide) (wp_some rfl)))
  rw [e1, e2]

/-! SLOT, WORD, COUNT (the reference) -/
def qSlot (v : ZVs) (i w : Int32) : Int32 := if v.wf = true ∧ 0 ≤ i ∧ i < iN v.n then (if w.toInt = 0 then (if v.sb (n32 i) = 0 then 0 else if v.se (n32 i) = 0 then 1 else 2) else if w.toInt = 1 then iN (v.sb (n32 i)) - 1 else if w.toInt = 2 then iN (v.se (n32 i)) else if w.toInt = 3 then bN (v.mrk (n32 i)) else if w.toInt = 4 then (if v.hd (n32 i / v.ways) = n32 i % v.ways then 1 else 0) else -1) else -1
theorem i32_lt {x : Int32} {m : Nat} (hm : m < 2147483648) (h0 : 0 ≤ x) (h1 : x < iN m) : x = iN (n32 x) ∧ n32 x < m := by
  have hn : x = iN (n32 x) := by
    by_cases hz : 0 < n32 x
    · exact (iN_n32 hz).symm
    · have e : n32 x = 0 := by omega
      rw [e]
      exact Int32.le_antisymm ((n32_le (by omega)).mpr (by omega)) h0
  refine ⟨hn, ?_⟩
  rw [hn, iN_lt (n32_lt x) hm] at h1
  exact h1
theorem m_slot (K : px_K) (N : Nat) (hK : zKm K) (t : px_W) (s : px_S) (v : ZVs) (h : zRv s v) (hm : zMm v) (hu : v.p.up = true) (i w : Int32) : f_M_slot_28 K N i w s t = some (.inl (some (.int (qSlot v i w))), sR s 25 (0 : Int32), t) := by
  have hz := hm.1.1
  have hn64 : v.n ≤ 64 := hz.n64
  obtain ⟨r1, r2, r3, r4, r5, r6, r7, r8, r9, r10⟩ := h.2
  have hp : zRw (sR s 25 (0 : Int32)) v.p := zRw_int h.1 (by omega)
  have e29 : ¬ (sR s 25 (0 : Int32)).1 29 = 0 := fun hx => by have := (zRw_up hp).mp hx; rw [hu] at this; cases this
  have e31 : (sR s 25 (0 : Int32)).1 31 = bN v.wf := r4
  have en : (sR s 25 (0 : Int32)).1 26 * (sR s 25 (0 : Int32)).1 27 = iN v.n := by
    show s.1 26 * s.1 27 = _
    rw [r1, r2, iN_mul]
  have ew : (sR s 25 (0 : Int32)).1 27 = iN v.ways := r2
  obtain ⟨r, e1, e2⟩ : wp (f_M_slot_28 K N i w s t) (fun r => r = (.inl (some (.int (qSlot v i w))), sR s 25 (0 : Int32), t)) := by
    unfold f_M_slot_28
    refine wp_let (wp_ifn e29 ?_)
    rw [e31, en]
    cases hw : v.wf with
    | false =>
      rw [show qSlot v i w = -1 from if_neg (fun hx => by rw [hw] at hx; cases hx.1)]
      exact wp_if rfl (wp_some rfl)
    | true =>
      refine wp_ifn (by decide) ?_
      by_cases c1 : i < 0
      · rw [show qSlot v i w = -1 from if_neg (fun hx => absurd hx.2.1 (Int32.not_le.mpr c1))]
        exact wp_if c1 (wp_some rfl)
      refine wp_ifn c1 ?_
      by_cases c2 : i < iN v.n
      · obtain ⟨i1, i2⟩ := i32_lt (by omega) (Int32.not_lt.mp c1) c2
        have hq : qSlot v i w = (if w.toInt = 0 then (if v.sb (n32 i) = 0 then 0 else if v.se (n32 i) = 0 then 1 else 2) else if w.toInt = 1 then iN (v.sb (n32 i)) - 1 else if w.toInt = 2 then iN (v.se (n32 i)) else if w.toInt = 3 then bN (v.mrk (n32 i)) else if w.toInt = 4 then (if v.hd (n32 i / v.ways) = n32 i % v.ways then 1 else 0) else -1) := if_pos ⟨hw, Int32.not_lt.mp c1, c2⟩
        refine wp_if c2 ?_
        obtain ⟨j, hj⟩ : ∃ j, j = n32 i := ⟨_, rfl⟩
        rw [← hj] at i1 i2 hq
        have hj64 : j < 64 := by have : j < v.n := i2; omega
        rw [i1, iN_nat (by omega)]
        rw [i1] at hq
        obtain ⟨q1, q2, q3⟩ := r9 j hj64
        have q1 : (sR s 25 (0 : Int32)).2.2.1 35 j = iN (v.sb j) - 1 := q1
        have q2 : (sR s 25 (0 : Int32)).2.2.1 36 j = iN (v.se j) := q2
        have q3 : (sR s 25 (0 : Int32)).2.2.1 37 j = bN (v.mrk j) := q3
        obtain ⟨b1, b2⟩ := hm.1.2.1 j hj64
        by_cases w0 : w.toInt = 0
        · rw [if_pos w0] at hq
          rw [hq, q1, q2]
          refine wp_if w0 (wp_gd (by rw [hK.2.2.2.2.2.2.1]; exact iN_in (by omega) hj64) ?_)
          by_cases s0 : v.sb j = 0
          · rw [if_pos s0]
            exact wp_ifn (by rw [s0]; decide) (wp_some rfl)
          · rw [if_neg s0, iN_pred (by omega)]
            refine wp_if (by rw [iL0, iN_le (by omega) (by omega)]; omega) (wp_gd (by rw [hK.2.2.2.2.2.2.2.1]; exact iN_in (by omega) hj64) (wp_some ?_))
            by_cases s1 : v.se j = 0
            · rw [if_pos s1, s1, if_neg (c := ¬ iN 0 = 0) (fun hx => hx rfl)]
            · rw [if_neg s1, if_pos (c := ¬ iN (v.se j) = 0) (by rw [iL0, iN_eq (by omega) (by omega)]; exact s1)]
        refine wp_ifn w0 ?_
        rw [if_neg w0] at hq
        by_cases w1 : w.toInt = 1
        · rw [if_pos w1] at hq
          rw [hq, q1]
          exact wp_if w1 (wp_gd (by rw [hK.2.2.2.2.2.2.1]; exact iN_in (by omega) hj64) (wp_some rfl))
        refine wp_ifn w1 ?_
        rw [if_neg w1] at hq
        by_cases w2 : w.toInt = 2
        · rw [if_pos w2] at hq
          rw [hq, q2]
          exact wp_if w2 (wp_gd (by rw [hK.2.2.2.2.2.2.2.1]; exact iN_in (by omega) hj64) (wp_some rfl))
        refine wp_ifn w2 ?_
        rw [if_neg w2] at hq
        by_cases w3 : w.toInt = 3
        · rw [if_pos w3] at hq
          rw [hq, q3]
          refine wp_if w3 (wp_gd (by rw [hK.2.2.2.2.2.2.2.2.1]; exact iN_in (by omega) hj64) (wp_some ?_))
          cases v.mrk j <;> rfl
        refine wp_ifn w3 ?_
        rw [if_neg w3] at hq
        by_cases w4 : w.toInt = 4
        · rw [if_pos w4] at hq
          have hw1 := hz.w1
          have hw8 := hz.w8
          have hjw : j / v.ways < v.sets := Nat.div_lt_of_lt_mul (by have : j < v.sets * v.ways := i2; rw [Nat.mul_comm]; exact this)
          have hs8 := hz.s8
          have q10 : (sR s 25 (0 : Int32)).2.2.1 38 (j / v.ways) = iN (v.hd (j / v.ways)) := r10 (j / v.ways) (by omega)
          have hhd := hm.2.2.2 (j / v.ways)
          rw [hq, ew, iN_rem (by omega) (by omega) (by omega), iN_div (by omega) (by omega) (by omega), iN_nat (by omega), q10]
          have hwne : ¬ iN v.ways = 0 := by rw [iL0, iN_eq (by omega) (by omega)]; omega
          refine wp_if w4 (wp_gd ⟨hwne, by rw [hK.2.2.2.2.2.2.2.2.2.1]; exact iN_in (by omega) (by omega), hwne⟩ (wp_some ?_))
          have hmod : j % v.ways < v.ways := Nat.mod_lt _ (by omega)
          by_cases hx : v.hd (j / v.ways) = j % v.ways
          · rw [if_pos hx, hx, if_neg (c := ¬ iN (j % v.ways) = iN (j % v.ways)) (fun hy => hy rfl)]
          · rw [if_neg hx, if_pos (c := ¬ iN (v.hd (j / v.ways)) = iN (j % v.ways)) (by rw [iN_eq (by omega) (by omega)]; exact hx)]
        · rw [if_neg w4] at hq
          rw [hq]
          exact wp_ifn w4 (wp_some rfl)
      · rw [show qSlot v i w = -1 from if_neg (fun hx => c2 hx.2.2)]
        exact wp_ifn c2 (wp_some rfl)
  rw [e1, e2]
def qWord (v : ZVs) (d b w : Int32) (st : Bool) : Int32 := if d = 0 ∧ 0 ≤ b ∧ b < 125 ∧ 0 ≤ w ∧ w < 16 then (if st = true then (v.p.dv 0).st (n32 b) (n32 w) else v.dn (n32 b) (n32 w)) else if d = 1 ∧ 0 ≤ b ∧ b < iN (50 + v.n) ∧ 0 ≤ w ∧ w < 16 then (if st = true then (v.p.dv 1).st (n32 b) (n32 w) else v.fn (n32 b) (n32 w)) else -2147483648
theorem m_word2 (K : px_K) (N : Nat) (hN : 2000 ≤ N) (hK : zKm K) (t : px_W) (s : px_S) (v : ZVs) (h : zRv s v) (hz : ZSz v.sets v.ways v.eps) (d b w : Int32) (st : Bool) : f_M_word2_28 K N d b w (bN st) s t = some (.inl (some (.int (qWord v d b w st))), sR s 25 (0 : Int32), t) := by
  have hn64 : v.n ≤ 64 := hz.n64
  have hp : zRw (sR s 25 (0 : Int32)) v.p := zRw_int h.1 (by omega)
  have en : (50 : Int32) + (sR s 25 (0 : Int32)).1 26 * (sR s 25 (0 : Int32)).1 27 = iN (50 + v.n) := by
    show iN 50 + s.1 26 * s.1 27 = _
    rw [h.2.1, h.2.2.1, iN_mul, iN_add]
  obtain ⟨r, e1, e2⟩ : wp (f_M_word2_28 K N d b w (bN st) s t) (fun r => r = (.inl (some (.int (qWord v d b w st))), sR s 25 (0 : Int32), t)) := by
    unfold f_M_word2_28
    refine wp_let ?_
    rw [en]
    -- with the device known
    have go : ∀ (k nb : Nat), k < 2 → nb ≤ zNb k → nb ≤ 125 → d = iN k → (qWord v d b w st = if 0 ≤ b ∧ b < iN nb ∧ 0 ≤ w ∧ w < 16 then (if st = true then (v.p.dv k).st (n32 b) (n32 w) else (v.p.dv k).now (n32 b) (n32 w)) else -2147483648) → wp (α := px_Res) (if b < 0 then (some (.inl (some (.int (-2147483648 : Int32))), (sR s 25 (0 : Int32)), t)) else (if iN nb ≤ b then (some (.inl (some (.int (-2147483648 : Int32))), (sR s 25 (0 : Int32)), t)) else (if w < 0 then (some (.inl (some (.int (-2147483648 : Int32))), (sR s 25 (0 : Int32)), t)) else (if w < (16 : Int32) then (if bN st = 0 then (px_bi (f_M_read_28 K N d b w (sR s 25 (0 : Int32)) t) (fun v13 s10 t11 => (some (.inl (some (.int v13)), s10, t11))) (fun x14 s10 t11 => none)) else (px_bi (f_M_at K N d b (sR s 25 (0 : Int32)) t) (fun v18 s15 t16 => (px_gd (vp_in (v18 + w) (K.2.2 29)) (some (.inl (some (.int ((s15.2.2.1 29) (v18 + w).toNatClampNeg))), s15, t16)))) (fun x19 s15 t16 => none))) else (some (.inl (some (.int (-2147483648 : Int32))), (sR s 25 (0 : Int32)), t)))))) (fun r => r = (.inl (some (.int (qWord v d b w st))), sR s 25 (0 : Int32), t)) := by
      intro k nb hk hnb hnb2 hd hq
      rw [hq]
      by_cases c1 : b < 0
      · rw [if_neg (c := 0 ≤ b ∧ _) (fun hx => absurd hx.1 (Int32.not_le.mpr c1))]
        exact wp_if c1 (wp_some rfl)
      refine wp_ifn c1 ?_
      by_cases c2 : iN nb ≤ b
      · rw [if_neg (c := 0 ≤ b ∧ _) (fun hx => absurd hx.2.1 (Int32.not_lt.mpr c2))]
        exact wp_if c2 (wp_some rfl)
      refine wp_ifn c2 ?_
      by_cases c3 : w < 0
      · rw [if_neg (c := 0 ≤ b ∧ _) (fun hx => absurd hx.2.2.1 (Int32.not_le.mpr c3))]
        exact wp_if c3 (wp_some rfl)
      refine wp_ifn c3 ?_
      by_cases c4 : w < 16
      · rw [if_pos (c := 0 ≤ b ∧ _) ⟨Int32.not_lt.mp c1, Int32.not_le.mp c2, Int32.not_lt.mp c3, c4⟩]
        refine wp_if c4 ?_
        obtain ⟨b1, b2⟩ := i32_lt (m := nb) (by omega) (Int32.not_lt.mp c1) (Int32.not_le.mp c2)
        obtain ⟨w1, w2⟩ := i32_lt (m := 16) (by omega) (Int32.not_lt.mp c3) c4
        cases st with
        | false =>
          rw [if_neg (c := false = true) Bool.noConfusion]
          have hr := m_read K N (by omega) hK t (sR s 25 (0 : Int32)) v.p.dv hp.1 k (n32 b) (n32 w) hk (by omega) w2
          rw [← hd, ← b1, ← w1] at hr
          exact wp_if rfl (wp_bi hr (wp_some rfl))
        | true =>
          rw [if_pos (c := true = true) rfl]
          have ha := m_at K N k (n32 b) hk (sR s 25 (0 : Int32)) t
          rw [← hd, ← b1] at ha
          refine wp_ifn (by decide) (wp_bi ha ?_)
          have hnb239 := zNb_le k hk
          have ew : iN (16 * (125 * k + n32 b)) + w = iN (16 * (125 * k + n32 b) + n32 w) := by
            have : iN (16 * (125 * k + n32 b)) + iN (n32 w) = iN (16 * (125 * k + n32 b) + n32 w) := iN_add _ _
            rw [← w1] at this; exact this
          rw [ew, iN_nat (by omega)]
          refine wp_gd (by rw [hK.1]; exact iN_in (by omega) (by omega)) (wp_some ?_)
          rw [(hp.1 k hk).2.2.2.1 (n32 b) (n32 w) (by omega) w2]
      · rw [if_neg (c := 0 ≤ b ∧ _) (fun hx => c4 hx.2.2.2)]
        exact wp_ifn c4 (wp_some rfl)
    by_cases d0 : d = 0
    · rw [if_neg (c := ¬ d = 0) (fun hx => hx d0)]
      refine wp_let ?_
      have e125 : (125 : Int32) = iN 125 := rfl
      refine go 0 125 (by omega) (Nat.le_refl _) (by omega) d0 ?_
      unfold qWord
      by_cases hc : 0 ≤ b ∧ b < 125 ∧ 0 ≤ w ∧ w < 16
      · rw [if_pos ⟨d0, hc⟩, if_pos (c := 0 ≤ b ∧ b < iN 125 ∧ 0 ≤ w ∧ w < 16) hc]
      · rw [if_neg (fun hx => hc hx.2), if_neg (fun hx => by rw [d0] at hx; exact absurd hx.1 (by decide)), if_neg (c := 0 ≤ b ∧ b < iN 125 ∧ 0 ≤ w ∧ w < 16) hc]
    · rw [if_pos (c := ¬ d = 0) d0]
      by_cases d1 : d = 1
      · rw [if_neg (c := ¬ d = (1 : Int32)) (fun hx => hx d1)]
        refine wp_let (go 1 (50 + v.n) (by omega) (by show 50 + v.n ≤ 114; omega) (by omega) d1 ?_)
        unfold qWord
        rw [if_neg (fun hx => d0 hx.1)]
        by_cases hc : 0 ≤ b ∧ b < iN (50 + v.n) ∧ 0 ≤ w ∧ w < 16
        · rw [if_pos ⟨d1, hc⟩, if_pos hc]
        · rw [if_neg (fun hx => hc hx.2), if_neg hc]
      · rw [if_pos (c := ¬ d = (1 : Int32)) d1]
        have hq : qWord v d b w st = -2147483648 := by
          unfold qWord
          rw [if_neg (fun hx => d0 hx.1), if_neg (fun hx => d1 hx.1)]
        rw [hq]
        refine wp_let ?_
        by_cases c1 : b < 0
        · exact wp_if c1 (wp_some rfl)
        · exact wp_ifn c1 (wp_if (Int32.not_lt.mp c1) (wp_some rfl))
  rw [e1, e2]
/-- how many inodes are used -/
def zIc (W : ZSt) : Nat := ((List.range 24).filter fun i => !decide (tI W i 0 = 0)).length
theorem m_inodes_loop (K : px_K) (N : Nat) (hK : zKm K) (t : px_W) {s : px_S} {W : ZSt} (h : zWs s W) : ∀ (d i n : Nat), i + d = 24 → d < n → l_M_inodes_28_4 K N n (iN ((List.range i).filter fun q => !decide (tI W q 0 = 0)).length) (iN i) s t = some (.inl (20, [iN (zIc W)], s, t)) := by
  intro d
  induction d with
  | zero =>
    intro i n hi hn
    obtain ⟨n, rfl⟩ : ∃ n', n = n' + 1 := ⟨n - 1, by omega⟩
    have hi : i = 24 := by omega
    subst hi
    unfold l_M_inodes_28_4
    rw [if_pos (by decide)]; rfl
  | succ d ih =>
    intro i n hi hn
    obtain ⟨n, rfl⟩ : ∃ n', n = n' + 1 := ⟨n - 1, by omega⟩
    have e3 : iN i + (1 : Int32) = iN (i + 1) := by rw [iL1, iN_add]
    have hstep := ih (i + 1) n (by omega) (by omega)
    rw [zCnt_succ] at hstep
    have ea : iN ((List.range i).filter fun q => !decide (tI W q 0 = 0)).length + (if tI W i 0 = 0 then (0 : Int32) else (1 : Int32)) = iN (((List.range i).filter fun q => !decide (tI W q 0 = 0)).length + (if (!decide (tI W i 0 = 0)) = true then 1 else 0)) := by
      by_cases h0 : tI W i 0 = 0
      · rw [if_pos h0, if_neg (by rw [decide_eq_true h0]; decide), iL0, iN_add]
      · rw [if_neg h0, if_pos (by rw [decide_eq_false h0]; decide), iL1, iN_add]
    have h24 : ¬ (24 : Int32) ≤ iN i := by
      have : (24 : Int32) = iN 24 := rfl
      rw [this, iN_le (by omega) (by omega)]; omega
    obtain ⟨r, e1, e2⟩ : wp (l_M_inodes_28_4 K N (n + 1) (iN ((List.range i).filter fun q => !decide (tI W q 0 = 0)).length) (iN i) s t) (fun r => r = .inl (20, [iN (zIc W)], s, t)) := by
      unfold l_M_inodes_28_4
      refine wp_ifn h24 (wp_bi (m_ofInode K N hK t h i 0 (by omega) (by omega)) (wp_let ?_))
      rw [ea, e3]
      exact ⟨_, hstep, rfl⟩
    rw [e1, e2]
theorem m_inodes (K : px_K) (N : Nat) (hN : 2000 ≤ N) (hK : zKm K) (t : px_W) {s : px_S} {W : ZSt} (h : zWs s W) : f_M_inodes_28 K N s t = some (.inl (some (.int (iN (zIc W)))), s, t) := by
  have this : l_M_inodes_28_4 K N N (0 : Int32) (0 : Int32) s t = _ := m_inodes_loop K N hK t h 24 0 N (by omega) (by omega)
  unfold f_M_inodes_28
  rw [this]; rfl
/-- what is counted while it is up -/
def qCountUp (T : ZTs) (a : Int) : Int32 := if a = 0 then 1 else if a = 1 then bN T.tv.wf else if a = 2 then T.tv.dn 1 1 else if a = 3 then (if T.tv.wf = true then iN T.tv.opn else -1) else if a = 4 then (if T.tv.wf = true then iN T.tv.opn - 1 - T.tv.dn 1 1 else -1) else if a = 5 then (if T.tv.wf = true then iN (T.tv.dirty T.tv.opn) else -1) else if a = 6 then iN T.sq else if a = 7 then iN (zCl T.ch).length else if a = 8 then iN (zCl T.kt).length else if a = 9 then 29 - iN T.jr else if a = 10 then iN (zIc T.wd) else if a = 11 then 64 - iN (zLeft T.wd) else if a = 12 then iN (T.tv.p.dv 0).pd.length else if a = 13 then iN (T.tv.p.dv 1).pd.length else if a = 14 then iN (T.tv.p.dv 0).wr else if a = 15 then iN (T.tv.p.dv 1).wr else if a = 16 then iN (T.tv.p.dv 0).fl else if a = 17 then iN (T.tv.p.dv 1).fl else -1
/-- and while it is down -/
def qCountDn (v : ZVs) (a : Int) : Int32 := if a = 0 then 0 else if a = 1 then 0 else if a = 2 then v.dn 1 1 else if a = 3 then -1 else if a = 4 then -1 else if a = 5 then -1 else if a = 6 then -1 else if a = 7 then -1 else if a = 8 then -1 else if a = 9 then -1 else if a = 10 then -1 else if a = 11 then -1 else if a = 12 then iN (v.p.dv 0).pd.length else if a = 13 then iN (v.p.dv 1).pd.length else if a = 14 then iN (v.p.dv 0).wr else if a = 15 then iN (v.p.dv 1).wr else if a = 16 then iN (v.p.dv 0).fl else if a = 17 then iN (v.p.dv 1).fl else -1
theorem i32_of {x : Int32} {n : Nat} (hn : n < 2147483648) (h : x.toInt = (n : Int)) : x = iN n := by
  apply Int32.toInt.inj
  rw [h, iN_toInt hn]
theorem m_countUp (K : px_K) (N : Nat) (hN : 2000 ≤ N) (hK : zKm K) (t : px_W) (s : px_S) (T : ZTs) (h : zRt s T) (hm : zMm T.tv) (hu : T.tv.p.up = true) (a : Int32) : f_M_count_28 K N a s t = some (.inl (some (.int (qCountUp T a.toInt))), sR s 25 (0 : Int32), t) := by
  have h0 := zRt_25 h 0
  obtain ⟨s0, hs0⟩ : ∃ s0, s0 = sR s 25 (0 : Int32) := ⟨_, rfl⟩
  rw [← hs0] at h0
  have hws : zWs s0 T.wd := h0.2.1
  have e29 : s0.1 29 = 1 := by rw [zRw_v h0.1.1, hu]; rfl
  have e31 : s0.1 31 = bN T.tv.wf := h0.1.2.2.2.2.1
  have ef : (if s0.1 29 = 0 then (0 : Int32) else (if s0.1 31 = 0 then (0 : Int32) else (1 : Int32))) = bN T.tv.wf := by
    rw [e29, if_neg (by decide), e31]; cases T.tv.wf <;> rfl
  have hlan := m_landed K N (by omega) hK t s0 T.tv.p.dv h0.1.1.1
  have n0 : (0 : Int32).toNatClampNeg = 0 := rfl
  have n1 : (1 : Int32).toNatClampNeg = 1 := rfl
  obtain ⟨d00, d01, d02, d03, d04, d05⟩ := h0.1.1.1 0 (by omega)
  obtain ⟨d10, d11, d12, d13, d14, d15⟩ := h0.1.1.1 1 (by omega)
  obtain ⟨r, e1, e2⟩ : wp (f_M_count_28 K N a s t) (fun r => r = (.inl (some (.int (qCountUp T a.toInt))), s0, t)) := by
    unfold f_M_count_28
    rw [← hs0]
    refine wp_let ?_
    rw [ef]
    refine wp_let ?_
    rw [e29]
    unfold qCountUp
    by_cases c0 : a.toInt = 0
    · rw [if_pos (c := a.toInt = 0) c0, if_pos (c := a.toInt = 0) c0]; exact wp_some rfl
    rw [if_neg (c := a.toInt = 0) c0, if_neg (c := a.toInt = 0) c0]
    by_cases c1 : a.toInt = 1
    · rw [if_pos (c := a.toInt = 1) c1, if_pos (c := a.toInt = 1) c1]; exact wp_some (by cases T.tv.wf <;> rfl)
    rw [if_neg (c := a.toInt = 1) c1, if_neg (c := a.toInt = 1) c1]
    by_cases c2 : a.toInt = 2
    · rw [if_pos (c := a.toInt = 2) c2, if_pos (c := a.toInt = 2) c2]; exact wp_bi hlan (wp_some rfl)
    rw [if_neg (c := a.toInt = 2) c2, if_neg (c := a.toInt = 2) c2]
    by_cases c3 : a.toInt = 3
    · rw [if_pos (c := a.toInt = 3) c3, if_pos (c := a.toInt = 3) c3]
      refine wp_some ?_
      rw [h0.1.2.2.2.2.2.1]
      cases T.tv.wf <;> rfl
    rw [if_neg (c := a.toInt = 3) c3, if_neg (c := a.toInt = 3) c3]
    by_cases c4 : a.toInt = 4
    · rw [if_pos (c := a.toInt = 4) c4, if_pos (c := a.toInt = 4) c4]
      cases T.tv.wf with
      | false => exact wp_if rfl (wp_some rfl)
      | true =>
        refine wp_ifn (by decide) (wp_bi hlan (wp_some ?_))
        rw [h0.1.2.2.2.2.2.1]; rfl
    rw [if_neg (c := a.toInt = 4) c4, if_neg (c := a.toInt = 4) c4]
    by_cases c5 : a.toInt = 5
    · rw [if_pos (c := a.toInt = 5) c5, if_pos (c := a.toInt = 5) c5]
      cases T.tv.wf with
      | false => exact wp_if rfl (wp_some rfl)
      | true =>
        rw [h0.1.2.2.2.2.2.1]
        exact wp_ifn (by decide) (wp_bi (m_dirty K N (by omega) hK t s0 T.tv h0.1.2 hm.1 T.tv.opn hm.1.2.2) (wp_some rfl))
    rw [if_neg (c := a.toInt = 5) c5, if_neg (c := a.toInt = 5) c5]
    by_cases c6 : a.toInt = 6
    · rw [if_pos (c := a.toInt = 6) c6, if_pos (c := a.toInt = 6) c6]
      refine wp_some ?_
      rw [h0.2.2.2.2.2.1]; rfl
    rw [if_neg (c := a.toInt = 6) c6, if_neg (c := a.toInt = 6) c6]
    by_cases c7 : a.toInt = 7
    · rw [if_pos (c := a.toInt = 7) c7, if_pos (c := a.toInt = 7) c7]
      exact wp_ifn (by decide) (wp_bi (m_changes K N hN hK t s0 T h0.2) (wp_some rfl))
    rw [if_neg (c := a.toInt = 7) c7, if_neg (c := a.toInt = 7) c7]
    by_cases c8 : a.toInt = 8
    · rw [if_pos (c := a.toInt = 8) c8, if_pos (c := a.toInt = 8) c8]
      exact wp_ifn (by decide) (wp_bi (m_keeps K N hN hK t s0 T h0.2) (wp_some rfl))
    rw [if_neg (c := a.toInt = 8) c8, if_neg (c := a.toInt = 8) c8]
    by_cases c9 : a.toInt = 9
    · rw [if_pos (c := a.toInt = 9) c9, if_pos (c := a.toInt = 9) c9]
      refine wp_some ?_
      rw [h0.2.2.2.2.2.2]; rfl
    rw [if_neg (c := a.toInt = 9) c9, if_neg (c := a.toInt = 9) c9]
    by_cases c10 : a.toInt = 10
    · rw [if_pos (c := a.toInt = 10) c10, if_pos (c := a.toInt = 10) c10]
      exact wp_ifn (by decide) (wp_bi (m_inodes K N hN hK t hws) (wp_some rfl))
    rw [if_neg (c := a.toInt = 10) c10, if_neg (c := a.toInt = 10) c10]
    by_cases c11 : a.toInt = 11
    · rw [if_pos (c := a.toInt = 11) c11, if_pos (c := a.toInt = 11) c11]
      exact wp_ifn (by decide) (wp_bi (m_left K N hN hK t hws) (wp_some rfl))
    rw [if_neg (c := a.toInt = 11) c11, if_neg (c := a.toInt = 11) c11]
    by_cases c12 : a.toInt = 12
    · rw [if_pos (c := a.toInt = 12) c12, if_pos (c := a.toInt = 12) c12]
      have ea : a - (12 : Int32) = 0 := by rw [i32_of (n := 12) (by omega) c12]; rfl
      rw [ea, n0, d01]
      exact wp_gd (by rw [hK.2.1]; exact iN_in (a := 0) (by omega) (by omega)) (wp_some rfl)
    rw [if_neg (c := a.toInt = 12) c12, if_neg (c := a.toInt = 12) c12]
    by_cases c13 : a.toInt = 13
    · rw [if_pos (c := a.toInt = 13) c13, if_pos (c := a.toInt = 13) c13]
      have ea : a - (12 : Int32) = 1 := by rw [i32_of (n := 13) (by omega) c13]; rfl
      rw [ea, n1, d11]
      exact wp_gd (by rw [hK.2.1]; exact iN_in (a := 1) (by omega) (by omega)) (wp_some rfl)
    rw [if_neg (c := a.toInt = 13) c13, if_neg (c := a.toInt = 13) c13]
    by_cases c14 : a.toInt = 14
    · rw [if_pos (c := a.toInt = 14) c14, if_pos (c := a.toInt = 14) c14]
      have ea : a - (14 : Int32) = 0 := by rw [i32_of (n := 14) (by omega) c14]; rfl
      rw [ea, n0, d04]
      exact wp_gd (by rw [hK.2.2.2.2.1]; exact iN_in (a := 0) (by omega) (by omega)) (wp_some rfl)
    rw [if_neg (c := a.toInt = 14) c14, if_neg (c := a.toInt = 14) c14]
    by_cases c15 : a.toInt = 15
    · rw [if_pos (c := a.toInt = 15) c15, if_pos (c := a.toInt = 15) c15]
      have ea : a - (14 : Int32) = 1 := by rw [i32_of (n := 15) (by omega) c15]; rfl
      rw [ea, n1, d14]
      exact wp_gd (by rw [hK.2.2.2.2.1]; exact iN_in (a := 1) (by omega) (by omega)) (wp_some rfl)
    rw [if_neg (c := a.toInt = 15) c15, if_neg (c := a.toInt = 15) c15]
    by_cases c16 : a.toInt = 16
    · rw [if_pos (c := a.toInt = 16) c16, if_pos (c := a.toInt = 16) c16]
      have ea : a - (16 : Int32) = 0 := by rw [i32_of (n := 16) (by omega) c16]; rfl
      rw [ea, n0, d05]
      exact wp_gd (by rw [hK.2.2.2.2.2.1]; exact iN_in (a := 0) (by omega) (by omega)) (wp_some rfl)
    rw [if_neg (c := a.toInt = 16) c16, if_neg (c := a.toInt = 16) c16]
    by_cases c17 : a.toInt = 17
    · rw [if_pos (c := a.toInt = 17) c17, if_pos (c := a.toInt = 17) c17]
      have ea : a - (16 : Int32) = 1 := by rw [i32_of (n := 17) (by omega) c17]; rfl
      rw [ea, n1, d15]
      exact wp_gd (by rw [hK.2.2.2.2.2.1]; exact iN_in (a := 1) (by omega) (by omega)) (wp_some rfl)
    rw [if_neg (c := a.toInt = 17) c17, if_neg (c := a.toInt = 17) c17]
    exact wp_some rfl
  rw [e1, e2, hs0]
theorem m_countDn (K : px_K) (N : Nat) (hN : 2000 ≤ N) (hK : zKm K) (t : px_W) (s : px_S) (v : ZVs) (h : zRv s v) (hu : v.p.up = false) (a : Int32) : f_M_count_28 K N a s t = some (.inl (some (.int (qCountDn v a.toInt))), sR s 25 (0 : Int32), t) := by
  have h0 : zRw (sR s 25 (0 : Int32)) v.p := zRw_int h.1 (by omega)
  obtain ⟨s0, hs0⟩ : ∃ s0, s0 = sR s 25 (0 : Int32) := ⟨_, rfl⟩
  rw [← hs0] at h0
  have e29 : s0.1 29 = 0 := (zRw_up h0).mpr hu
  have ef : (if s0.1 29 = 0 then (0 : Int32) else (if s0.1 31 = 0 then (0 : Int32) else (1 : Int32))) = 0 := by rw [if_pos e29]
  have hlan := m_landed K N (by omega) hK t s0 v.p.dv h0.1
  have n0 : (0 : Int32).toNatClampNeg = 0 := rfl
  have n1 : (1 : Int32).toNatClampNeg = 1 := rfl
  obtain ⟨d00, d01, d02, d03, d04, d05⟩ := h0.1 0 (by omega)
  obtain ⟨d10, d11, d12, d13, d14, d15⟩ := h0.1 1 (by omega)
  obtain ⟨r, e1, e2⟩ : wp (f_M_count_28 K N a s t) (fun r => r = (.inl (some (.int (qCountDn v a.toInt))), s0, t)) := by
    unfold f_M_count_28
    rw [← hs0]
    refine wp_let ?_
    rw [ef]
    refine wp_let ?_
    rw [e29]
    unfold qCountDn
    by_cases c0 : a.toInt = 0
    · rw [if_pos (c := a.toInt = 0) c0, if_pos (c := a.toInt = 0) c0]; exact wp_some rfl
    rw [if_neg (c := a.toInt = 0) c0, if_neg (c := a.toInt = 0) c0]
    by_cases c1 : a.toInt = 1
    · rw [if_pos (c := a.toInt = 1) c1, if_pos (c := a.toInt = 1) c1]; exact wp_some rfl
    rw [if_neg (c := a.toInt = 1) c1, if_neg (c := a.toInt = 1) c1]
    by_cases c2 : a.toInt = 2
    · rw [if_pos (c := a.toInt = 2) c2, if_pos (c := a.toInt = 2) c2]; exact wp_bi hlan (wp_some rfl)
    rw [if_neg (c := a.toInt = 2) c2, if_neg (c := a.toInt = 2) c2]
    by_cases c3 : a.toInt = 3
    · rw [if_pos (c := a.toInt = 3) c3, if_pos (c := a.toInt = 3) c3]; exact wp_some rfl
    rw [if_neg (c := a.toInt = 3) c3, if_neg (c := a.toInt = 3) c3]
    by_cases c4 : a.toInt = 4
    · rw [if_pos (c := a.toInt = 4) c4, if_pos (c := a.toInt = 4) c4]; exact wp_if rfl (wp_some rfl)
    rw [if_neg (c := a.toInt = 4) c4, if_neg (c := a.toInt = 4) c4]
    by_cases c5 : a.toInt = 5
    · rw [if_pos (c := a.toInt = 5) c5, if_pos (c := a.toInt = 5) c5]; exact wp_if rfl (wp_some rfl)
    rw [if_neg (c := a.toInt = 5) c5, if_neg (c := a.toInt = 5) c5]
    by_cases c6 : a.toInt = 6
    · rw [if_pos (c := a.toInt = 6) c6, if_pos (c := a.toInt = 6) c6]; exact wp_some rfl
    rw [if_neg (c := a.toInt = 6) c6, if_neg (c := a.toInt = 6) c6]
    by_cases c7 : a.toInt = 7
    · rw [if_pos (c := a.toInt = 7) c7, if_pos (c := a.toInt = 7) c7]; exact wp_if rfl (wp_some rfl)
    rw [if_neg (c := a.toInt = 7) c7, if_neg (c := a.toInt = 7) c7]
    by_cases c8 : a.toInt = 8
    · rw [if_pos (c := a.toInt = 8) c8, if_pos (c := a.toInt = 8) c8]; exact wp_if rfl (wp_some rfl)
    rw [if_neg (c := a.toInt = 8) c8, if_neg (c := a.toInt = 8) c8]
    by_cases c9 : a.toInt = 9
    · rw [if_pos (c := a.toInt = 9) c9, if_pos (c := a.toInt = 9) c9]; exact wp_some rfl
    rw [if_neg (c := a.toInt = 9) c9, if_neg (c := a.toInt = 9) c9]
    by_cases c10 : a.toInt = 10
    · rw [if_pos (c := a.toInt = 10) c10, if_pos (c := a.toInt = 10) c10]; exact wp_if rfl (wp_some rfl)
    rw [if_neg (c := a.toInt = 10) c10, if_neg (c := a.toInt = 10) c10]
    by_cases c11 : a.toInt = 11
    · rw [if_pos (c := a.toInt = 11) c11, if_pos (c := a.toInt = 11) c11]; exact wp_if rfl (wp_some rfl)
    rw [if_neg (c := a.toInt = 11) c11, if_neg (c := a.toInt = 11) c11]
    by_cases c12 : a.toInt = 12
    · rw [if_pos (c := a.toInt = 12) c12, if_pos (c := a.toInt = 12) c12]
      have ea : a - (12 : Int32) = 0 := by rw [i32_of (n := 12) (by omega) c12]; rfl
      rw [ea, n0, d01]
      exact wp_gd (by rw [hK.2.1]; exact iN_in (a := 0) (by omega) (by omega)) (wp_some rfl)
    rw [if_neg (c := a.toInt = 12) c12, if_neg (c := a.toInt = 12) c12]
    by_cases c13 : a.toInt = 13
    · rw [if_pos (c := a.toInt = 13) c13, if_pos (c := a.toInt = 13) c13]
      have ea : a - (12 : Int32) = 1 := by rw [i32_of (n := 13) (by omega) c13]; rfl
      rw [ea, n1, d11]
      exact wp_gd (by rw [hK.2.1]; exact iN_in (a := 1) (by omega) (by omega)) (wp_some rfl)
    rw [if_neg (c := a.toInt = 13) c13, if_neg (c := a.toInt = 13) c13]
    by_cases c14 : a.toInt = 14
    · rw [if_pos (c := a.toInt = 14) c14, if_pos (c := a.toInt = 14) c14]
      have ea : a - (14 : Int32) = 0 := by rw [i32_of (n := 14) (by omega) c14]; rfl
      rw [ea, n0, d04]
      exact wp_gd (by rw [hK.2.2.2.2.1]; exact iN_in (a := 0) (by omega) (by omega)) (wp_some rfl)
    rw [if_neg (c := a.toInt = 14) c14, if_neg (c := a.toInt = 14) c14]
    by_cases c15 : a.toInt = 15
    · rw [if_pos (c := a.toInt = 15) c15, if_pos (c := a.toInt = 15) c15]
      have ea : a - (14 : Int32) = 1 := by rw [i32_of (n := 15) (by omega) c15]; rfl
      rw [ea, n1, d14]
      exact wp_gd (by rw [hK.2.2.2.2.1]; exact iN_in (a := 1) (by omega) (by omega)) (wp_some rfl)
    rw [if_neg (c := a.toInt = 15) c15, if_neg (c := a.toInt = 15) c15]
    by_cases c16 : a.toInt = 16
    · rw [if_pos (c := a.toInt = 16) c16, if_pos (c := a.toInt = 16) c16]
      have ea : a - (16 : Int32) = 0 := by rw [i32_of (n := 16) (by omega) c16]; rfl
      rw [ea, n0, d05]
      exact wp_gd (by rw [hK.2.2.2.2.2.1]; exact iN_in (a := 0) (by omega) (by omega)) (wp_some rfl)
    rw [if_neg (c := a.toInt = 16) c16, if_neg (c := a.toInt = 16) c16]
    by_cases c17 : a.toInt = 17
    · rw [if_pos (c := a.toInt = 17) c17, if_pos (c := a.toInt = 17) c17]
      have ea : a - (16 : Int32) = 1 := by rw [i32_of (n := 17) (by omega) c17]; rfl
      rw [ea, n1, d15]
      exact wp_gd (by rw [hK.2.2.2.2.2.1]; exact iN_in (a := 1) (by omega) (by omega)) (wp_some rfl)
    rw [if_neg (c := a.toInt = 17) c17, if_neg (c := a.toInt = 17) c17]
    exact wp_some rfl
  rw [e1, e2, hs0]
