/-! REMOVE (the reference) -/
def xGiveL : List Nat → ZTs → ZTs
  | [], T => T
  | b :: l, T => xGiveL l (xGive T b)
theorem xGiveL_ch : ∀ (l : List Nat) (T : ZTs), zStep [29] T (xGiveL l T) := by
  intro l
  induction l with
  | nil => intro T; exact zStep_mono (zStep_refl T) (fun b hb => (by cases hb)) (fun b hb => by have := List.mem_singleton.mp hb; omega)
  | cons b l ih => intro T; exact zStep_mono (zStep_trans (zStep_give (b := b)) (ih (xGive T b))) (fun b hb => by simp only [List.mem_append, List.mem_cons, List.not_mem_nil, or_false, or_self] at hb ⊢; exact hb) (fun b hb => by have := List.mem_singleton.mp hb; omega)
theorem xGiveL_out : ∀ (l : List Nat) (T : ZTs) (c : Nat), c ≠ 29 → (xGiveL l T).wd c = T.wd c := by
  intro l
  induction l with
  | nil => intro T c _; rfl
  | cons b l ih => intro T c hc; exact (ih (xGive T b) c hc).trans (zt_blk hc)
theorem xGiveL_U : ∀ (l : List Nat) (T : ZTs) (q : Nat), (∀ b ∈ l, 42 ≤ b) → (tU (xGiveL l T).wd q = true ↔ tU T.wd q = true ∧ (42 + q) ∉ l) := by
  intro l
  induction l with
  | nil => intro T q _; exact ⟨fun h => ⟨h, List.not_mem_nil⟩, fun h => h.1⟩
  | cons b l ih =>
    intro T q hb
    show tU (xGiveL l (xGive T b)).wd q = true ↔ _
    rw [ih (xGive T b) q (fun c hc => hb c (List.mem_cons_of_mem _ hc))]
    have e : tU (xGive T b).wd q = (tU T.wd q && !decide (q = b - 42)) := tU_clr
    have h42 := hb b List.mem_cons_self
    rw [e, Bool.and_eq_true, List.mem_cons, not_or]
    constructor
    · rintro ⟨⟨h1, h2⟩, h3⟩
      refine ⟨h1, fun hx => ?_, h3⟩
      rw [decide_eq_true (show q = b - 42 by omega)] at h2; cases h2
    · rintro ⟨h1, h2, h3⟩
      refine ⟨⟨h1, ?_⟩, h3⟩
      rw [decide_eq_false (show ¬ q = b - 42 by omega)]; rfl
/-- pointers do not look at the map -/
theorem tP_29 {W U : ZSt} (h : ∀ c, c ≠ 29 → U c = W c) (hv : zPv W) {j l : Nat} (hj : j < 24) (hl : l ≤ 20) : tP U j l = tP W j l := by
  refine tP_out hj hl (fun c c1 c2 => h c (by omega)) (fun hne _ _ => ?_)
  have := (hv j 20 hj (by omega)).2
  rw [← tF_eq] at this
  rw [h _ (by omega)]
theorem zPv_29 {W U : ZSt} (h : ∀ c, c ≠ 29 → U c = W c) (hv : zPv W) : zPv U ∧ ∀ j l, j < 24 → l ≤ 20 → tB U j l = tB W j l := by
  have hP : ∀ j l, j < 24 → l ≤ 20 → tP U j l = tP W j l := fun j l hj hl => tP_29 h hv hj hl
  have hB : ∀ j l, j < 24 → l ≤ 20 → tB U j l = tB W j l := fun j l hj hl => by unfold tB; rw [hP j l hj hl]
  exact ⟨fun j l hj hl => by rw [hP j l hj hl, hB j l hj hl]; exact hv j l hj hl, hB⟩
/-- an inode's blocks from the k-th on -/
def zBl (W : ZSt) (i : Nat) : Nat → Nat → List Nat
  | 0, _ => []
  | c + 1, k => if tB W i k = 0 then zBl W i c (k + 1) else tB W i k :: zBl W i c (k + 1)
theorem mem_zBl {W : ZSt} {i b : Nat} : ∀ {c k : Nat}, b ∈ zBl W i c k ↔ b ≠ 0 ∧ ∃ l, k ≤ l ∧ l < k + c ∧ tB W i l = b := by
  intro c
  induction c with
  | zero => intro k; exact ⟨fun h => (by cases h), fun ⟨_, l, l1, l2, _⟩ => by omega⟩
  | succ c ih =>
    intro k
    unfold zBl
    by_cases h0 : tB W i k = 0
    · rw [if_pos h0, ih]
      constructor
      · rintro ⟨h1, l, l1, l2, l3⟩; exact ⟨h1, l, by omega, by omega, l3⟩
      · rintro ⟨h1, l, l1, l2, l3⟩
        refine ⟨h1, l, ?_, by omega, l3⟩
        rcases Nat.lt_or_ge k l with h | h
        · exact h
        · have : l = k := by omega
          rw [this, h0] at l3; exact absurd l3.symm h1
    · rw [if_neg h0, List.mem_cons, ih]
      constructor
      · rintro (h | ⟨h1, l, l1, l2, l3⟩)
        · rw [h]; exact ⟨h0, k, Nat.le_refl _, by omega, rfl⟩
        · exact ⟨h1, l, by omega, by omega, l3⟩
      · rintro ⟨h1, l, l1, l2, l3⟩
        by_cases hlk : l = k
        · left; rw [← l3, hlk]
        · right; exact ⟨h1, l, by omega, by omega, l3⟩
theorem m_rm42 (K : px_K) (N : Nat) (hN : 2000 ≤ N) (hK : zKm K) (t : px_W) (u1 u3 : Int32) (i : Nat) (hi : i < 24) (W : ZSt) (hv : zPv W) : ∀ (c k n : Nat) (s : px_S) (T : ZTs), k + c = 20 → c < n → zRt s T → (∀ b, b ≠ 29 → T.wd b = W b) → wp (l_M_remove_28_42 K N n u1 u3 (iN i) (iN k) s t) (zC 58 [] t (fun s' => zRt s' (xGiveL (zBl W i c k) T) ∧ zFt s s')) := by
  intro c
  induction c with
  | zero =>
    intro k n s T hk hn h hW
    obtain ⟨n, rfl⟩ : ∃ n', n = n' + 1 := ⟨n - 1, by omega⟩
    have hk : k = 20 := by omega
    subst hk
    unfold l_M_remove_28_42
    exact wp_if (by decide) (wp_rC ⟨h, zFt_refl s⟩)
  | succ c ih =>
    intro k n s T hk hn h hW
    obtain ⟨n, rfl⟩ : ∃ n', n = n' + 1 := ⟨n - 1, by omega⟩
    have e3 : iN k + (1 : Int32) = iN (k + 1) := by rw [iL1, iN_add]
    have h20 : ¬ (20 : Int32) ≤ iN k := by
      have : (20 : Int32) = iN 20 := rfl
      rw [this, iN_le (by omega) (by omega)]; omega
    obtain ⟨p1, p2⟩ := zPv_29 hW hv
    have hws : zWs s T.wd := h.2.1
    have hb := m_blockOfP K N hK t hws p1 i k hi (by omega)
    rw [p2 i k hi (by omega)] at hb
    have hr := (hv i k hi (by omega)).2
    unfold l_M_remove_28_42
    rw [e3]
    refine wp_ifn h20 (wp_bi hb ?_)
    unfold zBl
    by_cases h0 : tB W i k = 0
    · rw [if_pos h0]
      exact wp_if (by rw [h0]; decide) (ih (k + 1) n s T (by omega) (by omega) h hW)
    · rw [if_neg h0]
      refine wp_ifn (by rw [iL0, iN_le (by omega) (by omega)]; omega) (wp_bi hb ?_)
      obtain ⟨s1, a1, a2, a3⟩ := m_giveBack K N hK t s T h (tB W i k) (by omega) (by omega)
      refine wp_bv a1 (wp_imp (ih (k + 1) n s1 (xGive T (tB W i k)) (by omega) (by omega) a2 (fun b hb' => (zt_blk hb').trans (hW b hb'))) ?_)
      rintro r ⟨s', r1, r2, r3⟩
      exact ⟨s', r1, r2, zFt_trans a3 r3⟩
/-- an inode's words are cleared -/
def xClr (T : ZTs) (i : Nat) : ZTs := ZTs.mk T.tv (fun c v => if c = 30 + i / 2 ∧ 8 * (i % 2) ≤ v ∧ v < 8 * (i % 2) + 8 then 0 else T.wd c v) T.kp (zu T.ch (30 + i / 2) true) T.kt T.sq T.jr
theorem m_rm71 (K : px_K) (N : Nat) (hK : zKm K) (t : px_W) (u1 u3 : Int32) (i : Nat) (hi : i < 24) : ∀ (d m n : Nat) (s : px_S) (T : ZTs), m + d = 8 → d < n → zRt s T → wp (l_M_remove_28_71 K N n u1 u3 (iN i) (iN m) s t) (zC 81 [] t (fun s' => (∃ T' : ZTs, zRt s' T' ∧ T'.tv = T.tv ∧ T'.kp = T.kp ∧ T'.kt = T.kt ∧ T'.sq = T.sq ∧ T'.jr = T.jr ∧ T'.wd = (fun c v => if c = 30 + i / 2 ∧ 8 * (i % 2) + m ≤ v ∧ v < 8 * (i % 2) + 8 then 0 else T.wd c v) ∧ (T'.ch = if m < 8 then zu T.ch (30 + i / 2) true else T.ch)) ∧ zFt s s')) := by
  intro d
  induction d with
  | zero =>
    intro m n s T hm hn h
    obtain ⟨n, rfl⟩ : ∃ n', n = n' + 1 := ⟨n - 1, by omega⟩
    have hm : m = 8 := by omega
    subst hm
    unfold l_M_remove_28_71
    refine wp_if (by decide) (wp_rC ⟨⟨T, h, rfl, rfl, rfl, rfl, rfl, ?_, by rw [if_neg (by omega)]⟩, zFt_refl s⟩)
    funext c v; rw [if_neg (by omega)]
  | succ d ih =>
    intro m n s T hm hn h
    obtain ⟨n, rfl⟩ : ∃ n', n = n' + 1 := ⟨n - 1, by omega⟩
    have e3 : iN m + (1 : Int32) = iN (m + 1) := by rw [iL1, iN_add]
    have h8 : ¬ (8 : Int32) ≤ iN m := by
      have : (8 : Int32) = iN 8 := rfl
      rw [this, iN_le (by omega) (by omega)]; omega
    unfold l_M_remove_28_71
    rw [e3]
    refine wp_ifn h8 ?_
    obtain ⟨s1, a1, a2, a3⟩ := m_tellInode K N hK t s T h i m 0 hi (by omega)
    refine wp_bv a1 (wp_imp (ih (m + 1) n s1 _ (by omega) (by omega) a2) ?_)
    rintro r ⟨s', r1, ⟨T', q1, q2, q3, q4, q5, q6, q7, q8⟩, r3⟩
    refine ⟨s', r1, ⟨T', q1, q2, q3, q4, q5, q6, ?_, ?_⟩, zFt_trans a3 r3⟩
    · rw [q7]
      funext c v
      show (if c = 30 + i / 2 ∧ 8 * (i % 2) + (m + 1) ≤ v ∧ v < 8 * (i % 2) + 8 then 0 else zt T.wd (30 + i / 2) (8 * (i % 2) + m) 0 c v) = _
      by_cases hcv : c = 30 + i / 2 ∧ v = 8 * (i % 2) + m
      · rw [hcv.1, hcv.2, if_neg (by omega), if_pos (by omega), zt_self]
      · rw [zt_ne (by omega)]
        by_cases hle : c = 30 + i / 2 ∧ 8 * (i % 2) + m ≤ v ∧ v < 8 * (i % 2) + 8
        · rw [if_pos (by omega), if_pos hle]
        · rw [if_neg (by omega), if_neg hle]
    · rw [q8, if_pos (c := m < 8) (by omega)]
      show (if m + 1 < 8 then zu (zu T.ch (30 + i / 2) true) (30 + i / 2) true else zu T.ch (30 + i / 2) true) = _
      rw [zu_zu]
      split <;> rfl
theorem m_clr (K : px_K) (N : Nat) (hN : 2000 ≤ N) (hK : zKm K) (t : px_W) (u1 u3 : Int32) (i : Nat) (hi : i < 24) (s : px_S) (T : ZTs) (h : zRt s T) : ∃ s', l_M_remove_28_71 K N N u1 u3 (iN i) (0 : Int32) s t = some (.inl (81, [], s', t)) ∧ zRt s' (xClr T i) ∧ zFt s s' := by
  obtain ⟨s', r1, ⟨T', q1, q2, q3, q4, q5, q6, q7, q8⟩, r3⟩ := wp_C (m_rm71 K N hK t u1 u3 i hi 8 0 N s T (by omega) (by omega) h)
  refine ⟨s', r1, ?_, r3⟩
  have eT : T' = xClr T i := by
    have e : T' = ZTs.mk T'.tv T'.wd T'.kp T'.ch T'.kt T'.sq T'.jr := rfl
    rw [e, q2, q3, q4, q5, q6, q7, q8, if_pos (by omega)]
    rfl
  rw [← eT]; exact q1
/-- an inode goes, with its blocks and its name -/
def zAllB (W : ZSt) (i : Nat) : List Nat := zBl W i 20 0 ++ (if tF W i = 0 then [] else [tF W i])
def xDel (T : ZTs) (d p i : Nat) : ZTs := xEnt (xClr (xGiveL (zAllB T.wd i) T) i) d p 0 0
theorem xGiveL_app : ∀ (l m : List Nat) (T : ZTs), xGiveL (l ++ m) T = xGiveL m (xGiveL l T) := by
  intro l
  induction l with
  | nil => intro m T; rfl
  | cons b l ih => intro m T; exact ih m (xGive T b)
/-- what stands between the clearing of an inode and of its name -/
theorem zdel_ok {T : ZTs} (hw : ZW T.wd) {d p i : Nat} (hd : d < 24) (hkd : tI T.wd d 0 = 1) (hp : p < tS T.wd d) (hn0 : tN T.wd d p ≠ 0) (he : tE T.wd d p = iN i) (hi1 : 1 ≤ i) (hi : i < 24) (hki : tI T.wd i 0 ≠ 0) (hemp : tI T.wd i 0 = 1 → zNm T.wd i = 0) : ZW (xDel T d p i).wd ∧ ZWa (xClr (xGiveL (zAllB T.wd i) T) i).wd ∧ tI (xClr (xGiveL (zAllB T.wd i) T) i).wd d 0 = 1 ∧ tS (xClr (xGiveL (zAllB T.wd i) T) i).wd d = tS T.wd d ∧ tB (xClr (xGiveL (zAllB T.wd i) T) i).wd d (p / 8) = tB T.wd d (p / 8) := by
  obtain ⟨b0, b1, b2, b3⟩ := zdir_blk hw.a hd hkd hp
  have hent : zEnt T.wd d p i := ⟨hd, hkd, hp, hn0, he⟩
  have hdi : d ≠ i := by
    intro hx
    obtain ⟨r, hr⟩ := hw.b.er
    have := hr d p i hent hi
    rw [hx] at this; omega
  obtain ⟨M, hM⟩ : ∃ M, M = (xClr (xGiveL (zAllB T.wd i) T) i).wd := ⟨_, rfl⟩
  have hMo : ∀ c, c ≠ 29 → c ≠ 30 + i / 2 → M c = T.wd c := by
    intro c c1 c2
    rw [hM]
    funext v
    show (if c = 30 + i / 2 ∧ _ then 0 else (xGiveL (zAllB T.wd i) T).wd c v) = _
    rw [if_neg (fun hx => c2 hx.1), xGiveL_out _ _ _ c1]
  have hMi : ∀ v, M (30 + i / 2) v = if 8 * (i % 2) ≤ v ∧ v < 8 * (i % 2) + 8 then 0 else T.wd (30 + i / 2) v := by
    intro v
    rw [hM]
    show (if 30 + i / 2 = 30 + i / 2 ∧ _ then 0 else (xGiveL (zAllB T.wd i) T).wd (30 + i / 2) v) = _
    rw [xGiveL_out _ _ _ (by omega)]
    by_cases hv : 8 * (i % 2) ≤ v ∧ v < 8 * (i % 2) + 8
    · rw [if_pos ⟨rfl, hv⟩, if_pos hv]
    · rw [if_neg (fun hx => hv hx.2), if_neg hv]
  have hM29 : M 29 = (xGiveL (zAllB T.wd i) T).wd 29 := by
    rw [hM]; funext v
    show (if 29 = 30 + i / 2 ∧ _ then 0 else (xGiveL (zAllB T.wd i) T).wd 29 v) = _
    rw [if_neg (by omega)]
  have hIM : ∀ j w, j < 24 → w < 8 → tI M j w = if j = i then 0 else tI T.wd j w := by
    intro j w hj hw8
    unfold tI
    by_cases hji : j = i
    · rw [if_pos hji, hji, hMi, if_pos (by omega)]
    · rw [if_neg hji]
      by_cases hb : 30 + j / 2 = 30 + i / 2
      · rw [hb, hMi, if_neg (by omega)]
      · rw [hMo _ (by omega) hb]
  have hPM : ∀ j l, j < 24 → l ≤ 20 → j ≠ i → tP M j l = tP T.wd j l := by
    intro j l hj hl hji
    have hf := (hw.a.pv j 20 hj (by omega)).2
    rw [← tF_eq] at hf
    have hFj : tF M j = tF T.wd j := by unfold tF; rw [hIM j 6 hj (by omega), if_neg hji]
    unfold tP
    by_cases h4 : l < 4
    · rw [if_pos h4, if_pos h4, hIM j (2 + l) hj (by omega), if_neg hji]
    · rw [if_neg h4, if_neg h4]
      by_cases h20 : l = 20
      · rw [if_pos h20, if_pos h20, hIM j 6 hj (by omega), if_neg hji]
      · rw [if_neg h20, if_neg h20, hFj]
        by_cases hf0 : tF T.wd j = 0
        · rw [if_pos hf0, if_pos hf0]
        · rw [if_neg hf0, if_neg hf0, hMo _ (by omega) (by omega)]
  have hall : ∀ b ∈ zAllB T.wd i, 42 ≤ b ∧ ∃ l, l ≤ 20 ∧ tB T.wd i l = b := by
    intro b hb
    rcases List.mem_append.mp hb with hb | hb
    · obtain ⟨h1, l, l1, l2, l3⟩ := mem_zBl.mp hb
      have := (hw.a.pv i l hi (by omega)).2
      exact ⟨by omega, l, by omega, l3⟩
    · by_cases hf0 : tF T.wd i = 0
      · rw [if_pos hf0] at hb; cases hb
      · rw [if_neg hf0] at hb
        have hb := List.mem_singleton.mp hb
        have := (hw.a.pv i 20 hi (by omega)).2
        rw [← tF_eq] at this
        exact ⟨by omega, 20, by omega, by rw [← tF_eq]; exact hb.symm⟩
  have hUM : ∀ j l, j < 24 → l ≤ 20 → j ≠ i → tB T.wd j l ≠ 0 → tU M (tB T.wd j l - 42) = true := by
    intro j l hj hl hji hne
    have e : tU M (tB T.wd j l - 42) = tU (xGiveL (zAllB T.wd i) T).wd (tB T.wd j l - 42) := by unfold tU; rw [hM29]
    have hr := (hw.a.pv j l hj hl).2
    rw [e, xGiveL_U _ _ _ (fun b hb => (hall b hb).1)]
    refine ⟨hw.a.pu j l hj hl hne, fun hx => ?_⟩
    obtain ⟨_, l', l1, l2⟩ := hall _ hx
    have := hw.a.pd j l i l' hj hl hi l1 hne (by omega)
    exact hji this.1
  -- first the name, then the inode
  obtain ⟨E, hE⟩ : ∃ E, E = zt (zt T.wd (tB T.wd d (p / 8)) (2 * (p % 8)) 0) (tB T.wd d (p / 8)) (2 * (p % 8) + 1) 0 := ⟨_, rfl⟩
  obtain ⟨e1, e2⟩ := hw.clrEntry hd hkd hp hE
  obtain ⟨f1, f2, f3, f4, f5, f6, f7⟩ := hw.atPlace hd hkd hp hE
  have hBE : ∀ j l, j < 24 → l ≤ 20 → tB E j l = tB T.wd j l := fun j l hj hl => by unfold tB; rw [f2 j l hj hl]
  obtain ⟨F, hF⟩ : ∃ F, F = zt (zt M (tB T.wd d (p / 8)) (2 * (p % 8)) 0) (tB T.wd d (p / 8)) (2 * (p % 8) + 1) 0 := ⟨_, rfl⟩
  have hFo : ∀ c, c ≠ 29 → c ≠ 30 + i / 2 → F c = E c := by
    intro c c1 c2
    rw [hF, hE]
    by_cases hc : c = tB T.wd d (p / 8)
    · rw [hc]; unfold zt
      rw [zu_self, zu_self, zu_self, zu_self, hMo (tB T.wd d (p / 8)) (by omega) (by omega)]
    · rw [zt_blk hc, zt_blk hc, zt_blk hc, zt_blk hc]; exact hMo c c1 c2
  have hFM : ∀ c, c ≠ tB T.wd d (p / 8) → F c = M c := fun c hc => by rw [hF, zt_blk hc, zt_blk hc]
  have hBM : tB M d (p / 8) = tB T.wd d (p / 8) := by unfold tB; rw [hPM d (p / 8) hd (by omega) hdi]
  have hfar : ∀ j, j < 24 → j ≠ i → tF M j ≠ tB T.wd d (p / 8) := by
    intro j hj hji
    have hFj : tF M j = tF T.wd j := by unfold tF; rw [hIM j 6 hj (by omega), if_neg hji]
    rw [hFj]; exact zdir_far hw.a hd hkd hp j hj
  have hIF : ∀ j w, j < 24 → w < 8 → tI F j w = tI M j w := by
    intro j w hj hw8
    unfold tI; rw [hFM _ (by omega)]
  have hPF : ∀ j l, j < 24 → l ≤ 20 → j ≠ i → tP F j l = tP T.wd j l := by
    intro j l hj hl hji
    rw [← hPM j l hj hl hji]
    exact tP_out hj hl (fun c c1 c2 => hFM c (by omega)) (fun hne _ _ => by rw [hFM _ (hfar j hj hji)])
  have hF29 : F 29 = M 29 := hFM 29 (by omega)
  have hWF : ZW F := by
    refine e1.rmInode hi1 hi (fun a q hx => ?_) (fun j w hj hw8 hji => ?_) (fun w hw8 => ?_) (fun j l hj hl hji => ?_) (fun j l hj hl hji hne => ?_) (fun j l hj hl hji hne => ?_)
    · obtain ⟨x1, x2⟩ := (e2 a q i).mp hx
      exact x2 (hw.b.ep a q d p i x1 hent)
    · rw [hIF j w hj hw8, hIM j w hj hw8, if_neg hji, f1 j w hj]
    · rw [hIF i w hi hw8, hIM i w hi hw8, if_pos rfl]
    · rw [hPF j l hj hl hji, f2 j l hj hl]
    · rw [hBE j l hj hl] at hne ⊢
      have e : tU F (tB T.wd j l - 42) = tU M (tB T.wd j l - 42) := by unfold tU; rw [hF29]
      rw [e]; exact hUM j l hj hl hji hne
    · have hr := (e1.a.pv j l hj (by omega)).2
      exact hFo _ (by omega) (by omega)
  have hkM : tI M d 0 = 1 := by rw [hIM d 0 hd (by omega), if_neg hdi]; exact hkd
  have hsM : tS M d = tS T.wd d := tS_of (by rw [hIM d 1 hd (by omega), if_neg hdi])
  -- the frame of what stands between
  have hWaM : ZWa M := by
    have hFF : ∀ j, j < 24 → tF F j ≠ tB T.wd d (p / 8) := by
      intro j hj hx
      by_cases hji : j = i
      · rw [hji] at hx
        have : tF F i = 0 := by unfold tF; rw [hIF i 6 hi (by omega), hIM i 6 hi (by omega), if_pos rfl]; rfl
        omega
      · have : tF F j = tF M j := by unfold tF; rw [hIF j 6 hj (by omega)]
        exact hfar j hj hji (by rw [← this]; exact hx)
    have hM' : M = zt (zt F (tB T.wd d (p / 8)) (2 * (p % 8)) (M (tB T.wd d (p / 8)) (2 * (p % 8)))) (tB T.wd d (p / 8)) (2 * (p % 8) + 1) (M (tB T.wd d (p / 8)) (2 * (p % 8) + 1)) := by
      rw [hF]
      funext c v
      by_cases hc : c = tB T.wd d (p / 8)
      · rw [hc]
        by_cases v1 : v = 2 * (p % 8) + 1
        · rw [v1, zt_self]
        · rw [zt_wrd v1]
          by_cases v2 : v = 2 * (p % 8)
          · rw [v2, zt_self]
          · rw [zt_wrd v2, zt_wrd v1, zt_wrd v2]
      · rw [zt_blk hc, zt_blk hc, zt_blk hc, zt_blk hc]
    obtain ⟨y1, y2, y3⟩ := zwa_data hWF.a (b := tB T.wd d (p / 8)) (w := 2 * (p % 8)) (x := M (tB T.wd d (p / 8)) (2 * (p % 8))) b2 hFF
    obtain ⟨y4, _, _⟩ := zwa_data y1 (b := tB T.wd d (p / 8)) (w := 2 * (p % 8) + 1) (x := M (tB T.wd d (p / 8)) (2 * (p % 8) + 1)) b2 (fun j hj => by
      have : tF (zt F (tB T.wd d (p / 8)) (2 * (p % 8)) (M (tB T.wd d (p / 8)) (2 * (p % 8)))) j = tF F j := by unfold tF; rw [y3 j 6 hj]
      rw [this]; exact hFF j hj)
    rw [hM']; exact y4
  have eD : (xDel T d p i).wd = F := by
    unfold xDel xEnt
    show zt (zt (xClr (xGiveL (zAllB T.wd i) T) i).wd (tB (xClr (xGiveL (zAllB T.wd i) T) i).wd d (p / 8)) _ _) (tB (xClr (xGiveL (zAllB T.wd i) T) i).wd d (p / 8)) _ _ = F
    rw [← hM, hBM, hF]
  rw [eD, ← hM]
  exact ⟨hWF, hWaM, hkM, hsM, hBM⟩
/-- the tail of a removal -/
theorem m_rmtail (K : px_K) (N : Nat) (hN : 2000 ≤ N) (hK : zKm K) (t27 : px_W) (s26 : px_S) (T : ZTs) (h : zRt s26 T) (hw : ZW T.wd) (d p i : Nat) (hd : d < 24) (hkd : tI T.wd d 0 = 1) (hp : p < tS T.wd d) (hn0 : tN T.wd d p ≠ 0) (he : tE T.wd d p = iN i) (hi1 : 1 ≤ i) (hi : i < 24) (hki : tI T.wd i 0 ≠ 0) (hemp : tI T.wd i 0 = 1 → zNm T.wd i = 0) (a0 v18 v24 : Int32) (ha0 : a0 = iN d) (hv18 : v18 = iN p) (hv24 : v24 = iN i) : wp (px_lp (l_M_remove_28_42 K N N a0 v18 v24 (0 : Int32) s26 t27) (fun i32 vs33 s34 t35 => (if i32 = 58 then (px_v0 vs33 (px_bi (f_M_ofInode_28 K N v24 (6 : Int32) s34 t35) (fun v42 s39 t40 => (if v42 ≤ 0 then (px_lp (l_M_remove_28_71 K N N a0 v18 v24 (0 : Int32) s39 t40) (fun i45 vs46 s47 t48 => (if i45 = 81 then (px_v0 vs46 (px_bv (f_M_leave_28 K N a0 v18 s47 t48) (fun s52 t53 => (some (.inl (some (.int (0 : Int32))), s52, t53))) (fun x56 s52 t53 => none))) else none)) (fun z50 => some z50)) else (px_bi (f_M_ofInode_28 K N v24 (6 : Int32) s39 t40) (fun v60 s57 t58 => (px_bv (f_M_giveBack_28 K N v60 s57 t58) (fun s62 t63 => (px_lp (l_M_remove_28_71 K N N a0 v18 v24 (0 : Int32) s62 t63) (fun i67 vs68 s69 t70 => (if i67 = 81 then (px_v0 vs68 (px_bv (f_M_leave_28 K N a0 v18 s69 t70) (fun s74 t75 => (some (.inl (some (.int (0 : Int32))), s74, t75))) (fun x78 s74 t75 => none))) else none)) (fun z72 => some z72))) (fun x66 s62 t63 => none))) (fun x61 s57 t58 => none)))) (fun x43 s39 t40 => none))) else none)) (fun z37 => some z37)) (zA 0 t27 (fun s' => zRt s' (xDel T d p i) ∧ zFt s26 s')) := by
  subst ha0 hv18 hv24
  obtain ⟨d1, d2, d3, d4, d5⟩ := zdel_ok hw hd hkd hp hn0 he hi1 hi hki hemp
  obtain ⟨s1, a1, a2, a3⟩ := wp_C (m_rm42 K N hN hK t27 (iN d) (iN p) i hi T.wd hw.a.pv 20 0 N s26 T (by omega) (by omega) h (fun _ _ => rfl))
  refine wp_lp a1 (wp_if rfl (wp_v0 ?_))
  have hpv := (zPv_29 (W := T.wd) (U := (xGiveL (zBl T.wd i 20 0) T).wd) (fun c hc => xGiveL_out _ _ _ hc) hw.a.pv)
  have hF : tF (xGiveL (zBl T.wd i 20 0) T).wd i = tF T.wd i := by rw [tF_eq, tF_eq, hpv.2 i 20 hi (by omega)]
  have hws : zWs s1 (xGiveL (zBl T.wd i 20 0) T).wd := a2.2.1
  have hr : f_M_ofInode_28 K N (iN i) (6 : Int32) s1 t27 = _ := m_ofInode K N hK t27 hws i 6 hi (by omega)
  have hI6 : tI (xGiveL (zBl T.wd i 20 0) T).wd i 6 = iN (tF T.wd i) := by
    have := (hpv.1 i 20 hi (by omega)).1
    rw [← tF_eq, hF] at this
    exact this
  rw [hI6] at hr
  refine wp_bi hr ?_
  have hrg := (hw.a.pv i 20 hi (by omega)).2
  rw [← tF_eq] at hrg
  have hdel : xDel T d p i = xEnt (xClr (xGiveL (zAllB T.wd i) T) i) d p 0 0 := rfl
  by_cases hf0 : tF T.wd i = 0
  · have eA : zAllB T.wd i = zBl T.wd i 20 0 := by unfold zAllB; rw [if_pos hf0, List.append_nil]
    rw [eA] at hdel d2 d3 d4
    refine wp_if (by rw [hf0]; decide) ?_
    obtain ⟨s2, b1, b2, b3⟩ := m_clr K N hN hK t27 (iN d) (iN p) i hi s1 _ a2
    refine wp_lp b1 (wp_if rfl (wp_v0 ?_))
    obtain ⟨s3, c1, c2, c3⟩ := m_leave K N hN hK t27 s2 _ b2 d2 d p hd d3 (by rw [d4]; exact hp)
    rw [hdel]
    exact wp_bv c1 (wp_rA ⟨c2, zFt_trans a3 (zFt_trans b3 c3)⟩)
  · have eA : zAllB T.wd i = zBl T.wd i 20 0 ++ [tF T.wd i] := by unfold zAllB; rw [if_neg hf0]
    rw [eA, xGiveL_app] at hdel d2 d3 d4
    refine wp_ifn (by rw [iL0, iN_le (by omega) (by omega)]; omega) (wp_bi hr ?_)
    obtain ⟨s2, b1, b2, b3⟩ := m_giveBack K N hK t27 s1 _ a2 (tF T.wd i) (by omega) (by omega)
    refine wp_bv b1 ?_
    obtain ⟨s3, c1, c2, c3⟩ := m_clr K N hN hK t27 (iN d) (iN p) i hi s2 _ b2
    refine wp_lp c1 (wp_if rfl (wp_v0 ?_))
    obtain ⟨s4, e1, e2, e3⟩ := m_leave K N hN hK t27 s3 _ c2 d2 d p hd d3 (Nat.lt_of_lt_of_eq hp d4.symm)
    rw [hdel]
    exact wp_bv e1 (wp_rA ⟨e2, zFt_trans a3 (zFt_trans b3 (zFt_trans c3 e3))⟩)
def xRemove (T : ZTs) (d x : Int32) : Int32 × ZTs := if zKb T.wd d 1 = true then (match (if 1 ≤ x then zPl T.wd (n32 d) x else none) with
  | none => (-1, T)
  | some p => if tI T.wd (n32 (tE T.wd (n32 d) p)) 0 = 1 ∧ 0 < zNm T.wd (n32 (tE T.wd (n32 d) p)) then (-3, T) else (0, xDel T (n32 d) p (n32 (tE T.wd (n32 d) p)))) else (-4, T)
/-- what an entry names -/
theorem zent_of {W : ZSt} (hw : ZW W) {d p : Nat} (hd : d < 24) (hk : tI W d 0 = 1) (hp : p < tS W d) (hn : tN W d p ≠ 0) : ∃ i, tE W d p = iN i ∧ n32 (tE W d p) = i ∧ 1 ≤ i ∧ i < 24 ∧ tI W i 0 ≠ 0 := by
  obtain ⟨_, i, i1, i2, i3, i4⟩ := hw.b.en d p hd hk hp hn
  exact ⟨i, i1, by rw [i1, n32_iN (by omega)], i2, i3, i4⟩
theorem zPl_x {W : ZSt} {d p : Nat} {x : Int32} (h : zPl W d x = some p) (hx : 1 ≤ x) : p < tS W d ∧ tN W d p ≠ 0 := by
  obtain ⟨h1, h2⟩ := zPl_some h
  exact ⟨h1, by rw [h2]; intro h0; rw [h0] at hx; exact absurd hx (by decide)⟩
theorem m_remove (K : px_K) (N : Nat) (hN : 2000 ≤ N) (hK : zKm K) (t4 : px_W) (s3 : px_S) (T : ZTs) (h : zRt s3 T) (hw : ZW T.wd) (a0 a1 : Int32) : wp (px_bi (f_M_isKind_28 K N a0 (1 : Int32) s3 t4) (fun v12 s9 t10 => (if ¬ v12 = 0 then (px_bi (f_M_placeOf_28 K N a0 a1 s9 t10) (fun v18 s15 t16 => (if 0 ≤ v18 then (px_bi (f_M_inodeAt_28 K N a0 v18 s15 t16) (fun v24 s21 t22 => (px_bi (f_M_isKind_28 K N v24 (1 : Int32) s21 t22) (fun v29 s26 t27 => (if v29 = 0 then (px_lp (l_M_remove_28_42 K N N a0 v18 v24 (0 : Int32) s26 t27) (fun i32 vs33 s34 t35 => (if i32 = 58 then (px_v0 vs33 (px_bi (f_M_ofInode_28 K N v24 (6 : Int32) s34 t35) (fun v42 s39 t40 => (if v42 ≤ 0 then (px_lp (l_M_remove_28_71 K N N a0 v18 v24 (0 : Int32) s39 t40) (fun i45 vs46 s47 t48 => (if i45 = 81 then (px_v0 vs46 (px_bv (f_M_leave_28 K N a0 v18 s47 t48) (fun s52 t53 => (some (.inl (some (.int (0 : Int32))), s52, t53))) (fun x56 s52 t53 => none))) else none)) (fun z50 => some z50)) else (px_bi (f_M_ofInode_28 K N v24 (6 : Int32) s39 t40) (fun v60 s57 t58 => (px_bv (f_M_giveBack_28 K N v60 s57 t58) (fun s62 t63 => (px_lp (l_M_remove_28_71 K N N a0 v18 v24 (0 : Int32) s62 t63) (fun i67 vs68 s69 t70 => (if i67 = 81 then (px_v0 vs68 (px_bv (f_M_leave_28 K N a0 v18 s69 t70) (fun s74 t75 => (some (.inl (some (.int (0 : Int32))), s74, t75))) (fun x78 s74 t75 => none))) else none)) (fun z72 => some z72))) (fun x66 s62 t63 => none))) (fun x61 s57 t58 => none)))) (fun x43 s39 t40 => none))) else none)) (fun z37 => some z37)) else (px_bi (f_M_names_28 K N v24 s26 t27) (fun v82 s79 t80 => (if v82 ≤ 0 then (px_lp (l_M_remove_28_42 K N N a0 v18 v24 (0 : Int32) s79 t80) (fun i85 vs86 s87 t88 => (if i85 = 58 then (px_v0 vs86 (px_bi (f_M_ofInode_28 K N v24 (6 : Int32) s87 t88) (fun v95 s92 t93 => (if v95 ≤ 0 then (px_lp (l_M_remove_28_71 K N N a0 v18 v24 (0 : Int32) s92 t93) (fun i98 vs99 s100 t101 => (if i98 = 81 then (px_v0 vs99 (px_bv (f_M_leave_28 K N a0 v18 s100 t101) (fun s105 t106 => (some (.inl (some (.int (0 : Int32))), s105, t106))) (fun x109 s105 t106 => none))) else none)) (fun z103 => some z103)) else (px_bi (f_M_ofInode_28 K N v24 (6 : Int32) s92 t93) (fun v113 s110 t111 => (px_bv (f_M_giveBack_28 K N v113 s110 t111) (fun s115 t116 => (px_lp (l_M_remove_28_71 K N N a0 v18 v24 (0 : Int32) s115 t116) (fun i120 vs121 s122 t123 => (if i120 = 81 then (px_v0 vs121 (px_bv (f_M_leave_28 K N a0 v18 s122 t123) (fun s127 t128 => (some (.inl (some (.int (0 : Int32))), s127, t128))) (fun x131 s127 t128 => none))) else none)) (fun z125 => some z125))) (fun x119 s115 t116 => none))) (fun x114 s110 t111 => none)))) (fun x96 s92 t93 => none))) else none)) (fun z90 => some z90)) else (some (.inl (some (.int (-3 : Int32))), s79, t80)))) (fun x83 s79 t80 => none)))) (fun x30 s26 t27 => none))) (fun x25 s21 t22 => none)) else (some (.inl (some (.int (-1 : Int32))), s15, t16)))) (fun x19 s15 t16 => none)) else (some (.inl (some (.int (-4 : Int32))), s9, t10)))) (fun x13 s9 t10 => none)) (zA (xRemove T a0 a1).1 t4 (fun s' => zRt s' (xRemove T a0 a1).2 ∧ zFt s3 s')) := by
  have hws : zWs s3 T.wd := h.2.1
  have same : ∀ (a : Int32) (F : Option px_Res), wp F (zA a t4 (fun s' => zRt s' T ∧ zFt s3 s')) → xRemove T a0 a1 = (a, T) → wp F (zA (xRemove T a0 a1).1 t4 (fun s' => zRt s' (xRemove T a0 a1).2 ∧ zFt s3 s')) := by
    intro a F hF he; rw [he]; exact hF
  refine wp_bi (m_kind K N hK t4 hws a0 1) ?_
  cases hkb : zKb T.wd a0 1 with
  | false =>
    exact same (-4) _ (wp_ifn (fun hx => hx rfl) (wp_rA ⟨h, zFt_refl s3⟩)) (if_neg (by rw [hkb]; exact Bool.noConfusion))
  | true =>
    obtain ⟨k1, k2, k3⟩ := zKd_of hkb
    have hxm : xRemove T a0 a1 = (match (if 1 ≤ a1 then zPl T.wd (n32 a0) a1 else none) with
      | none => (-1, T)
      | some p => if tI T.wd (n32 (tE T.wd (n32 a0) p)) 0 = 1 ∧ 0 < zNm T.wd (n32 (tE T.wd (n32 a0) p)) then (-3, T) else (0, xDel T (n32 a0) p (n32 (tE T.wd (n32 a0) p)))) := if_pos hkb
    obtain ⟨m, m1, m2, _, _⟩ := hw.a.dsz k2 k3
    have hpl := m_placeOf K N hN hK t4 hws hw.a hw.b (n32 a0) k2 k3 a1
    rw [← k1] at hpl
    refine wp_if (by decide) (wp_bi hpl ?_)
    by_cases hx1 : 1 ≤ a1
    · rw [if_pos hx1] at hxm
      rw [if_pos hx1]
      cases hz : zPl T.wd (n32 a0) a1 with
      | none =>
        rw [hz] at hxm
        exact same (-1) _ (wp_ifn (by decide) (wp_rA ⟨h, zFt_refl s3⟩)) hxm
      | some p =>
        rw [hz] at hxm
        dsimp only at hxm
        obtain ⟨p1, p2⟩ := zPl_x hz hx1
        obtain ⟨i, i0, i1, i2, i3, i4⟩ := zent_of hw k2 k3 p1 p2
        rw [i1] at hxm
        have hia := m_inodeAt K N hK t4 hws hw.a (n32 a0) p k2 k3 p1
        rw [← k1, i0] at hia
        refine wp_if (by show 0 ≤ iN p; rw [iL0, iN_le (by omega) (by omega)]; omega) (wp_bi hia (wp_bi (m_kind K N hK t4 hws (iN i) 1) ?_))
        have hn32 : n32 (iN i) = i := n32_iN (by omega)
        have tail : (tI T.wd i 0 = 1 → zNm T.wd i = 0) → wp (px_lp (l_M_remove_28_42 K N N a0 (iN p) (iN i) (0 : Int32) s3 t4) (fun i32 vs33 s34 t35 => (if i32 = 58 then (px_v0 vs33 (px_bi (f_M_ofInode_28 K N (iN i) (6 : Int32) s34 t35) (fun v42 s39 t40 => (if v42 ≤ 0 then (px_lp (l_M_remove_28_71 K N N a0 (iN p) (iN i) (0 : Int32) s39 t40) (fun i45 vs46 s47 t48 => (if i45 = 81 then (px_v0 vs46 (px_bv (f_M_leave_28 K N a0 (iN p) s47 t48) (fun s52 t53 => (some (.inl (some (.int (0 : Int32))), s52, t53))) (fun x56 s52 t53 => none))) else none)) (fun z50 => some z50)) else (px_bi (f_M_ofInode_28 K N (iN i) (6 : Int32) s39 t40) (fun v60 s57 t58 => (px_bv (f_M_giveBack_28 K N v60 s57 t58) (fun s62 t63 => (px_lp (l_M_remove_28_71 K N N a0 (iN p) (iN i) (0 : Int32) s62 t63) (fun i67 vs68 s69 t70 => (if i67 = 81 then (px_v0 vs68 (px_bv (f_M_leave_28 K N a0 (iN p) s69 t70) (fun s74 t75 => (some (.inl (some (.int (0 : Int32))), s74, t75))) (fun x78 s74 t75 => none))) else none)) (fun z72 => some z72))) (fun x66 s62 t63 => none))) (fun x61 s57 t58 => none)))) (fun x43 s39 t40 => none))) else none)) (fun z37 => some z37)) (zA (xRemove T a0 a1).1 t4 (fun s' => zRt s' (xRemove T a0 a1).2 ∧ zFt s3 s')) := by
          intro hemp
          rw [if_neg (fun hx => by have := hemp hx.1; omega)] at hxm
          rw [hxm]
          exact m_rmtail K N hN hK t4 s3 T h hw (n32 a0) p i k2 k3 p1 p2 i0 i2 i3 i4 hemp a0 (iN p) (iN i) k1 rfl rfl
        cases hkk : zKb T.wd (iN i) 1 with
        | false =>
          refine wp_if rfl (tail (fun hx => ?_))
          exact absurd ⟨by rw [iL0, iN_le (by omega) (by omega)]; omega, by show iN i < iN 24; rw [iN_lt (by omega) (by omega)]; exact i3, by rw [hn32]; exact hx⟩ (zKb_no hkk)
        | true =>
          obtain ⟨_, _, q3⟩ := zKd_of hkk
          rw [hn32] at q3
          have hnm64 : zNm T.wd i ≤ tS T.wd i := zCnt_le _ _
          obtain ⟨m', m1', m2', _, _⟩ := hw.a.dsz i3 q3
          refine wp_ifn (by decide) (wp_bi (m_names K N hN hK t4 hws hw.a i i3 q3) ?_)
          by_cases hz0 : zNm T.wd i = 0
          · exact wp_if (by rw [hz0]; decide) (tail (fun _ => hz0))
          · rw [if_pos ⟨q3, by omega⟩] at hxm
            exact same (-3) _ (wp_ifn (by rw [iL0, iN_le (by omega) (by omega)]; omega) (wp_rA ⟨h, zFt_refl s3⟩)) hxm
    · rw [if_neg hx1] at hxm
      rw [if_neg hx1]
      exact same (-1) _ (wp_ifn (by decide) (wp_rA ⟨h, zFt_refl s3⟩)) hxm
theorem zremove_ok {T : ZTs} (hw : ZW T.wd) (d x : Int32) : ZW (xRemove T d x).2.wd ∧ ∃ L : List Nat, L.length ≤ 5 ∧ zStep L T (xRemove T d x).2 := by
  have same : ∀ a, xRemove T d x = (a, T) → ZW (xRemove T d x).2.wd ∧ ∃ L : List Nat, L.length ≤ 5 ∧ zStep L T (xRemove T d x).2 := by
    intro a he; rw [he]; exact ⟨hw, [], Nat.zero_le _, zStep_refl T⟩
  by_cases hkb : zKb T.wd d 1 = true
  · have hxm : xRemove T d x = (match (if 1 ≤ x then zPl T.wd (n32 d) x else none) with
      | none => (-1, T)
      | some p => if tI T.wd (n32 (tE T.wd (n32 d) p)) 0 = 1 ∧ 0 < zNm T.wd (n32 (tE T.wd (n32 d) p)) then (-3, T) else (0, xDel T (n32 d) p (n32 (tE T.wd (n32 d) p)))) := if_pos hkb
    obtain ⟨k1, k2, k3⟩ := zKd_of hkb
    by_cases hx1 : 1 ≤ x
    · rw [if_pos hx1] at hxm
      cases hz : zPl T.wd (n32 d) x with
      | none => rw [hz] at hxm; exact same _ hxm
      | some p =>
        rw [hz] at hxm
        dsimp only at hxm
        obtain ⟨p1, p2⟩ := zPl_x hz hx1
        obtain ⟨i, i0, i1, i2, i3, i4⟩ := zent_of hw k2 k3 p1 p2
        rw [i1] at hxm
        by_cases hc : tI T.wd i 0 = 1 ∧ 0 < zNm T.wd i
        · rw [if_pos hc] at hxm; exact same _ hxm
        · rw [if_neg hc] at hxm
          rw [hxm]
          obtain ⟨d1, d2, d3, d4, d5⟩ := zdel_ok hw k2 k3 p1 p2 i0 i2 i3 i4 (fun hx => by
            rcases Nat.eq_zero_or_pos (zNm T.wd i) with h | h
            · exact h
            · exact absurd ⟨hx, h⟩ hc)
          obtain ⟨b0, b1, b2, b3⟩ := zdir_blk hw.a k2 k3 p1
          refine ⟨d1, [29, 30 + i / 2, tB T.wd (n32 d) (p / 8)], by show 3 ≤ 5; omega, ?_⟩
          have s1 := xGiveL_ch (zAllB T.wd i) T
          have s2 : zStep [30 + i / 2] (xGiveL (zAllB T.wd i) T) (xClr (xGiveL (zAllB T.wd i) T) i) := by
            refine ⟨rfl, rfl, rfl, rfl, rfl, fun c hc => ?_, fun c hc => ?_, fun c hc => by have := List.mem_singleton.mp hc; omega⟩
            · have hc : zu (xGiveL (zAllB T.wd i) T).ch (30 + i / 2) true c = false := hc
              by_cases hcb : c = 30 + i / 2
              · rw [hcb, zu_self] at hc; cases hc
              · rw [zu_ne _ _ hcb] at hc
                refine ⟨hc, ?_⟩
                funext v
                show (if c = 30 + i / 2 ∧ _ then 0 else (xGiveL (zAllB T.wd i) T).wd c v) = _
                rw [if_neg (fun hx => hcb hx.1)]
            · have hc : zu (xGiveL (zAllB T.wd i) T).ch (30 + i / 2) true c = true := hc
              by_cases hcb : c = 30 + i / 2
              · right; rw [hcb]; exact List.mem_singleton.mpr rfl
              · rw [zu_ne _ _ hcb] at hc; exact Or.inl hc
          have s3 := zent_step (T := xClr (xGiveL (zAllB T.wd i) T) i) (d := n32 d) (p := p) (x := 0) (y := 0) (by rw [d5]; omega) (by rw [d5]; exact b3)
          rw [d5] at s3
          refine zStep_mono (zStep_trans (zStep_trans s1 s2) s3) (fun b hb => ?_) (fun b hb => ?_)
          · simp only [List.mem_append, List.mem_cons, List.not_mem_nil, or_false] at hb ⊢; omega
          · simp only [List.mem_cons, List.not_mem_nil, or_false] at hb; omega
    · rw [if_neg hx1] at hxm; exact same _ hxm
  · exact same _ (if_neg hkb)
