/-! NAMES ARE ENTERED AND LEFT (the reference) -/
def xEnt (T : ZTs) (d p : Nat) (x y : Int32) : ZTs := xT (xT T (tB T.wd d (p / 8)) (2 * (p % 8)) x) (tB T.wd d (p / 8)) (2 * (p % 8) + 1) y
def xGrow (T : ZTs) (d : Nat) : ZTs := if zFpl T.wd d = tS T.wd d then xI (xFor T d (tS T.wd d / 8)) d 1 (iN (tS T.wd d + 8)) else T
def xEnter (T : ZTs) (d : Nat) (x y : Int32) : ZTs := xEnt (xGrow T d) d (zFpl T.wd d) x y
/-- a data block's words do not matter to the tree's frame -/
theorem zwa_data {W : ZSt} (h : ZWa W) {b w : Nat} {x : Int32} (hb : 42 ≤ b) (hf : ∀ i, i < 24 → tF W i ≠ b) : ZWa (zt W b w x) ∧ (∀ j l, j < 24 → l ≤ 20 → tB (zt W b w x) j l = tB W j l) ∧ (∀ j v, j < 24 → tI (zt W b w x) j v = tI W j v) := by
  have hI : ∀ j v, j < 24 → tI (zt W b w x) j v = tI W j v := fun j v hj => tI_out (fun c c1 c2 => zt_blk (by omega)) hj
  have hP : ∀ j l, j < 24 → l ≤ 20 → tP (zt W b w x) j l = tP W j l := fun j l hj hl => tP_out hj hl (fun c c1 c2 => zt_blk (by omega)) (fun hne _ _ => by rw [zt_blk (fun hx => hf j hj hx)])
  refine ⟨h.congr (fun i v hi _ => hI i v hi) hP (fun i k hi hk hne => ?_), fun j l hj hl => by unfold tB; rw [hP j l hj hl], hI⟩
  have e : tU (zt W b w x) (tB W i k - 42) = tU W (tB W i k - 42) := by unfold tU; rw [zt_blk (by omega)]
  rw [e]; exact h.pu i k hi hk hne
theorem zdir_far {W : ZSt} (h : ZWa W) {d p : Nat} (hd : d < 24) (hk : tI W d 0 = 1) (hp : p < tS W d) : ∀ i, i < 24 → tF W i ≠ tB W d (p / 8) := by
  intro i hi hx
  obtain ⟨b0, b1, b2, b3⟩ := zdir_blk h hd hk hp
  rw [tF_eq] at hx
  have := h.pd i 20 d (p / 8) hi (by omega) hd (by omega) (by omega) hx
  omega
theorem m_ent (K : px_K) (N : Nat) (hN : 2000 ≤ N) (hK : zKm K) (t : px_W) (s : px_S) (T : ZTs) (h : zRt s T) (hw : ZWa T.wd) (d p : Nat) (hd : d < 24) (hk : tI T.wd d 0 = 1) (hp : p < tS T.wd d) (x y : Int32) {α : Type} {Q : α → Prop} {F : px_S → px_W → Option α} {g1 g2 g3 g4 : Nat → px_S → px_W → Option α} (hQ : ∀ s', zRt s' (xEnt T d p x y) → zFt s s' → wp (F s' t) Q) : wp (px_bi (f_M_blockOf_28 K N (iN d) (iN p / (8 : Int32)) s t) (fun v15 s12 t13 => (px_bv (f_M_tell_28 K N v15 ((2 : Int32) * (iN p - iN p / (8 : Int32) * (8 : Int32))) x s12 t13) (fun s17 t18 => (px_bi (f_M_blockOf_28 K N (iN d) (iN p / (8 : Int32)) s17 t18) (fun v25 s22 t23 => (px_bv (f_M_tell_28 K N v25 (((2 : Int32) * (iN p - iN p / (8 : Int32) * (8 : Int32))) + (1 : Int32)) y s22 t23) F g4)) g3)) g2)) g1) Q := by
  obtain ⟨b0, b1, b2, b3⟩ := zdir_blk hw hd hk hp
  have h8 : (8 : Int32) = iN 8 := rfl
  have hws : zWs s T.wd := h.2.1
  rw [h8, iN_rem (by omega) (by omega) (by omega), iN_div (by omega) (by omega) (by omega), iL2, iN_mul, iL1, iN_add]
  obtain ⟨c1, c2, c3⟩ := zwa_data hw (b := tB T.wd d (p / 8)) (w := 2 * (p % 8)) (x := x) b2 (zdir_far hw hd hk hp)
  refine wp_bi (m_blockOf K N hK t hws hw d (p / 8) hd b1) ?_
  obtain ⟨s1, a1, a2, a3⟩ := m_tell K N hK t s T h (tB T.wd d (p / 8)) (2 * (p % 8)) x b3 (by omega)
  refine wp_bv a1 ?_
  have hws1 : zWs s1 (zt T.wd (tB T.wd d (p / 8)) (2 * (p % 8)) x) := a2.2.1
  have hb2 := m_blockOf K N hK t hws1 c1 d (p / 8) hd b1
  rw [c2 d (p / 8) hd (by omega)] at hb2
  refine wp_bi hb2 ?_
  obtain ⟨s2, d1, d2, d3⟩ := m_tell K N hK t s1 _ a2 (tB T.wd d (p / 8)) (2 * (p % 8) + 1) y b3 (by omega)
  exact wp_bv d1 (hQ s2 d2 (zFt_trans a3 d3))
/-! an inode's word is told -/
theorem zin_w {W : ZSt} (h : ZWa W) {i w : Nat} {x : Int32} (hi : i < 24) (hw : w < 8) : (∀ j v, v < 8 → tI (zt W (30 + i / 2) (8 * (i % 2) + w) x) j v = if j = i ∧ v = w then x else tI W j v) ∧ (w ≤ 1 → ∀ j l, j < 24 → l ≤ 20 → tP (zt W (30 + i / 2) (8 * (i % 2) + w) x) j l = tP W j l) ∧ (∀ q, tU (zt W (30 + i / 2) (8 * (i % 2) + w) x) q = tU W q) ∧ (∀ b, 42 ≤ b → zt W (30 + i / 2) (8 * (i % 2) + w) x b = W b) := by
  refine ⟨fun j v hv => tI_zt hw hv, fun hw1 j l hj hl => ?_, fun q => ?_, fun b hb => zt_blk (by omega)⟩
  · have hf := (h.pv j 20 hj (by omega)).2
    rw [← tF_eq] at hf
    exact tP_zt hi hw hj hl (by omega) (fun hx => by omega) (by omega)
  · unfold tU; rw [zt_blk (by omega)]
/-- a directory that has a place for a new name -/
def zGr (W U : ZSt) (d p : Nat) : Prop := ZW U ∧ (∀ j, j < 24 → tI U j 0 = tI W j 0) ∧ p < tS U d ∧ tN U d p = 0 ∧ (∀ e q, e < 24 → tI W e 0 = 1 → q < tS W e → q < tS U e ∧ tN U e q = tN W e q ∧ tE U e q = tE W e q ∧ tB U e (q / 8) = tB W e (q / 8)) ∧ (∀ e q, e < 24 → tI W e 0 = 1 → q < tS U e → q < tS W e ∨ tN U e q = 0)
theorem zGr_ent {W U : ZSt} {d p : Nat} (h : zGr W U d p) (e q j : Nat) : zEnt U e q j ↔ zEnt W e q j := by
  obtain ⟨h1, h2, h3, h4, h5, h6⟩ := h
  constructor
  · rintro ⟨a, b, c, f, g⟩
    rw [h2 e a] at b
    rcases h6 e q a b c with hq | hq
    · obtain ⟨_, n1, n2, _⟩ := h5 e q a b hq
      exact ⟨a, b, hq, by rw [← n1]; exact f, by rw [← n2]; exact g⟩
    · exact absurd hq f
  · rintro ⟨a, b, c, f, g⟩
    obtain ⟨n0, n1, n2, _⟩ := h5 e q a b c
    exact ⟨a, by rw [h2 e a]; exact b, n0, by rw [n1]; exact f, by rw [n2]; exact g⟩
theorem zPs_names {W U : ZSt} {i k : Nat} (hw : ZW W) (h : ZPs W U i k) (hi : i < 24) {e q : Nat} (he : e < 24) (hk1 : tI W e 0 = 1) (hq : q < tS W e) (hne : ¬ (e = i ∧ q / 8 = k)) : tN U e q = tN W e q ∧ tE U e q = tE W e q ∧ tB U e (q / 8) = tB W e (q / 8) := by
  obtain ⟨b0, b1, b2, b3⟩ := zdir_blk hw.a he hk1 hq
  have hB : tB U e (q / 8) = tB W e (q / 8) := by unfold tB; rw [h.p e (q / 8) he (by omega) hne]
  have hblk : U (tB W e (q / 8)) = W (tB W e (q / 8)) := h.o _ b2 (h.f e (q / 8) he (by omega)) (fun hx => zdir_far hw.a he hk1 hq i hi hx.symm)
  unfold tN tE
  rw [hB, hblk]; exact ⟨rfl, rfl, rfl⟩
/-- a block taken for an inode: the first step, if one is wanted, and the second -/
theorem zfor_ok {T : ZTs} (hw : ZW T.wd) {i k : Nat} (hi : i < 24) (hk : k < 20) (hk0 : tI T.wd i 0 ≠ 0) (hl : zWn T.wd i k ≤ zLeft T.wd) (hD : tI T.wd i 0 = 1 → tS T.wd i ≤ 8 * k) : ZW (xFor1 T i k).wd ∧ 1 ≤ zLeft (xFor1 T i k).wd ∧ (4 ≤ k → tF (xFor1 T i k).wd i ≠ 0) ∧ (∀ j w, j < 24 → w < 6 → tI (xFor1 T i k).wd j w = tI T.wd j w) ∧ (∀ e q, e < 24 → tI T.wd e 0 = 1 → q < tS T.wd e → tN (xFor1 T i k).wd e q = tN T.wd e q ∧ tE (xFor1 T i k).wd e q = tE T.wd e q ∧ tB (xFor1 T i k).wd e (q / 8) = tB T.wd e (q / 8)) ∧ (∀ l, l < 20 → tB (xFor1 T i k).wd i l = tB T.wd i l) ∧ ZPs (xFor1 T i k).wd (xFor T i k).wd i k := by
  have hD1 : ∀ U : ZSt, ZW U → tI U i 0 = tI T.wd i 0 → tI U i 1 = tI T.wd i 1 → tI U i 0 = 1 → tS U i ≤ 8 * k := by
    intro U _ h0 h1 hx
    rw [tS_of h1]; exact hD (by rw [← h0]; exact hx)
  have e2 : (xFor T i k).wd = zTk2 (xFor1 T i k).wd i k := xFor2_wd _ _ _
  rw [e2, xFor1_wd]
  by_cases hc : 4 ≤ k ∧ tF T.wd i = 0
  · rw [if_pos hc]
    obtain ⟨hp, hl2⟩ := zfor_1 hw hi hk hk0 hl hD hc
    have hI : ∀ j w, j < 24 → w < 6 → tI (zTk1 T.wd i) j w = tI T.wd j w := fun j w hj hw6 => hp.i j w hj (by omega) (by omega)
    have h2 : zWn T.wd i k = 2 := by unfold zWn; rw [if_pos hc]
    have hlow := (zLow_lt (T := T.wd) (by omega)).1
    have hF : tF (zTk1 T.wd i) i ≠ 0 := by
      rw [tF_eq]; unfold tB; rw [hp.n, n32_iN (by omega)]; omega
    refine ⟨hp.w, hl2, fun _ => hF, hI, fun e q he hke hq => zPs_names hw hp hi he hke hq (by have := zdir_blk hw.a he hke hq; omega), fun l hl' => ?_, ?_⟩
    · unfold tB; rw [hp.p i l hi (by omega) (by omega)]
    · exact zTk2_ok hp.w hi hk (by rw [hI i 0 hi (by omega)]; exact hk0) (fun _ => hF) hl2 (hD1 _ hp.w (hI i 0 hi (by omega)) (hI i 1 hi (by omega)))
  · rw [if_neg hc]
    have hl1 : 1 ≤ zLeft T.wd := by unfold zWn at hl; rw [if_neg hc] at hl; exact hl
    refine ⟨hw, hl1, fun h4 hx => hc ⟨h4, hx⟩, fun _ _ _ _ => rfl, fun _ _ _ _ _ => ⟨rfl, rfl, rfl⟩, fun _ _ => rfl, zTk2_ok hw hi hk hk0 (fun h4 hx => hc ⟨h4, hx⟩) hl1 hD⟩
theorem zgrow_ok {T : ZTs} (hw : ZW T.wd) {d : Nat} (hd : d < 24) (hk : tI T.wd d 0 = 1) (hr : zRoom T.wd d = true) : zGr T.wd (xGrow T d).wd d (zFpl T.wd d) := by
  obtain ⟨m, m1, m2, m3, m4⟩ := hw.a.dsz hd hk
  have hle := zFpl_le (W := T.wd) (d := d)
  unfold xGrow
  by_cases hf : zFpl T.wd d = tS T.wd d
  · rw [if_pos hf]
    obtain ⟨k, hkk⟩ : ∃ k, k = tS T.wd d / 8 := ⟨_, rfl⟩
    have hsz : tS T.wd d = 8 * k := by omega
    have hroom : k < 20 ∧ zWn T.wd d k ≤ zLeft T.wd := by
      unfold zRoom at hr
      rw [decide_eq_false (by omega), Bool.false_or, Bool.and_eq_true, decide_eq_true_eq, decide_eq_true_eq, hf, ← hkk] at hr
      exact ⟨by omega, hr.2⟩
    obtain ⟨hk20, hl⟩ := hroom
    have hk0 : tI T.wd d 0 ≠ 0 := by rw [hk]; decide
    rw [← hkk]
    obtain ⟨f1, f2, f3, f4, f5, f6, f7⟩ := zfor_ok hw hd hk20 hk0 hl (fun _ => by omega)
    obtain ⟨W1, hW1⟩ : ∃ W1, W1 = (xFor1 T d k).wd := ⟨_, rfl⟩
    obtain ⟨W2, hW2⟩ : ∃ W2, W2 = (xFor T d k).wd := ⟨_, rfl⟩
    have eU : (xI (xFor T d k) d 1 (iN (tS T.wd d + 8))).wd = zt W2 (30 + d / 2) (8 * (d % 2) + 1) (iN (tS T.wd d + 8)) := by rw [hW2]; rfl
    rw [eU]
    rw [← hW1, ← hW2] at f7
    rw [← hW1] at f1 f2 f3 f4 f5 f6
    have S1 : ∀ e, e < 24 → tS W1 e = tS T.wd e := fun e he => tS_of (f4 e 1 he (by omega))
    have I2 : ∀ j w, j < 24 → w < 2 → tI W2 j w = tI T.wd j w := fun j w hj hw2 => (f7.i j w hj (by omega) (by omega)).trans (f4 j w hj (by omega))
    have S2 : ∀ e, e < 24 → tS W2 e = tS T.wd e := fun e he => tS_of (I2 e 1 he (by omega))
    obtain ⟨z1, z2, z3, z4⟩ := zin_w f7.w.a (i := d) (w := 1) (x := iN (tS T.wd d + 8)) hd (by omega)
    have z2 := z2 (by omega)
    obtain ⟨U, hU⟩ : ∃ U, U = zt W2 (30 + d / 2) (8 * (d % 2) + 1) (iN (tS T.wd d + 8)) := ⟨_, rfl⟩
    rw [← hU] at z1 z2 z3 z4 ⊢
    have hlow := (zLow_lt f2).1
    have hBk : tB W2 d k = 42 + zLow W1 := by unfold tB; rw [f7.n, n32_iN (by omega)]
    have hBl : ∀ l, l < k → tB W2 d l = tB T.wd d l := fun l hl' => by
      have e1 : tB W2 d l = tB W1 d l := by unfold tB; rw [f7.p d l hd (by omega) (by omega)]
      rw [e1]; exact f6 l (by omega)
    have hU1 : tI U d 1 = iN (tS T.wd d + 8) := by rw [z1 d 1 (by omega), if_pos ⟨rfl, rfl⟩]
    have SU : tS U d = tS T.wd d + 8 := by unfold tS; rw [hU1, n32_iN (by omega)]; rfl
    have SUo : ∀ e, e < 24 → e ≠ d → tS U e = tS T.wd e := fun e he hne => by
      have e1 : tS U e = tS W2 e := tS_of (by rw [z1 e 1 (by omega), if_neg (fun hx => hne hx.1)])
      rw [e1, S2 e he]
    have hnew : ∀ p, tS T.wd d ≤ p → p < tS T.wd d + 8 → tN W2 d p = 0 := by
      intro p p1 p2
      have hp8 : p / 8 = k := by omega
      unfold tN
      rw [hp8, hBk]
      exact f7.z _ (by omega)
    have hZU : ZW U := by
      refine f7.w.setSize (i := d) (s := tS T.wd d + 8) hd (by omega) (fun j w hj hw8 hne => by rw [z1 j w hw8, if_neg hne]) hU1 z2 z3 (fun j l hj hl' hne => z4 _ (by have := (f7.w.a.pv j l hj (by omega)).2; omega)) (by rw [I2 d 0 hd (by omega)]; exact hk0) (fun _ => ?_) (fun hx => ?_)
      · refine ⟨k + 1, by omega, by omega, by rw [S2 d hd]; omega, fun l hl' => ?_, fun p p1 p2 => hnew p (by rw [S2 d hd] at p1; exact p1) p2⟩
        by_cases hlk : l = k
        · rw [hlk, hBk]; omega
        · rw [hBl l (by omega)]; exact m4 l (by omega)
      · rw [I2 d 0 hd (by omega), hk] at hx; exact absurd hx (by decide)
    have hNU : ∀ e q, e < 24 → q / 8 < 20 → tB W2 e (q / 8) ≠ 0 → tN U e q = tN W2 e q ∧ tE U e q = tE W2 e q ∧ tB U e (q / 8) = tB W2 e (q / 8) := by
      intro e q he hq hne
      have hB : tB U e (q / 8) = tB W2 e (q / 8) := by unfold tB; rw [z2 e (q / 8) he (by omega)]
      have hblk : U (tB W2 e (q / 8)) = W2 (tB W2 e (q / 8)) := z4 _ (by have := (f7.w.a.pv e (q / 8) he (by omega)).2; omega)
      unfold tN tE
      rw [hB, hblk]; exact ⟨rfl, rfl, rfl⟩
    refine ⟨hZU, fun j hj => ?_, by rw [SU, hf]; omega, ?_, fun e q he hke hq => ?_, fun e q he hke hq => ?_⟩
    · rw [z1 j 0 (by omega), if_neg (by omega)]; exact I2 j 0 hj (by omega)
    · rw [hf, (hNU d (tS T.wd d) hd (by omega) (by rw [← hkk, hBk]; omega)).1]
      exact hnew _ (by omega) (by omega)
    · obtain ⟨b0, b1, b2, b3⟩ := zdir_blk hw.a he hke hq
      obtain ⟨n1, n2, n3⟩ := f5 e q he hke hq
      have hke1 : tI W1 e 0 = 1 := by rw [f4 e 0 he (by omega)]; exact hke
      obtain ⟨o1, o2, o3⟩ := zPs_names f1 f7 hd he hke1 (by rw [S1 e he]; exact hq) (fun hx => by rw [hx.1] at hq; omega)
      have hne2 : tB W2 e (q / 8) ≠ 0 := by rw [o3, n3]; omega
      obtain ⟨r1, r2, r3⟩ := hNU e q he b1 hne2
      refine ⟨?_, by rw [r1, o1, n1], by rw [r2, o2, n2], by rw [r3, o3, n3]⟩
      by_cases hed : e = d
      · rw [hed, SU]; rw [hed] at hq; omega
      · rw [SUo e he hed]; exact hq
    · by_cases hed : e = d
      · rw [hed] at hq ⊢
        rw [SU] at hq
        by_cases hlt : q < tS T.wd d
        · exact Or.inl hlt
        · right
          rw [(hNU d q hd (by omega) (by rw [show q / 8 = k by omega, hBk]; omega)).1]
          exact hnew q (by omega) hq
      · rw [SUo e he hed] at hq; exact Or.inl hq
  · rw [if_neg hf]
    exact ⟨hw, fun _ _ => rfl, by omega, zFpl_lt (by omega), fun e q _ _ hq => ⟨hq, rfl, rfl, rfl⟩, fun e q _ _ hq => Or.inl hq⟩
theorem m_enter (K : px_K) (N : Nat) (hN : 2000 ≤ N) (hK : zKm K) (t : px_W) (s : px_S) (T : ZTs) (h : zRt s T) (hw : ZW T.wd) (d : Nat) (hd : d < 24) (hk : tI T.wd d 0 = 1) (hr : zRoom T.wd d = true) (x y : Int32) : ∃ s', f_M_enter_28 K N (iN d) x y s t = some (.inl none, s', t) ∧ zRt s' (xEnter T d x y) ∧ zFt s s' := by
  apply wp_B
  have hws : zWs s T.wd := h.2.1
  obtain ⟨m, m1, m2, m3, m4⟩ := hw.a.dsz hd hk
  obtain ⟨hs, h320⟩ := m_size K N hK t hws hw.a d hd (Or.inl hk)
  have hle := zFpl_le (W := T.wd) (d := d)
  have h8 : (8 : Int32) = iN 8 := rfl
  have hgr := zgrow_ok hw hd hk hr
  unfold f_M_enter_28 xEnter
  refine wp_bi (m_freePlace K N hN hK t hws hw.a d hd hk) (wp_bi hs ?_)
  by_cases hf : zFpl T.wd d = tS T.wd d
  · refine wp_ifn (fun hx => hx (by rw [hf])) ?_
    have hroom : tS T.wd d / 8 < 20 ∧ zWn T.wd d (tS T.wd d / 8) ≤ zLeft T.wd := by
      unfold zRoom at hr
      rw [decide_eq_false (by omega), Bool.false_or, Bool.and_eq_true, decide_eq_true_eq, decide_eq_true_eq, hf] at hr
      exact ⟨by omega, hr.2⟩
    have ed : iN (zFpl T.wd d) / (8 : Int32) = iN (tS T.wd d / 8) := by rw [hf, h8, iN_div (by omega) (by omega) (by omega)]
    obtain ⟨s1, a1, a2, a3⟩ := m_takeFor K N hN hK t s T h hw d (tS T.wd d / 8) hd hroom.1 (by rw [hk]; decide) hroom.2 (fun _ => by omega)
    rw [← ed] at a1
    refine wp_bi a1 ?_
    have e8 : iN (zFpl T.wd d) + (8 : Int32) = iN (tS T.wd d + 8) := by rw [hf, h8, iN_add]
    rw [e8]
    obtain ⟨s2, b1, b2, b3⟩ := m_tellInode K N hK t s1 _ a2 d 1 (iN (tS T.wd d + 8)) hd (by omega)
    refine wp_bv b1 ?_
    have eg : xGrow T d = xI (xFor T d (tS T.wd d / 8)) d 1 (iN (tS T.wd d + 8)) := by unfold xGrow; rw [if_pos hf]
    rw [← eg] at b2
    refine m_ent K N hN hK t s2 (xGrow T d) b2 hgr.1.a d (zFpl T.wd d) hd (by rw [hgr.2.1 d hd]; exact hk) hgr.2.2.1 x y (fun s' h1 h2 => wp_rB ⟨h1, zFt_trans a3 (zFt_trans b3 h2)⟩)
  · refine wp_if (by rw [iN_eq (by omega) (by omega)]; exact hf) ?_
    have eg : xGrow T d = T := by unfold xGrow; rw [if_neg hf]
    rw [eg] at hgr ⊢
    exact m_ent K N hN hK t s T h hw.a d (zFpl T.wd d) hd hk hgr.2.2.1 x y (fun s' h1 h2 => wp_rB ⟨h1, h2⟩)
theorem m_leave (K : px_K) (N : Nat) (hN : 2000 ≤ N) (hK : zKm K) (t : px_W) (s : px_S) (T : ZTs) (h : zRt s T) (hw : ZWa T.wd) (d p : Nat) (hd : d < 24) (hk : tI T.wd d 0 = 1) (hp : p < tS T.wd d) : ∃ s', f_M_leave_28 K N (iN d) (iN p) s t = some (.inl none, s', t) ∧ zRt s' (xEnt T d p 0 0) ∧ zFt s s' := by
  apply wp_B
  unfold f_M_leave_28
  exact m_ent K N hN hK t s T h hw d p hd hk hp 0 0 (fun s' h1 h2 => wp_rB ⟨h1, h2⟩)
/-! WHAT A CALL MAY CHANGE OF THE TREE -/
theorem wp_v0 {α : Type} {k : Option α} {Q : α → Prop} (h : wp k Q) : wp (px_v0 [] k) Q := h
theorem wp_v1 {α : Type} {a : Int32} {k : Int32 → Option α} {Q : α → Prop} (h : wp (k a) Q) : wp (px_v1 [a] k) Q := h
theorem zfind_congr {α : Type} {f g : α → Bool} : ∀ {l : List α}, (∀ a ∈ l, f a = g a) → l.find? f = l.find? g := by
  intro l
  induction l with
  | nil => intro _; rfl
  | cons a l ih =>
    intro h
    rw [List.find?_cons, List.find?_cons, h a List.mem_cons_self, ih (fun b hb => h b (List.mem_cons_of_mem _ hb))]
/-- only these blocks are told, and they are marked -/
def zStep (L : List Nat) (T U : ZTs) : Prop := U.tv = T.tv ∧ U.kp = T.kp ∧ U.kt = T.kt ∧ U.sq = T.sq ∧ U.jr = T.jr ∧ (∀ b, U.ch b = false → T.ch b = false ∧ U.wd b = T.wd b) ∧ (∀ b, U.ch b = true → T.ch b = true ∨ b ∈ L) ∧ (∀ b ∈ L, 29 ≤ b ∧ b < 106)
theorem zStep_refl (T : ZTs) : zStep [] T T := ⟨rfl, rfl, rfl, rfl, rfl, fun _ h => ⟨h, rfl⟩, fun _ h => Or.inl h, fun _ h => (by cases h)⟩
theorem zStep_trans {L M : List Nat} {T U V : ZTs} (h1 : zStep L T U) (h2 : zStep M U V) : zStep (L ++ M) T V := by
  obtain ⟨a1, a2, a3, a4, a5, a6, a7, a8⟩ := h1
  obtain ⟨b1, b2, b3, b4, b5, b6, b7, b8⟩ := h2
  refine ⟨b1.trans a1, b2.trans a2, b3.trans a3, b4.trans a4, b5.trans a5, fun b hb => ?_, fun b hb => ?_, fun b hb => ?_⟩
  · obtain ⟨c1, c2⟩ := b6 b hb
    obtain ⟨d1, d2⟩ := a6 b c1
    exact ⟨d1, c2.trans d2⟩
  · rcases b7 b hb with h | h
    · rcases a7 b h with h | h
      · exact Or.inl h
      · exact Or.inr (List.mem_append_left _ h)
    · exact Or.inr (List.mem_append_right _ h)
  · rcases List.mem_append.mp hb with h | h
    · exact a8 b h
    · exact b8 b h
theorem zStep_mono {L M : List Nat} {T U : ZTs} (h : zStep L T U) (hs : ∀ b ∈ L, b ∈ M) (hM : ∀ b ∈ M, 29 ≤ b ∧ b < 106) : zStep M T U := by
  obtain ⟨a1, a2, a3, a4, a5, a6, a7, a8⟩ := h
  refine ⟨a1, a2, a3, a4, a5, a6, fun b hb => ?_, hM⟩
  rcases a7 b hb with h | h
  · exact Or.inl h
  · exact Or.inr (hs b h)
theorem zStep_T {T : ZTs} {b w : Nat} {x : Int32} (h1 : 29 ≤ b) (h2 : b < 106) : zStep [b] T (xT T b w x) := by
  refine ⟨rfl, rfl, rfl, rfl, rfl, fun c hc => ?_, fun c hc => ?_, fun c hc => ?_⟩
  · have hc : zu T.ch b true c = false := hc
    by_cases hcb : c = b
    · rw [hcb, zu_self] at hc; cases hc
    · rw [zu_ne _ _ hcb] at hc
      exact ⟨hc, zt_blk hcb⟩
  · have hc : zu T.ch b true c = true := hc
    by_cases hcb : c = b
    · right; rw [hcb]; exact List.mem_singleton.mpr rfl
    · rw [zu_ne _ _ hcb] at hc; exact Or.inl hc
  · have := List.mem_singleton.mp hc
    omega
theorem zStep_I {T : ZTs} {i w : Nat} {x : Int32} (hi : i < 24) : zStep [30 + i / 2] T (xI T i w x) := zStep_T (by omega) (by omega)
theorem zStep_give {T : ZTs} {b : Nat} : zStep [29] T (xGive T b) := zStep_T (by omega) (by omega)
theorem zStep_take {T : ZTs} (hl : 1 ≤ zLeft T.wd) : zStep [29, 42 + zLow T.wd] T (xTake T) := by
  have hlow := (zLow_lt hl).1
  refine ⟨rfl, rfl, rfl, rfl, rfl, fun c hc => ?_, fun c hc => ?_, fun c hc => ?_⟩
  · have hc : zu (zu T.ch 29 true) (42 + zLow T.wd) true c = false := hc
    by_cases h1 : c = 42 + zLow T.wd
    · rw [h1, zu_self] at hc; cases hc
    · rw [zu_ne _ _ h1] at hc
      by_cases h2 : c = 29
      · rw [h2, zu_self] at hc; cases hc
      · rw [zu_ne _ _ h2] at hc
        exact ⟨hc, tTake_out h1 h2⟩
  · have hc : zu (zu T.ch 29 true) (42 + zLow T.wd) true c = true := hc
    by_cases h1 : c = 42 + zLow T.wd
    · right; rw [h1]; exact List.mem_cons_of_mem _ (List.mem_singleton.mpr rfl)
    · rw [zu_ne _ _ h1] at hc
      by_cases h2 : c = 29
      · right; rw [h2]; exact List.mem_cons_self
      · rw [zu_ne _ _ h2] at hc; exact Or.inl hc
  · rcases List.mem_cons.mp hc with h | h
    · omega
    · have := List.mem_singleton.mp h; omega
theorem zCnt_more {f g : Nat → Bool} : ∀ (L : List Nat), (∀ b, g b = true → f b = true ∨ b ∈ L) → (zCl g).length ≤ (zCl f).length + L.length := by
  intro L
  induction L generalizing g with
  | nil =>
    intro h
    unfold zCl
    rw [← List.countP_eq_length_filter, ← List.countP_eq_length_filter]
    refine Nat.le_trans (List.countP_mono_left (fun b _ hb => ?_)) (Nat.le_add_right _ _)
    rcases h b hb with h | h
    · exact h
    · cases h
  | cons c L ih =>
    intro h
    have h1 : (zCl (fun b => g b && !decide (b = c))).length ≤ (zCl f).length + L.length := by
      refine ih (fun b hb => ?_)
      rw [Bool.and_eq_true] at hb
      obtain ⟨h1, h2⟩ := hb
      have hne : b ≠ c := fun hx => by rw [hx] at h2; simp at h2
      rcases h b h1 with h | h
      · exact Or.inl h
      · rcases List.mem_cons.mp h with h | h
        · exact absurd h hne
        · exact Or.inr h
    have h2 : (zCl g).length ≤ (zCl (fun b => g b && !decide (b = c))).length + 1 := by
      unfold zCl
      rw [← List.countP_eq_length_filter, ← List.countP_eq_length_filter]
      have : ∀ (l : List Nat), l.Nodup → List.countP g l ≤ List.countP (fun b => g b && !decide (b = c)) l + (if c ∈ l then 1 else 0) := by
        intro l
        induction l with
        | nil => intro _; exact Nat.zero_le _
        | cons a l ihl =>
          intro hnd
          obtain ⟨n1, n2⟩ := List.nodup_cons.mp hnd
          have := ihl n2
          by_cases hac : a = c
          · have hcl : c ∉ l := by rw [← hac]; exact n1
            rw [if_neg hcl] at this
            rw [if_pos (by rw [hac]; exact List.mem_cons_self)]
            have e1 : List.countP g (a :: l) ≤ List.countP g l + 1 := by rw [List.countP_cons]; split <;> omega
            have e2 : List.countP (fun b => g b && !decide (b = c)) l ≤ List.countP (fun b => g b && !decide (b = c)) (a :: l) := by rw [List.countP_cons]; omega
            omega
          · have hm : (c ∈ a :: l) ↔ c ∈ l := by
              rw [List.mem_cons]
              exact ⟨fun hx => hx.elim (fun hy => absurd hy.symm hac) id, Or.inr⟩
            have e1 : (if c ∈ a :: l then 1 else 0) = (if c ∈ l then 1 else 0) := by
              by_cases hc : c ∈ l
              · rw [if_pos hc, if_pos (hm.mpr hc)]
              · rw [if_neg hc, if_neg (fun hx => hc (hm.mp hx))]
            rw [e1, List.countP_cons, List.countP_cons]
            have e2 : (g a && !decide (a = c)) = g a := by
              rw [decide_eq_false hac, Bool.not_false, Bool.and_true]
            rw [e2]
            omega
      have := this (List.range 106) List.nodup_range
      split at this <;> omega
    rw [List.length_cons]
    omega
/-- a call that tells few blocks keeps the tree in order -/
theorem ZTi.step {W : ZSt → Prop} {L : List Nat} {T U : ZTs} (h : ZTi W T) (hs : zStep L T U) (hw : W U.wd) (h7 : (zCl T.ch).length ≤ 7) (h5 : L.length ≤ 5) : ZTi W U := by
  obtain ⟨a1, a2, a3, a4, a5, a6, a7, a8⟩ := hs
  obtain ⟨i1, i2, i3, i4, i5, i6, i7, i8⟩ := h
  have etc : zTc U = zTc T := by funext b; unfold zTc; rw [a1, a2, a3]
  refine ⟨by rw [a1]; exact i1, by rw [a1, a2, a3, a4, a5]; exact i2, by rw [etc]; exact i3, hw, fun b hb hc => ?_, fun b hb => ?_, ?_, by rw [a1, a4]; exact i8⟩
  · obtain ⟨c1, c2⟩ := a6 b hc
    rw [c2, etc]; exact i5 b hb c1
  · rcases a7 b hb with h | h
    · exact i6 b h
    · exact a8 b h
  · have := zCnt_more L a7
    omega
/-! MAKE (the reference) -/
def zFi (W : ZSt) : Option Nat := (List.range 24).find? fun i => decide (tI W i 0 = 0)
theorem zFi_some {W : ZSt} {i : Nat} (h : zFi W = some i) : i < 24 ∧ tI W i 0 = 0 ∧ ∀ j, j < i → tI W j 0 ≠ 0 := by
  have h2 := List.find?_some h
  refine ⟨List.mem_range.mp (List.mem_of_find?_eq_some h), of_decide_eq_true (show decide (tI W i 0 = 0) = true from h2), fun j hj hx => ?_⟩
  have := zfind_first h j hj
  rw [decide_eq_true hx] at this; cases this
theorem zFi_none {W : ZSt} (h : zFi W = none) : ∀ i, i < 24 → tI W i 0 ≠ 0 := by
  intro i hi hx
  exact List.find?_eq_none.mp h i (List.mem_range.mpr hi) (decide_eq_true hx)
theorem zFi_eq {W : ZSt} {i : Nat} (hi : i < 24) (h0 : tI W i 0 = 0) (hn : ∀ j, j < i → tI W j 0 ≠ 0) : zFi W = some i := by
  cases hz : zFi W with
  | none => exact absurd h0 (zFi_none hz i hi)
  | some j =>
    obtain ⟨j1, j2, j3⟩ := zFi_some hz
    rcases Nat.lt_trichotomy i j with h | h | h
    · exact absurd h0 (j3 i h)
    · rw [h]
    · exact absurd j2 (hn j h)
theorem m_make_loop (K : px_K) (N : Nat) (hK : zKm K) (t : px_W) {s : px_S} {W : ZSt} (h : zWs s W) (u1 u2 u3 : Int32) : ∀ (d i n : Nat), i + d = 24 → d < n → (∀ j, j < i → tI W j 0 ≠ 0) → l_M_make_28_27 K N n u1 u2 u3 (iN i) s t = some (.inl (37, [iN ((zFi W).getD 24)], s, t)) := by
  intro d
  induction d with
  | zero =>
    intro i n hi hn hno
    obtain ⟨n, rfl⟩ : ∃ n', n = n' + 1 := ⟨n - 1, by omega⟩
    have hi : i = 24 := by omega
    subst hi
    have e : zFi W = none := by
      cases hz : zFi W with
      | none => rfl
      | some j => obtain ⟨j1, j2, _⟩ := zFi_some hz; exact absurd j2 (hno j j1)
    rw [e]
    unfold l_M_make_28_27
    rw [if_pos (by decide)]; rfl
  | succ d ih =>
    intro i n hi hn hno
    obtain ⟨n, rfl⟩ : ∃ n', n = n' + 1 := ⟨n - 1, by omega⟩
    have e3 : iN i + (1 : Int32) = iN (i + 1) := by rw [iL1, iN_add]
    have h24 : ¬ (24 : Int32) ≤ iN i := by
      have : (24 : Int32) = iN 24 := rfl
      rw [this, iN_le (by omega) (by omega)]; omega
    obtain ⟨r, e1, e2⟩ : wp (l_M_make_28_27 K N (n + 1) u1 u2 u3 (iN i) s t) (fun r => r = .inl (37, [iN ((zFi W).getD 24)], s, t)) := by
      unfold l_M_make_28_27
      refine wp_ifn h24 (wp_bi (m_ofInode K N hK t h i 0 (by omega) (by omega)) ?_)
      by_cases h0 : tI W i 0 = 0
      · rw [zFi_eq (by omega) h0 hno]
        exact wp_if h0 (wp_some rfl)
      · refine wp_ifn h0 ?_
        rw [e3]
        exact ⟨_, ih (i + 1) n (by omega) (by omega) (fun j hj => by
          by_cases hji : j = i
          · rw [hji]; exact h0
          · exact hno j (by omega)), rfl⟩
    rw [e1, e2]
def xMake (T : ZTs) (d x k : Int32) : Int32 × ZTs := if zKb T.wd d 1 = true ∧ 1 ≤ x then (match zPl T.wd (n32 d) x with
  | some _ => (-2, T)
  | none => match zFi T.wd with
    | none => (-3, T)
    | some i => if zRoom T.wd (n32 d) = true then (iN i, xEnter (xI T i 0 k) (n32 d) x (iN i)) else (-3, T)) else (-4, T)
/-- an inode's kind is told: what stays -/
theorem zkind_keep {W : ZSt} (hw : ZW W) {i d : Nat} {k : Int32} (hi : i < 24) (hd : d < 24) (h0 : tI W i 0 = 0) (hkd : tI W d 0 = 1) (hk : k = 1 ∨ k = 2) : ZW (zt W (30 + i / 2) (8 * (i % 2) + 0) k) ∧ tS (zt W (30 + i / 2) (8 * (i % 2) + 0) k) d = tS W d ∧ zFpl (zt W (30 + i / 2) (8 * (i % 2) + 0) k) d = zFpl W d ∧ zRoom (zt W (30 + i / 2) (8 * (i % 2) + 0) k) d = zRoom W d ∧ tI (zt W (30 + i / 2) (8 * (i % 2) + 0) k) d 0 = 1 ∧ tI (zt W (30 + i / 2) (8 * (i % 2) + 0) k) i 0 = k ∧ (∀ e q j, zEnt (zt W (30 + i / 2) (8 * (i % 2) + 0) k) e q j ↔ zEnt W e q j) ∧ (∀ q, q < tS W d → tN (zt W (30 + i / 2) (8 * (i % 2) + 0) k) d q = tN W d q) := by
  obtain ⟨z1, z2, z3, z4⟩ := zin_w hw.a (i := i) (w := 0) (x := k) hi (by omega)
  have z2 := z2 (by omega)
  have hne : d ≠ i := fun hx => by rw [hx, h0] at hkd; exact absurd hkd (by decide)
  obtain ⟨U, hU⟩ : ∃ U, U = zt W (30 + i / 2) (8 * (i % 2) + 0) k := ⟨_, rfl⟩
  rw [← hU] at z1 z2 z3 z4 ⊢
  have hB : ∀ j l, j < 24 → l ≤ 20 → tB U j l = tB W j l := fun j l hj hl => by unfold tB; rw [z2 j l hj hl]
  have hblk : ∀ j l, j < 24 → l ≤ 20 → tB W j l ≠ 0 → U (tB W j l) = W (tB W j l) := fun j l hj hl hx => z4 _ (by have := (hw.a.pv j l hj hl).2; omega)
  have hw' : ZW U := hw.setKind hi hk h0 (fun j w hj hw8 hx => by rw [z1 j w hw8, if_neg hx]) (by rw [z1 i 0 (by omega), if_pos ⟨rfl, rfl⟩]) z2 z3 (fun j l hj hl hx => hblk j l hj (by omega) hx)
  have hS : ∀ e, e < 24 → tS U e = tS W e := fun e he => tS_of (by rw [z1 e 1 (by omega), if_neg (by omega)])
  have hNE : ∀ e q, e < 24 → tI W e 0 = 1 → q < tS W e → tN U e q = tN W e q ∧ tE U e q = tE W e q := by
    intro e q he hke hq
    obtain ⟨b0, b1, b2, b3⟩ := zdir_blk hw.a he hke hq
    unfold tN tE
    rw [hB e (q / 8) he (by omega), hblk e (q / 8) he (by omega) (by omega)]; exact ⟨rfl, rfl⟩
  have hPl : ∀ x, zPl U d x = zPl W d x := by
    intro x
    unfold zPl
    rw [hS d hd]
    refine zfind_congr (fun p hp => ?_)
    rw [(hNE d p hd hkd (List.mem_range.mp hp)).1]
  have hFp : zFpl U d = zFpl W d := by unfold zFpl; rw [hPl, hS d hd]
  have hF : tF U d = tF W d := by rw [tF_eq, tF_eq, hB d 20 hd (by omega)]
  have hL : zLeft U = zLeft W := by
    unfold zLeft; congr 1
    exact List.filter_congr (fun q _ => by rw [z3 q])
  refine ⟨hw', hS d hd, hFp, ?_, by rw [z1 d 0 (by omega), if_neg (fun hx => hne hx.1)]; exact hkd, by rw [z1 i 0 (by omega), if_pos ⟨rfl, rfl⟩], fun e q j => ?_, fun q hq => (hNE d q hd hkd hq).1⟩
  · unfold zRoom zWn; rw [hFp, hS d hd, hF, hL]
  · by_cases hei : e = i
    · rw [hei]
      have hsz : tS W i = 0 := by unfold tS; rw [hw.a.fr i hi h0 1 (by omega)]; rfl
      constructor
      · rintro ⟨_, _, c, _⟩
        rw [hS i hi, hsz] at c; omega
      · rintro ⟨_, _, c, _⟩
        rw [hsz] at c; omega
    · have hk' : e < 24 → tI U e 0 = tI W e 0 := fun he => by rw [z1 e 0 (by omega), if_neg (fun hx => hei hx.1)]
      exact zEnt_congr hk' (fun he _ => by rw [z1 e 1 (by omega), if_neg (by omega)]) (fun he hke hq => hNE e q he hke hq)
theorem m_make {W : ZSt → Prop} (K : px_K) (N : Nat) (hN : 2000 ≤ N) (hK : zKm K) (t : px_W) (s3 : px_S) (T : ZTs) (h : zRt s3 T) (hw : ZW T.wd) (d x a2 k : Int32) (hk : k = (if a2 = 0 then 2 else 1)) {g1 : Nat → px_S → px_W → Option px_Res} : ∃ s', wp (px_bi (f_M_isKind_28 K N d (1 : Int32) s3 t) (fun v12 s9 t10 => (if v12 = 0 then (some (.inl (some (.int (-4 : Int32))), s9, t10)) else (if (1 : Int32) ≤ x then (px_bi (f_M_placeOf_28 K N d x s9 t10) (fun v19 s16 t17 => (if v19 < 0 then (px_lp (l_M_make_28_27 K N N d x a2 (0 : Int32) s16 t17) (fun i22 vs23 s24 t25 => (if i22 = 37 then (px_v1 vs23 (fun y28 => (if y28 = (24 : Int32) then (some (.inl (some (.int (-3 : Int32))), s24, t25)) else (px_bi (f_M_hasRoom_28 K N d s24 t25) (fun v34 s31 t32 => (if ¬ v34 = 0 then (px_bv (f_M_tellInode_28 K N y28 (0 : Int32) (if a2 = 0 then (2 : Int32) else (1 : Int32)) s31 t32) (fun s37 t38 => (px_bv (f_M_enter_28 K N d x y28 s37 t38) (fun s42 t43 => (some (.inl (some (.int y28)), s42, t43))) (fun x46 s42 t43 => none))) (fun x41 s37 t38 => none)) else (some (.inl (some (.int (-3 : Int32))), s31, t32)))) (fun x35 s31 t32 => none))))) else none)) (fun z27 => some z27)) else (some (.inl (some (.int (-2 : Int32))), s16, t17)))) (fun x20 s16 t17 => none)) else (some (.inl (some (.int (-4 : Int32))), s9, t10))))) g1) (fun r => r = (.inl (some (.int (xMake T d x k).1)), s', t)) ∧ zRt s' (xMake T d x k).2 ∧ zFt s3 s' := by
  have hws : zWs s3 T.wd := h.2.1
  have same : ∀ (a : Int32) (F : Option px_Res), wp F (fun r => r = (.inl (some (.int a)), s3, t)) → xMake T d x k = (a, T) → ∃ s', wp F (fun r => r = (.inl (some (.int (xMake T d x k).1)), s', t)) ∧ zRt s' (xMake T d x k).2 ∧ zFt s3 s' := by
    intro a F hF he
    rw [he]; exact ⟨s3, hF, h, zFt_refl s3⟩
  have hkind := m_kind K N hK t hws d 1
  cases hkb : zKb T.wd d 1 with
  | false =>
    rw [hkb] at hkind
    exact same (-4) _ (wp_bi hkind (wp_if rfl (wp_some rfl))) (if_neg (fun hx => by rw [hkb] at hx; cases hx.1))
  | true =>
    rw [hkb] at hkind
    obtain ⟨k1, k2, k3⟩ := zKd_of hkb
    by_cases hx1 : 1 ≤ x
    · have hxm : xMake T d x k = (match zPl T.wd (n32 d) x with
        | some _ => (-2, T)
        | none => match zFi T.wd with
          | none => (-3, T)
          | some i => if zRoom T.wd (n32 d) = true then (iN i, xEnter (xI T i 0 k) (n32 d) x (iN i)) else (-3, T)) := if_pos ⟨hkb, hx1⟩
      have hpl := m_placeOf K N hN hK t hws hw.a hw.b (n32 d) k2 k3 x
      rw [← k1, if_pos hx1] at hpl
      obtain ⟨m, m1, m2, _, _⟩ := hw.a.dsz k2 k3
      cases hz : zPl T.wd (n32 d) x with
      | some p =>
        rw [hz] at hpl hxm
        obtain ⟨p1, _⟩ := zPl_some hz
        exact same (-2) _ (wp_bi hkind (wp_ifn (by decide) (wp_if hx1 (wp_bi hpl (wp_ifn (by show ¬ iN p < 0; exact iN_neg (by omega)) (wp_some rfl)))))) hxm
      | none =>
        rw [hz] at hpl hxm
        dsimp only at hxm
        have hlp := m_make_loop K N hK t hws d x a2 24 0 N (by omega) (by omega) (fun j hj => by omega)
        cases hfi : zFi T.wd with
        | none =>
          rw [hfi] at hlp hxm
          exact same (-3) _ (wp_bi hkind (wp_ifn (by decide) (wp_if hx1 (wp_bi hpl (wp_if (by decide) (wp_lp hlp (wp_if rfl (wp_v1 (wp_if rfl (wp_some rfl)))))))))) hxm
        | some i =>
          rw [hfi] at hlp hxm
          dsimp only at hxm
          obtain ⟨i1, i2, i3⟩ := zFi_some hfi
          have h24 : ¬ iN i = (24 : Int32) := by
            have : (24 : Int32) = iN 24 := rfl
            rw [this, iN_eq (by omega) (by omega)]; omega
          have hroom := m_hasRoom K N hN hK t hws hw.a (n32 d) k2 k3
          rw [← k1] at hroom
          cases hrm : zRoom T.wd (n32 d) with
          | false =>
            rw [hrm] at hroom
            rw [if_neg (by rw [hrm]; exact Bool.noConfusion)] at hxm
            exact same (-3) _ (wp_bi hkind (wp_ifn (by decide) (wp_if hx1 (wp_bi hpl (wp_if (by decide) (wp_lp hlp (wp_if rfl (wp_v1 (wp_ifn h24 (wp_bi hroom (wp_ifn (fun hx => hx rfl) (wp_some rfl)))))))))))) hxm
          | true =>
            rw [hrm] at hroom
            rw [if_pos hrm] at hxm
            rw [hxm]
            have hkk : k = 1 ∨ k = 2 := by rw [hk]; split <;> simp
            obtain ⟨c1, c2, c3, c4, c5, c6, c7, c8⟩ := zkind_keep hw (i := i) (d := n32 d) (k := k) i1 k2 i2 k3 hkk
            obtain ⟨s1, a1, a2', a3⟩ := m_tellInode K N hK t s3 T h i 0 k i1 (by omega)
            obtain ⟨s2, b1, b2, b3⟩ := m_enter K N hN hK t s1 (xI T i 0 k) a2' c1 (n32 d) k2 c5 (c4.trans hrm) x (iN i)
            rw [← k1] at b1
            rw [hk] at a1
            exact ⟨s2, wp_bi hkind (wp_ifn (by decide) (wp_if hx1 (wp_bi hpl (wp_if (by decide) (wp_lp hlp (wp_if rfl (wp_v1 (wp_ifn h24 (wp_bi hroom (wp_if (by decide) (wp_bv a1 (wp_bv b1 (wp_some rfl))))))))))))), b2, zFt_trans a3 b3⟩
    · exact same (-4) _ (wp_bi hkind (wp_ifn (by decide) (wp_ifn hx1 (wp_some rfl)))) (if_neg (fun hx => hx1 hx.2))
theorem zfor_step {T : ZTs} (hw : ZW T.wd) {i k : Nat} (hi : i < 24) (hk : k < 20) (hk0 : tI T.wd i 0 ≠ 0) (hl : zWn T.wd i k ≤ zLeft T.wd) (hD : tI T.wd i 0 = 1 → tS T.wd i ≤ 8 * k) : ∃ f, zStep [29, f, 42 + zLow (xFor1 T i k).wd, 30 + i / 2] T (xFor T i k) := by
  obtain ⟨f1, f2, f3, f4, f5, f6, f7⟩ := zfor_ok hw hi hk hk0 hl hD
  have hlow := (zLow_lt f2).1
  have hI : ∀ b ∈ [30 + i / 2], 29 ≤ b ∧ b < 106 := fun b hb => by have := List.mem_singleton.mp hb; omega
  -- the second step
  have s2 : ∃ f, (f = 29 ∨ f = tF (xFor1 T i k).wd i) ∧ 29 ≤ f ∧ f < 106 ∧ zStep [29, f, 42 + zLow (xFor1 T i k).wd, 30 + i / 2] (xFor1 T i k) (xFor T i k) := by
    have st := zStep_take (T := xFor1 T i k) f2
    obtain ⟨U, hU⟩ : ∃ U, U = xFor1 T i k := ⟨_, rfl⟩
    have e : xFor T i k = xFor2 U i k := by unfold xFor; rw [hU]
    rw [e]
    rw [← hU] at f1 f2 f3 hlow st ⊢
    have hFt : tF (xTake U).wd i = tF U.wd i := by
      show n32 (tI (tTake U.wd (zLow U.wd)) i 6) = n32 (tI U.wd i 6)
      rw [(f1.take (zLow_lt f2).2).2.1 i 6 hi]
    by_cases hk4 : k < 4
    · have e2 : xFor2 U i k = xI (xTake U) i (2 + k) (iN (42 + zLow U.wd)) := by unfold xFor2; rw [if_pos hk4]
      rw [e2]
      refine ⟨29, Or.inl rfl, by omega, by omega, zStep_mono (zStep_trans st (zStep_I hi)) (fun b hb => ?_) (fun b hb => ?_)⟩
      · simp only [List.mem_append, List.mem_cons, List.not_mem_nil, or_false] at hb ⊢; omega
      · simp only [List.mem_cons, List.not_mem_nil, or_false] at hb; omega
    · have e2 : xFor2 U i k = xT (xTake U) (tF U.wd i) (k - 4) (iN (42 + zLow U.wd)) := by unfold xFor2; rw [if_neg hk4, hFt]
      rw [e2]
      have hF := f3 (by omega)
      have hr := (f1.a.pv i 20 hi (by omega)).2
      rw [← tF_eq] at hr
      refine ⟨tF U.wd i, Or.inr rfl, by omega, by omega, zStep_mono (zStep_trans st (zStep_T (by omega) (by omega))) (fun b hb => ?_) (fun b hb => ?_)⟩
      · simp only [List.mem_append, List.mem_cons, List.not_mem_nil, or_false] at hb ⊢; omega
      · simp only [List.mem_cons, List.not_mem_nil, or_false] at hb; omega
  obtain ⟨f, hf, hf1, hf2, s2⟩ := s2
  by_cases hc : 4 ≤ k ∧ tF T.wd i = 0
  · have h2 : zWn T.wd i k = 2 := by unfold zWn; rw [if_pos hc]
    have hl1 : 1 ≤ zLeft T.wd := by omega
    have hlow1 := (zLow_lt hl1).1
    have e1 : xFor1 T i k = xI (xTake T) i 6 (iN (42 + zLow T.wd)) := by unfold xFor1; rw [if_pos hc]
    have st1 : zStep [29, 42 + zLow T.wd, 30 + i / 2] T (xFor1 T i k) := by
      rw [e1]
      exact zStep_mono (zStep_trans (zStep_take hl1) (zStep_I hi)) (fun b hb => by simp only [List.mem_append, List.mem_cons, List.not_mem_nil, or_false] at hb ⊢; omega) (fun b hb => by simp only [List.mem_cons, List.not_mem_nil, or_false] at hb; omega)
    have hF : tF (xFor1 T i k).wd i = 42 + zLow T.wd := by
      obtain ⟨hp, _⟩ := zfor_1 hw hi hk hk0 hl hD hc
      rw [xFor1_wd, if_pos hc, tF_eq]; unfold tB; rw [hp.n, n32_iN (by omega)]
    refine ⟨42 + zLow T.wd, zStep_mono (zStep_trans st1 s2) (fun b hb => ?_) (fun b hb => ?_)⟩
    · simp only [List.mem_append, List.mem_cons, List.not_mem_nil, or_false] at hb ⊢; omega
    · simp only [List.mem_cons, List.not_mem_nil, or_false] at hb; omega
  · have e1 : xFor1 T i k = T := by unfold xFor1; rw [if_neg hc]
    have s3 : zStep [29, f, 42 + zLow (xFor1 T i k).wd, 30 + i / 2] (xFor1 T i k) (xFor T i k) := s2
    refine ⟨f, ?_⟩
    rw [e1] at s3 ⊢
    exact s3
theorem zent_step {T : ZTs} {d p : Nat} {x y : Int32} (h1 : 29 ≤ tB T.wd d (p / 8)) (h2 : tB T.wd d (p / 8) < 106) : zStep [tB T.wd d (p / 8)] T (xEnt T d p x y) :=
  zStep_mono (zStep_trans (zStep_T h1 h2) (zStep_T (b := tB T.wd d (p / 8)) h1 h2)) (fun b hb => by simp only [List.mem_append, List.mem_cons, List.not_mem_nil, or_false, or_self] at hb ⊢; exact hb) (fun b hb => by have := List.mem_singleton.mp hb; omega)
theorem zenter_step {T : ZTs} (hw : ZW T.wd) {d : Nat} (hd : d < 24) (hk : tI T.wd d 0 = 1) (hr : zRoom T.wd d = true) (x y : Int32) : ∃ L : List Nat, L.length ≤ 4 ∧ zStep L T (xEnter T d x y) := by
  obtain ⟨m, m1, m2, m3, m4⟩ := hw.a.dsz hd hk
  have hle := zFpl_le (W := T.wd) (d := d)
  have hgr := zgrow_ok hw hd hk hr
  obtain ⟨b0, b1, b2, b3⟩ := zdir_blk hgr.1.a hd (by rw [hgr.2.1 d hd]; exact hk) hgr.2.2.1
  have hent := zent_step (T := xGrow T d) (d := d) (p := zFpl T.wd d) (x := x) (y := y) (by omega) b3
  unfold xEnter
  by_cases hf : zFpl T.wd d = tS T.wd d
  · have hroom : tS T.wd d / 8 < 20 ∧ zWn T.wd d (tS T.wd d / 8) ≤ zLeft T.wd := by
      unfold zRoom at hr
      rw [decide_eq_false (by omega), Bool.false_or, Bool.and_eq_true, decide_eq_true_eq, decide_eq_true_eq, hf] at hr
      exact ⟨by omega, hr.2⟩
    have hk0 : tI T.wd d 0 ≠ 0 := by rw [hk]; decide
    obtain ⟨f, st⟩ := zfor_step hw hd hroom.1 hk0 hroom.2 (fun _ => by omega)
    obtain ⟨f1, f2, f3, f4, f5, f6, f7⟩ := zfor_ok hw hd hroom.1 hk0 hroom.2 (fun _ => by omega)
    have hlow := (zLow_lt f2).1
    have eg : xGrow T d = xI (xFor T d (tS T.wd d / 8)) d 1 (iN (tS T.wd d + 8)) := by unfold xGrow; rw [if_pos hf]
    have hblk : tB (xGrow T d).wd d (zFpl T.wd d / 8) = 42 + zLow (xFor1 T d (tS T.wd d / 8)).wd := by
      rw [eg, hf]
      show tB (zt (xFor T d (tS T.wd d / 8)).wd (30 + d / 2) (8 * (d % 2) + 1) (iN (tS T.wd d + 8))) d (tS T.wd d / 8) = _
      have z := (zin_w f7.w.a (i := d) (w := 1) (x := iN (tS T.wd d + 8)) hd (by omega)).2.1 (by omega)
      unfold tB
      rw [z d (tS T.wd d / 8) hd (by omega), f7.n, n32_iN (by omega)]
    have hb8 := st.2.2.2.2.2.2.2
    refine ⟨[29, f, 42 + zLow (xFor1 T d (tS T.wd d / 8)).wd, 30 + d / 2], Nat.le_refl _, ?_⟩
    have st2 : zStep ([29, f, 42 + zLow (xFor1 T d (tS T.wd d / 8)).wd, 30 + d / 2] ++ [30 + d / 2]) T (xGrow T d) := by
      rw [eg]; exact zStep_trans st (zStep_I hd)
    refine zStep_mono (zStep_trans st2 hent) (fun b hb => ?_) hb8
    rw [hblk] at hb
    simp only [List.mem_append, List.mem_cons, List.not_mem_nil, or_false] at hb ⊢
    omega
  · have eg : xGrow T d = T := by unfold xGrow; rw [if_neg hf]
    rw [eg] at hent ⊢
    exact ⟨[tB T.wd d (zFpl T.wd d / 8)], by show 1 ≤ 4; omega, hent⟩
/-- where a new name goes, the tree stays in order -/
theorem zenter_w {T : ZTs} (hw : ZW T.wd) {d i : Nat} (hd : d < 24) (hk : tI T.wd d 0 = 1) (hr : zRoom T.wd d = true) {x : Int32} (hx : 1 ≤ x) (hnew : zPl T.wd d x = none) (hi1 : 1 ≤ i) (hi : i < 24) (hki : tI T.wd i 0 ≠ 0) (hno : ∀ e q, ¬ zEnt T.wd e q i) (hrk : ∃ r : Nat → Nat, (∀ e q j, zEnt T.wd e q j → j < 24 → r e < r j) ∧ r d < r i) : ZW (xEnter T d x (iN i)).wd := by
  have hgr := zgrow_ok hw hd hk hr
  obtain ⟨g1, g2, g3, g4, g5, g6⟩ := hgr
  have hkd : tI (xGrow T d).wd d 0 = 1 := by rw [g2 d hd]; exact hk
  have hxp : 0 < n32 x := by
    have : iN 0 < x := Int32.lt_of_lt_of_le (by decide) hx
    rw [n32_lt' (by omega)] at this
    exact this
  refine g1.setEntry hd hkd g3 rfl hxp g4 (fun q hq => ?_) hi1 hi (by rw [g2 i hi]; exact hki) (fun e q hx' => hno e q ((zGr_ent ⟨g1, g2, g3, g4, g5, g6⟩ e q i).mp hx')) ?_
  · rcases g6 d q hd hk hq with hq | hq
    · rw [(g5 d q hd hk hq).2.1]; exact zPl_none hnew q hq
    · rw [hq]; intro h0; rw [← h0] at hx; exact absurd hx (by decide)
  · obtain ⟨r, r1, r2⟩ := hrk
    exact ⟨r, fun e q j hx' hj => r1 e q j ((zGr_ent ⟨g1, g2, g3, g4, g5, g6⟩ e q j).mp hx') hj, r2⟩
theorem zmake_ok {T : ZTs} (hw : ZW T.wd) (d x k : Int32) (hk : k = 1 ∨ k = 2) : ZW (xMake T d x k).2.wd ∧ ∃ L : List Nat, L.length ≤ 5 ∧ zStep L T (xMake T d x k).2 := by
  have same : ∀ a, xMake T d x k = (a, T) → ZW (xMake T d x k).2.wd ∧ ∃ L : List Nat, L.length ≤ 5 ∧ zStep L T (xMake T d x k).2 := by
    intro a he; rw [he]; exact ⟨hw, [], Nat.zero_le _, zStep_refl T⟩
  by_cases hc : zKb T.wd d 1 = true ∧ 1 ≤ x
  · have hxm : xMake T d x k = (match zPl T.wd (n32 d) x with
      | some _ => (-2, T)
      | none => match zFi T.wd with
        | none => (-3, T)
        | some i => if zRoom T.wd (n32 d) = true then (iN i, xEnter (xI T i 0 k) (n32 d) x (iN i)) else (-3, T)) := if_pos hc
    obtain ⟨k1, k2, k3⟩ := zKd_of hc.1
    cases hz : zPl T.wd (n32 d) x with
    | some p => rw [hz] at hxm; exact same _ hxm
    | none =>
      rw [hz] at hxm
      dsimp only at hxm
      cases hfi : zFi T.wd with
      | none => rw [hfi] at hxm; exact same _ hxm
      | some i =>
        rw [hfi] at hxm
        dsimp only at hxm
        by_cases hrm : zRoom T.wd (n32 d) = true
        · rw [if_pos hrm] at hxm
          obtain ⟨i1, i2, i3⟩ := zFi_some hfi
          obtain ⟨c1, c2, c3, c4, c5, c6, c7, c8⟩ := zkind_keep hw (i := i) (d := n32 d) (k := k) i1 k2 i2 k3 hk
          have hi1 : 1 ≤ i := by
            rcases Nat.eq_zero_or_pos i with h | h
            · rw [h] at i2; rw [hw.a.rt] at i2; exact absurd i2 (by decide)
            · exact h
          rw [hxm]
          have hno : ∀ e q, ¬ zEnt T.wd e q i := by
            rintro e q ⟨a, b, c, f, g⟩
            obtain ⟨_, j, j1, j2, j3, j4⟩ := hw.b.en e q a b c f
            rw [g] at j1
            have := iN_inj (by omega) (by omega) j1
            rw [← this] at j4; exact j4 i2
          have hsz : tS T.wd i = 0 := by unfold tS; rw [hw.a.fr i i1 i2 1 (by omega)]; rfl
          refine ⟨zenter_w (T := xI T i 0 k) c1 k2 c5 (c4.trans hrm) hc.2 ?_ hi1 i1 (by show tI (zt T.wd (30 + i / 2) (8 * (i % 2) + 0) k) i 0 ≠ 0; rw [c6]; rcases hk with h | h <;> rw [h] <;> decide) (fun e q hx => hno e q ((c7 e q i).mp hx)) ?_, ?_⟩
          · -- the name is new there too
            cases hz2 : zPl (xI T i 0 k).wd (n32 d) x with
            | none => rfl
            | some q =>
              obtain ⟨q1, q2⟩ := zPl_some hz2
              have q1 : q < tS T.wd (n32 d) := by rw [← c2]; exact q1
              have q2 : tN T.wd (n32 d) q = x := by rw [← c8 q q1]; exact q2
              exact absurd q2 (zPl_none hz q q1)
          · obtain ⟨r, hr⟩ := hw.b.er
            refine ⟨fun j => if j = i then r (n32 d) + 1 else r j, fun e q j hx hj => ?_, ?_⟩
            · have hx := (c7 e q j).mp hx
              have hei : e ≠ i := fun he => by have := hx.2.2.1; rw [he, hsz] at this; omega
              have hji : j ≠ i := fun he => hno e q (by rw [← he]; exact hx)
              show (if e = i then r (n32 d) + 1 else r e) < (if j = i then r (n32 d) + 1 else r j)
              rw [if_neg hei, if_neg hji]; exact hr e q j hx hj
            · have hdi : n32 d ≠ i := fun he => by rw [he, i2] at k3; exact absurd k3 (by decide)
              show (if n32 d = i then r (n32 d) + 1 else r (n32 d)) < (if i = i then r (n32 d) + 1 else r i)
              rw [if_neg hdi, if_pos rfl]; omega
          · obtain ⟨L, l1, l2⟩ := zenter_step (T := xI T i 0 k) c1 k2 c5 (c4.trans hrm) x (iN i)
            exact ⟨[30 + i / 2] ++ L, by rw [List.length_append]; show 1 + L.length ≤ 5; omega, zStep_trans (zStep_I i1) l2⟩
        · rw [if_neg hrm] at hxm; exact same _ hxm
  · exact same _ (if_neg hc)
