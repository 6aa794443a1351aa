/-! MOUNTING -/
theorem ZHead.id_eq {sd : ZSt} {id L : Nat} (h : ZHead sd id L) (hb : id < 2147483648) : n32 (sd 0 0) = id := by rw [h.hid]; exact n32_iN hb
theorem ZHead.L_eq {sd : ZSt} {id L : Nat} (h : ZHead sd id L) (hb : L < 2147483648) : n32 (sd 1 1) = L := by rw [h.hL]; exact n32_iN hb
/-- what a mount can begin with, of a disc with another head -/
theorem zOK_re {P : Nat → ZSt → Prop} {sets ways eps m : Nat} {sd sd' sf : ZSt} (h : zOK P sets ways eps m sd sf) (h0 : sd' 0 0 = sd 0 0) (h1 : sd' 1 1 = sd 1 1) (hz : zDisc sd' = zDisc sd) (hh : sd' 1 0 = 1 → n32 (sd' 1 2) ≤ 16 ∧ ∀ j, j < n32 (sd' 1 2) → ∃ b, sd' 2 j = iN b ∧ b < 106) : zOK P sets ways eps m sd' sf := by
  obtain ⟨id, L, q1, q2, q3, q4, q5⟩ := h
  refine ⟨id, L, ⟨by rw [h0]; exact q1.hid, q1.hid1, by rw [h1]; exact q1.hL, hh⟩, q2, q3, by rw [hz]; exact q4, ?_⟩
  rcases q5 with q5 | q5 | ⟨opn, H, g, sb, se, r1, r2, r3, r4⟩
  · exact Or.inl q5
  · exact Or.inr (Or.inl q5)
  · exact Or.inr (Or.inr ⟨opn, H, g, sb, se, r1, r2, r3, r4.congr (fun _ q => q) (Nat.le_refl _) (Nat.le_refl _) hz (fun _ _ => rfl) (fun _ _ _ _ => ⟨rfl, rfl, rfl⟩) (fun _ _ _ _ => rfl)⟩)
section
theorem ZPh.redo {P : Nat → ZSt → Prop} (hP : ∀ m m' V, m ≤ m' → P m V → P m' V) {m : Nat} {Q : Nat → ZSt → Prop} {d : ZSt} : ∀ (k j : Nat) (v : ZVs), ZPh P m Q v → (∀ b, b < 19 → v.dn b = d b) → j + k ≤ 16 → (∀ i, i < j + k → ∀ s, Q 0 s → Q 0 (zu s (19 + n32 (d 2 i)) (d (3 + i)))) → ZOk P (fun u => ZPh P m Q u ∧ ZKeep v u ∧ (∀ b, b < 19 → u.dn b = d b) ∧ zHome u.dn = zov (zHome v.dn) ((List.range' j k).map fun i => (n32 (d 2 i), d (3 + i))) ∧ u.p.dv 1 = v.p.dv 1 ∧ v.p.na ≤ u.p.na) (ZVs.wrRedo k j v) := by
  intro k
  induction k with
  | zero => intro j v h hd _ _; exact Or.inl ⟨h.up, h, ZKeep.refl v, hd, rfl, rfl, Nat.le_refl _⟩
  | succ k ih =>
    intro j v h hd hj hq
    unfold ZVs.wrRedo
    have e1 : v.dn 2 = d 2 := hd 2 (by omega)
    have e2 : v.dn (3 + j) = d (3 + j) := hd (3 + j) (by omega)
    rw [e1, e2]
    refine (h.wr0 hP (hq j (by omega))).bind (f := ZVs.wrRedo k (j + 1)) (zfr_wrRedo k (j + 1) _).1 (fun _ q => ?_)
    generalize v.wr 0 (19 + n32 (d 2 j)) (d (3 + j)) = u at *
    obtain ⟨q1, q2, q3, q4, q5⟩ := q
    refine (ih (j + 1) u q1 (fun b hb => by rw [q3, zu_ne _ _ (by omega)]; exact hd b hb) (by omega) (fun i hi s hs => hq i (by omega) s hs)).imp (fun _ r => ?_)
    obtain ⟨r1, r2, r3, r4, r5, r6⟩ := r
    refine ⟨r1, q2.trans r2, r3, ?_, r5.trans q4, by omega⟩
    have hh : zHome u.dn = zu (zHome v.dn) (n32 (d 2 j)) (d (3 + j)) := by
      funext b
      show u.dn (19 + b) = _
      rw [q3]
      by_cases hb : b = n32 (d 2 j)
      · rw [hb, zu_self, zu_self]
      · rw [zu_ne _ _ hb, zu_ne _ _ (by omega)]; rfl
    rw [r4, hh, List.range'_succ]
    rfl
/-- what the power cut off of a landing is done again -/
theorem zredo {P : Nat → ZSt → Prop} (hP : ∀ m m' V, m ≤ m' → P m V → P m' V) {v : ZVs} (up : v.p.up = true) (sz : ZSz v.sets v.ways v.eps) (p0 : (v.p.dv 0).pd = []) (p1 : (v.p.dv 1).pd = []) (ok : zOK P v.sets v.ways v.eps (v.p.na + 1) v.dn v.fn) (hb : v.p.na + 1 < 2147483648) :
    ZOk P (fun u => ZKeep v u ∧ (u.p.dv 0).pd = [] ∧ u.p.dv 1 = v.p.dv 1 ∧ zOK P u.sets u.ways u.eps (u.p.na + 1) u.dn u.fn ∧ u.dn 1 0 ≠ 1 ∧ u.dn 0 0 = v.dn 0 0 ∧ u.dn 1 1 = v.dn 1 1 ∧ v.p.na ≤ u.p.na) v.redo := by
  unfold ZVs.redo
  split
  · rename_i h1
    exact Or.inl ⟨up, ZKeep.refl v, p0, rfl, ok, h1, rfl, rfl, Nat.le_refl _⟩
  · rename_i h1
    have h1 : v.dn 1 0 = 1 := Classical.byContradiction h1
    dsimp only
    have hok := ok
    obtain ⟨id, L, q1, q2, q3, q4, q5⟩ := ok
    obtain ⟨c1, c2⟩ := q1.hh h1
    have hmin : min 16 (n32 (v.dn 1 2)) = n32 (v.dn 1 2) := by omega
    rw [hmin]
    generalize hc : n32 (v.dn 1 2) = c at *
    obtain ⟨d, hd⟩ : ∃ d, d = v.dn := ⟨_, rfl⟩
    have hpr : zPairs d c = (List.range' 0 c).map fun i => (n32 (d 2 i), d (3 + i)) := by unfold zPairs; rw [List.range_eq_range']
    have hz : zDisc v.dn = zov (zHome d) (zPairs d c) := by unfold zDisc; rw [if_pos h1, hc, hd]
    let QC : Nat → ZSt → Prop := fun k => if k = 0 then fun sd => (∀ b, b < 19 → sd b = d b) ∧ ∀ b, (∀ i, i < c → b ≠ n32 (d 2 i)) → sd (19 + b) = d (19 + b) else fun sf => sf = v.fn
    have hzq : ∀ sd, QC 0 sd → zDisc sd = zDisc v.dn := by
      intro sd hs
      rw [hz]
      unfold zDisc
      rw [if_pos (by rw [hs.1 1 (by omega), hd]; exact h1)]
      have e1 : n32 (sd 1 2) = c := by rw [hs.1 1 (by omega), hd]; exact hc
      have e2 : zPairs sd c = zPairs d c := by
        unfold zPairs
        apply List.map_congr_left
        intro j hj
        have := List.mem_range.mp hj
        rw [hs.1 2 (by omega), hs.1 (3 + j) (by omega)]
      rw [e1, e2]
      funext b
      refine zov_agree (fun hn => hs.2 b (fun i hi hx => ?_))
      exact hn (n32 (d 2 i), d (3 + i)) (by unfold zPairs; exact List.mem_map.mpr ⟨i, List.mem_range.mpr hi, rfl⟩) hx.symm
    have okC : ∀ sd sf, QC 0 sd → QC 1 sf → zOK P v.sets v.ways v.eps (v.p.na + 1) sd sf := by
      intro sd sf h0 hf
      have hf : sf = v.fn := hf
      subst hf
      refine zOK_re hok (by rw [h0.1 0 (by omega), hd]) (by rw [h0.1 1 (by omega), hd]) (hzq sd h0) (fun _ => ?_)
      rw [h0.1 1 (by omega), h0.1 2 (by omega), hd, hc]
      exact ⟨c1, c2⟩
    have pC : ZPh P (v.p.na + 1) QC v := by
      refine ⟨up, sz, Nat.le_refl _, fun s hs => ?_, fun s hs => ?_, okC⟩
      · rw [ZDv.out_nil p0 hs, ← ZDv.now_nil p0]
        exact ⟨fun b _ => by rw [hd], fun b _ => by rw [hd]⟩
      · show s = v.fn
        rw [ZDv.out_nil p1 hs]; exact (ZDv.now_nil p1).symm
    have s1 := ZPh.redo hP (d := d) c 0 v pC (fun b _ => by rw [hd]) (by omega) (fun i hi s hs => by
      have hi : i < c := by omega
      refine ⟨fun b hb' => by rw [zu_ne _ _ (by omega)]; exact hs.1 b hb', fun b hb' => ?_⟩
      rw [zu_ne _ _ (by have := hb' i hi; omega)]; exact hs.2 b hb')
    have s2 : ZOk P (fun u => ZPh P (v.p.na + 1) QC u ∧ ZKeep v u ∧ (∀ b, b < 19 → u.dn b = d b) ∧ zHome u.dn = zDisc v.dn ∧ u.p.dv 1 = v.p.dv 1 ∧ v.p.na ≤ u.p.na) (ZVs.wrRedo c 0 v) := s1.imp (fun _ r => ⟨r.1, r.2.1, r.2.2.1, by rw [r.2.2.2.1, hz, hpr, hd], r.2.2.2.2⟩)
    clear s1
    refine s2.bind (f := fun u => ((u.fl 0).wr 0 1 (zThree 0 v.landed 0)).fl 0) (((zfr_fl _ _).trans (zfr_wr _ _ _ _)).trans (zfr_fl _ _)) (fun _ r => ?_)
    generalize ZVs.wrRedo c 0 v = u1 at *
    obtain ⟨r1, r2, r3, r4, r5, r6⟩ := r
    refine (r1.fl0 hP).bind (f := fun u => (u.wr 0 1 (zThree 0 v.landed 0)).fl 0) ((zfr_wr _ _ _ _).trans (zfr_fl _ _)) (fun _ t => ?_)
    generalize u1.fl 0 = u2 at *
    obtain ⟨t1, t2, t3, t4, t5, t6⟩ := t
    obtain ⟨d4, hd4⟩ : ∃ d4, d4 = zu u1.dn 1 (zThree 0 v.landed 0) := ⟨_, rfl⟩
    have kk := r2.trans t2
    have hL : iN v.landed = v.dn 1 1 := by
      unfold ZVs.landed; rw [q1.L_eq (by omega), q1.hL]
    have d4n : d4 1 0 ≠ 1 := by rw [hd4, zu_self]; show iN 0 ≠ 1; decide
    have d4z : zDisc d4 = zDisc v.dn := by
      rw [zDisc_0 d4n, ← r4]
      funext b; show d4 (19 + b) = u1.dn (19 + b); rw [hd4, zu_ne _ _ (by omega)]
    have d40 : d4 0 0 = v.dn 0 0 := by rw [hd4, zu_ne _ _ (by omega), r3 0 (by omega), hd]
    have d41 : d4 1 1 = v.dn 1 1 := by rw [hd4, zu_self]; exact hL
    have ok4 : zOK P v.sets v.ways v.eps (v.p.na + 1) d4 v.fn := zOK_re hok d40 d41 d4z (fun hx => absurd hx d4n)
    have p2 : ZPh P (v.p.na + 1) (fun k => if k = 0 then fun sd => sd = u1.dn ∨ sd = d4 else fun sf => sf = v.fn) u2 := by
      refine t1.re t1.na (fun s hs => Or.inl hs) (fun s hs => hs) (fun sd sf h0 hf => ?_)
      have hf : sf = v.fn := hf
      subst hf
      rw [kk.sets, kk.ways, kk.eps]
      rcases h0 with h0 | h0
      · subst h0
        exact okC _ _ (r1.q0 _ (ZDv.out_now _)) rfl
      · subst h0; exact ok4
    refine (p2.wr0 hP (b := 1) (x := zThree 0 v.landed 0) (fun s hs => ?_)).bind (f := fun u => u.fl 0) (zfr_fl _ _) (fun _ y => ?_)
    · right
      rcases hs with hs | hs
      · rw [hs, hd4]
      · rw [hs, hd4, zu_zu]
    generalize u2.wr 0 1 (zThree 0 v.landed 0) = u3 at *
    obtain ⟨y1, y2, y3, y4, y5⟩ := y
    refine (y1.fl0 hP).imp (fun _ z => ?_)
    generalize u3.fl 0 = w at *
    obtain ⟨z1, z2, z3, z4, z5, z6⟩ := z
    have kw := (kk.trans y2).trans z2
    have wdn : w.dn = d4 := by rw [z3, y3, t3, hd4]
    have wd1 : w.p.dv 1 = v.p.dv 1 := z5.trans (y4.trans (t5.trans r5))
    have wfn : w.fn = v.fn := by show (w.p.dv 1).now = _; rw [wd1]
    have hna : v.p.na ≤ w.p.na := by omega
    refine ⟨kw, z4, wd1, ?_, by rw [wdn]; exact d4n, by rw [wdn]; exact d40, by rw [wdn]; exact d41, hna⟩
    rw [kw.sets, kw.ways, kw.eps, wdn, wfn]
    exact zOK_mono hP (by omega) ok4
end
/-- the slots as the records tell them -/
def ZTk (n : Nat) (sbg seg : Nat → Nat) (u : ZVs) : Prop := ∀ s, s < n → (u.se s = 0 ∧ u.sb s = 0) ∨ (u.se s = seg s ∧ u.sb s = sbg s ∧ 0 < seg s)
theorem takePairs_spec {n : Nat} {sbg seg : Nat → Nat} {r : ZBk} (hn : n ≤ 64) (ht : zTrue n sbg seg r) (he : 0 < n32 (r 1)) : ∀ (k j : Nat) (u : ZVs), j + k ≤ n32 (r 3) → ZTk n sbg seg u → ZTk n sbg seg (ZVs.takePairs r (n32 (r 1)) k j u) ∧ (∀ s, s < n → 0 < u.se s → 0 < (ZVs.takePairs r (n32 (r 1)) k j u).se s) ∧ ∀ i s, j ≤ i → i < j + k → s < n → r (4 + 2 * i) = iN s → 0 < (ZVs.takePairs r (n32 (r 1)) k j u).se s := by
  intro k
  induction k with
  | zero => intro j u _ h; exact ⟨h, fun s _ hs => hs, fun i s h1 h2 => by omega⟩
  | succ k ih =>
    intro j u hj h
    unfold ZVs.takePairs
    obtain ⟨s0, b0, q1, q2, q3, q4, q5, q6⟩ := ht.2 j (by omega)
    have e1 : n32 (r (4 + 2 * j)) = s0 := by rw [q1]; exact n32_iN (by omega)
    have e2 : n32 (r (5 + 2 * j)) = b0 := by rw [q2]; exact n32_iN (by omega)
    rw [e1, e2]
    have h' : ZTk n sbg seg (ZVs.mk (ZVs.p u) (ZVs.sets u) (ZVs.ways u) (ZVs.eps u) (ZVs.wf u) (zu u.sb s0 (b0 + 1)) (zu u.se s0 (n32 (r 1))) (ZVs.mrk u) (ZVs.hd u) (ZVs.opn u) (ZVs.half u) (ZVs.gen u) (ZVs.plc u)) := by
      intro s hs
      show (zu u.se s0 (n32 (r 1)) s = 0 ∧ zu u.sb s0 (b0 + 1) s = 0) ∨ (zu u.se s0 (n32 (r 1)) s = seg s ∧ zu u.sb s0 (b0 + 1) s = sbg s ∧ 0 < seg s)
      by_cases hs0 : s = s0
      · right; rw [hs0, zu_self, zu_self]; exact ⟨q5.symm, q6.symm, by omega⟩
      · rw [zu_ne _ _ hs0, zu_ne _ _ hs0]; exact h s hs
    obtain ⟨i1, i2, i3⟩ := ih (j + 1) _ (by omega) h'
    have hmono : ∀ s, s < n → 0 < u.se s → 0 < zu u.se s0 (n32 (r 1)) s := by
      intro s hs hp
      by_cases hs0 : s = s0
      · rw [hs0, zu_self]; exact he
      · rw [zu_ne _ _ hs0]; exact hp
    refine ⟨i1, fun s hs hp => i2 s hs (hmono s hs hp), fun i s h1 h2 hs hr => ?_⟩
    by_cases hij : i = j
    · subst hij
      have : s = s0 := by rw [q1] at hr; exact (iN_inj (by omega) (by omega) hr).symm
      subst this
      exact i2 s hs (by show 0 < zu u.se s (n32 (r 1)) s; rw [zu_self]; exact he)
    · exact i3 i s (by omega) (by omega) hs hr
theorem takeRecs_spec {P : ZSt → Prop} {sets ways eps id L opn H g : Nat} {sd sf : ZSt} {sbg seg : Nat → Nat} (hf : ZFl P sets ways eps sd sf id L opn H g 24 sbg seg) (hn : sets * ways ≤ 64) : ∀ (c k : Nat) (u : ZVs), k + c = 24 → u.fn = sf → u.gen = g → u.landed = L → ZTk (sets * ways) sbg seg u → L < u.opn → u.opn ≤ opn → (∀ k', k' < k → ∀ e, n32 (sf (25 * H + 1 + k') 0) = g → n32 (sf (25 * H + 1 + k') 1) = e → L < e → e < opn → e < u.opn ∧ ∀ j s, j < n32 (sf (25 * H + 1 + k') 3) → s < sets * ways → sf (25 * H + 1 + k') (4 + 2 * j) = iN s → 0 < u.se s) →
    ZTk (sets * ways) sbg seg (ZVs.takeRecs H c k u) ∧ (ZVs.takeRecs H c k u).opn ≤ opn ∧ L < (ZVs.takeRecs H c k u).opn ∧ ∀ k', k' < 24 → ∀ e, n32 (sf (25 * H + 1 + k') 0) = g → n32 (sf (25 * H + 1 + k') 1) = e → L < e → e < opn → e < (ZVs.takeRecs H c k u).opn ∧ ∀ j s, j < n32 (sf (25 * H + 1 + k') 3) → s < sets * ways → sf (25 * H + 1 + k') (4 + 2 * j) = iN s → 0 < (ZVs.takeRecs H c k u).se s := by
  intro c
  induction c with
  | zero =>
    intro k u hk _ _ _ ht h1 h2 h3
    have : k = 24 := by omega
    subst this
    exact ⟨ht, h2, h1, h3⟩
  | succ c ih =>
    intro k u hk hfn hg hL ht h1 h2 h3
    unfold ZVs.takeRecs
    dsimp only
    rw [hfn]
    generalize hr : sf (25 * H + 1 + k) = r at *
    by_cases hc : n32 (r 0) = u.gen ∧ u.landed < n32 (r 1) ∧ ZVs.hasLast sf H u.gen (n32 (r 1))
    · rw [if_pos hc]
      rw [hg, hL] at hc
      obtain ⟨c1, c2, k2, c3, c4, c5, c6⟩ := hc
      have hlt : n32 (r 1) < opn := by
        have ha := (hf.ha k2 c3).2 c4
        rw [c5] at ha
        rcases ha with ha | ha | ha
        · omega
        · exact ha.1
        · exact absurd c6 ha.2
      have htr : zTrue (sets * ways) sbg seg r := by
        have ha := (hf.ha k (by omega)).2 (by rw [hr]; exact c1)
        rw [hr] at ha
        rcases ha with ha | ha | ha
        · omega
        · exact ha.2
        · omega
      obtain ⟨p1, p2, p3⟩ := takePairs_spec hn htr (by omega) (n32 (r 3)) 0 (ZVs.s_opn u (max u.opn (n32 (r 1) + 1))) (by omega) ht
      have z := zfr_takePairs r (n32 (r 1)) (n32 (r 3)) 0 (ZVs.s_opn u (max u.opn (n32 (r 1) + 1)))
      generalize ZVs.takePairs r (n32 (r 1)) (n32 (r 3)) 0 (ZVs.s_opn u (max u.opn (n32 (r 1) + 1))) = w at *
      obtain ⟨z1, z2, z3, z4, z5, z6⟩ := z
      have z5 : w.opn = max u.opn (n32 (r 1) + 1) := z5
      have z2 : w.p = u.p := z2
      refine ih (k + 1) w (by omega) (by show (w.p.dv 1).now = _; rw [z2]; exact hfn) (z3.trans hg) (by unfold ZVs.landed ZVs.dn; rw [z2]; exact hL) p1 (by omega) (by omega) (fun k' hk' e e1 e2 e3 e4 => ?_)
      by_cases hkk : k' = k
      · subst hkk
        rw [hr] at e1 e2 ⊢
        exact ⟨by omega, fun j s j1 j2 j3 => p3 j s (by omega) (by omega) j2 j3⟩
      · obtain ⟨y1, y2⟩ := h3 k' (by omega) e e1 e2 e3 e4
        exact ⟨by omega, fun j s j1 j2 j3 => p2 s j2 (y2 j s j1 j2 j3)⟩
    · rw [if_neg hc]
      refine ih (k + 1) u (by omega) hfn hg hL ht h1 h2 (fun k' hk' e e1 e2 e3 e4 => ?_)
      by_cases hkk : k' = k
      · exfalso
        subst hkk
        rw [hr] at e1 e2
        apply hc
        rw [hg, hL]
        refine ⟨e1, by omega, ?_⟩
        obtain ⟨⟨k2, g1, g2, g3, g4⟩, _⟩ := hf.hc e e3 e4
        exact ⟨k2, g1, g2, by rw [g3, e2], g4⟩
      · exact h3 k' (by omega) e e1 e2 e3 e4
theorem zfr_open2 (h : Nat) (u : ZVs) : ZFr 267 u (ZVs.takeHalf h u.noSlots).changeHalves := by
  have h2 : ZFr 0 u u.noSlots := ZFr.of_p rfl rfl rfl rfl rfl
  have key : ∀ w, ZFr 0 u w → ZFr 267 u w.changeHalves := fun w hw => (hw.trans (zfr_changeHalves w).1).mono (by omega)
  have key2 : ∀ w, ZFr 0 u w → ZFr 0 u (ZVs.takeHalf h w) := fun w hw => hw.trans (zfr_takeHalf h w).1
  exact key _ (key2 _ h2)
section
/-- the slots are taken from the half that counts -/
theorem ztake {P : Nat → ZSt → Prop} {v : ZVs} (up : v.p.up = true) (hw : v.wf = true) (sz : ZSz v.sets v.ways v.eps) (p0 : (v.p.dv 0).pd = []) (p1 : (v.p.dv 1).pd = []) (h0 : v.dn 1 0 ≠ 1) {id L opn H g : Nat} {sbg seg : Nat → Nat} (hh : ZHead v.dn id L) (n1 : id ≤ v.p.na + 1) (n2 : opn ≤ v.p.na + 1) (n3 : g ≤ v.p.na + 1) (hs : ∀ s, s < v.sets * v.ways → seg s < opn) (hf : ZFl (P (v.p.na + 1)) v.sets v.ways v.eps v.dn v.fn id L opn H g 24 sbg seg) (hb : v.p.na + 1 < 2147483648) : ZRm P 24 (ZVs.takeHalf H v.noSlots) ∧ ∀ s, s < (ZVs.takeHalf H v.noSlots).n → (ZVs.takeHalf H v.noSlots).se s < (ZVs.takeHalf H v.noSlots).opn := by
  have hid := hh.id_eq (by omega)
  have hLo := hf.hLo
  have hL : v.landed = L := hh.L_eq (by omega)
  have hg : n32 (v.fn (25 * H) 0) = g := by rw [hf.hg]; exact n32_iN (by omega)
  have z := zfr_takeHalf H v.noSlots
  have sp := takeRecs_spec hf sz.n64 24 0 (ZVs.mk (ZVs.p v.noSlots) (ZVs.sets v.noSlots) (ZVs.ways v.noSlots) (ZVs.eps v.noSlots) (ZVs.wf v.noSlots) (ZVs.sb v.noSlots) (ZVs.se v.noSlots) (ZVs.mrk v.noSlots) (ZVs.hd v.noSlots) (v.noSlots.landed + 1) H (n32 (v.noSlots.fn (25 * H) 0)) (ZVs.plc v.noSlots)) rfl rfl hg hL (fun s _ => Or.inl ⟨rfl, rfl⟩) (by show L < v.landed + 1; omega) (by show v.landed + 1 ≤ opn; omega) (fun k' hk' => by omega)
  unfold ZVs.takeHalf at *
  generalize ZVs.takeRecs H 24 0 (ZVs.mk (ZVs.p v.noSlots) (ZVs.sets v.noSlots) (ZVs.ways v.noSlots) (ZVs.eps v.noSlots) (ZVs.wf v.noSlots) (ZVs.sb v.noSlots) (ZVs.se v.noSlots) (ZVs.mrk v.noSlots) (ZVs.hd v.noSlots) (v.noSlots.landed + 1) H (n32 (v.noSlots.fn (25 * H) 0)) (ZVs.plc v.noSlots)) = u at *
  obtain ⟨z1, z2, z3, z4, z5⟩ := z
  obtain ⟨s1, s2, s3, s4⟩ := sp
  have us : u.sets = v.sets := z1.s
  have uw : u.ways = v.ways := z1.w
  have ue : u.eps = v.eps := z1.e
  have up2 : u.p = v.p := z2
  have un : u.n = v.sets * v.ways := by show u.sets * u.ways = _; rw [us, uw]
  have udn : u.dn = v.dn := by show (u.p.dv 0).now = _; rw [up2]
  have ufn : u.fn = v.fn := by show (u.p.dv 1).now = _; rw [up2]
  have uL : u.landed = L := by unfold ZVs.landed; rw [udn]; exact hL
  have uopn : u.opn = opn := by
    by_cases hc : L + 1 < opn
    · obtain ⟨⟨k, k1, k2, k3, k4⟩, _⟩ := hf.hc (opn - 1) (by omega) (by omega)
      have := (s4 k k1 (opn - 1) k2 k3 (by omega) (by omega)).1
      omega
    · omega
  have use : ∀ s, s < v.sets * v.ways → u.se s = seg s ∧ (0 < seg s → u.sb s = sbg s) ∧ (seg s = 0 → u.sb s = 0) := by
    intro s hs'
    by_cases hsg : seg s = 0
    · rcases s1 s hs' with q | q
      · exact ⟨by omega, fun hx => by omega, fun _ => q.2⟩
      · omega
    · have hlt := hs s hs'
      have htb := hf.tb s hs' (by omega) hlt
      obtain ⟨_, hcc⟩ := hf.hc (seg s) htb.1 hlt
      obtain ⟨k, k1, k2, k3, j, k4, k5⟩ := hcc s hs' rfl
      have hpos := (s4 k k1 (seg s) k2 k3 htb.1 hlt).2 j s k4 hs' k5
      rcases s1 s hs' with q | q
      · omega
      · exact ⟨q.1, fun _ => q.2.1, fun hx => absurd hx hsg⟩
  have use' : ∀ s, s < v.sets * v.ways → u.se s < opn := fun s hs' => by rw [(use s hs').1]; exact hs s hs'
  have hsb : ∀ s, s < v.sets * v.ways → u.sb s ≠ 0 → 0 < u.se s ∧ u.sb s = sbg s := by
    intro s hs' hx
    obtain ⟨q1, q2, q3⟩ := use s hs'
    by_cases hsg : seg s = 0
    · exact absurd (q3 hsg) hx
    · exact ⟨by omega, q2 (by omega)⟩
  refine ⟨?_, fun s hs' => by rw [uopn]; rw [un] at hs'; exact use' s hs'⟩
  refine ⟨by rw [up2]; exact up, z1.wf.trans hw, by rw [us, uw, ue]; exact sz, by rw [up2]; exact p0, ?_, by rw [udn]; exact h0, ?_, ?_, ?_, ?_, ?_, ?_, ?_, ?_, ?_, ?_, ?_, ?_⟩
  · rw [udn, uL, hid]; exact hh
  · rw [us, uw, ue, udn, ufn, uL, uopn, hid, up2, z4]
    have z3 : u.gen = n32 (v.fn (25 * H) 0) := z3
    rw [z3, hg]
    exact hf.congr (fun _ q => q) (Nat.le_refl _) (Nat.le_refl _) rfl (fun _ _ => rfl) (fun s hs' t1 t2 => ⟨(use s hs').1, (use s hs').2.1 t1, rfl⟩) (fun s hs' t1 t2 => (use s hs').1)
  · rw [up2, p1]; intro e he; cases he
  · rw [un]; intro s hs' hx
    obtain ⟨q1, q2, q3⟩ := use s hs'
    by_cases hsg : seg s = 0
    · omega
    · have := q2 (by omega)
      have := (hf.tb s hs' (by omega) (hs s hs')).2.1
      omega
  · rw [un, uopn]; intro s hs'; have := use' s hs'; omega
  · rw [un, us, uw]; intro s hs' hx
    obtain ⟨q1, q2⟩ := hsb s hs' hx
    have q3 := (use s hs').1
    have := hf.tb s hs' (by omega) (hs s hs')
    rw [q2]
    exact ⟨this.2.2.1, this.2.2.2⟩
  · rw [un]; intro s s' hs1 hs2 hx hxx hd
    obtain ⟨q1, q2⟩ := hsb s hs1 hx
    obtain ⟨q3, q4⟩ := hsb s' hs2 (by rw [← hxx]; exact hx)
    have e1 := (use s hs1).1
    have e2 := (use s' hs2).1
    refine hf.tu s s' hs1 hs2 (by omega) (hs s hs1) (by omega) (by omega)
  · rw [un]; intro s hs1 hx hd
    have := (hsb s hs1 hx).1; omega
  · unfold ZVs.dirty ZVs.dl
    have : zDl u.se u.opn u.n = [] := by
      rw [List.eq_nil_iff_forall_not_mem]
      intro s hs'
      have q := mem_zDl.mp hs'
      rw [un] at q
      have := use' s q.1
      omega
    rw [this]; simp
  · rw [z5, uw]; intro set; exact sz.w1
  · rw [udn, hid, up2]; exact n1
  · rw [uopn, up2]; exact n2
  · have z3 : u.gen = n32 (v.fn (25 * H) 0) := z3
    rw [z3, hg, up2]; exact n3
theorem zgood {P : Nat → ZSt → Prop} {v : ZVs} {m : Nat} (hm : m + 1 < 2147483648) (ok : zOK P v.sets v.ways v.eps m v.dn v.fn) {h : Nat} (hg : v.good = some h) : ∃ id L opn g sb se, ZHead v.dn id L ∧ id ≤ m ∧ L < m ∧ opn ≤ m ∧ g ≤ m ∧ (∀ s, s < v.sets * v.ways → se s < opn) ∧ ZFl (P m) v.sets v.ways v.eps v.dn v.fn id L opn h g 24 sb se := by
  obtain ⟨id, L, q1, q2, q3, q4, q5⟩ := ok
  have hid := q1.hid
  have hid1 := q1.hid1
  have n0 : n32 (0 : Int32) = 0 := rfl
  rcases q5 with q5 | q5 | ⟨opn, H, g, sb, se, r1, r2, r3, r4⟩
  · exfalso
    have a0 : v.fn 0 1 ≠ v.dn 0 0 := by
      rw [hid]; intro hx
      have := q5 0 (by omega)
      rw [show 25 * 0 = 0 from rfl, hx, n32_iN (by omega)] at this; omega
    have a1 : v.fn 25 1 ≠ v.dn 0 0 := by
      rw [hid]; intro hx
      have := q5 1 (by omega)
      rw [show 25 * 1 = 25 from rfl, hx, n32_iN (by omega)] at this; omega
    unfold ZVs.good at hg
    rw [if_neg a0, if_neg a1] at hg
    cases hg
  · exfalso
    obtain ⟨p1, p2, p3, p4⟩ := q5
    have a0 : v.fn 0 1 ≠ v.dn 0 0 := by
      rw [hid, p2]; intro hx
      have := iN_inj (by omega) (by omega) hx; omega
    have a1 : v.fn 25 1 ≠ v.dn 0 0 := by
      rw [hid, p3]; intro hx
      have := congrArg n32 hx
      rw [n0, n32_iN (by omega)] at this; omega
    unfold ZVs.good at hg
    rw [if_neg a0, if_neg a1] at hg
    cases hg
  · have hHh : h = H := by
      have hH := r4.hH
      have hgg : n32 (v.fn (25 * H) 0) = g := by rw [r4.hg]; exact n32_iN (by omega)
      have hii := r4.hi
      have hoo := r4.ho
      unfold ZVs.good at hg
      rw [hid] at hg
      by_cases hH0 : H = 0
      · subst hH0
        have e0 : v.fn 0 1 = iN id := hii
        have eg : n32 (v.fn 0 0) = g := hgg
        rw [if_pos e0] at hg
        rw [if_neg] at hg
        · cases hg; rfl
        · rintro ⟨x1, x2⟩
          rcases hoo with hoo | hoo
          · exact hoo x1
          · have hoo : n32 (v.fn 25 0) < g := hoo
            omega
      · have hH1 : H = 1 := by omega
        subst hH1
        have e1 : v.fn 25 1 = iN id := hii
        have eg : n32 (v.fn 25 0) = g := hgg
        by_cases e0 : v.fn 0 1 = iN id
        · rw [if_pos e0] at hg
          rw [if_pos] at hg
          · cases hg; rfl
          · refine ⟨e1, ?_⟩
            rcases hoo with hoo | hoo
            · exact absurd e0 hoo
            · have hoo : n32 (v.fn 0 0) < g := hoo
              omega
        · rw [if_neg e0, if_pos e1] at hg
          cases hg; rfl
    subst hHh
    exact ⟨id, L, opn, g, sb, se, q1, q2, q3, r1, r2, r3, r4⟩
/-- mounting with the flash -/
theorem zopenFlash {P : Nat → ZSt → Prop} (hP : ∀ m m' V, m ≤ m' → P m V → P m' V) {v : ZVs} (up : v.p.up = true) (hw : v.wf = true) (sz : ZSz v.sets v.ways v.eps) (p0 : (v.p.dv 0).pd = []) (p1 : (v.p.dv 1).pd = []) (ok : zOK P v.sets v.ways v.eps (v.p.na + 1) v.dn v.fn) (hb : v.p.na + 400 < 2147483648) {h : Nat} (hg : v.good = some h) : ZOk P (fun u => ZIv P (· = u.cur) u) (ZVs.openFlash h v) := by
  unfold ZVs.openFlash
  have hz := (zfr_redo v).1.n2
  have s0 : ZOk P (fun u => (ZKeep v u ∧ (u.p.dv 0).pd = [] ∧ u.p.dv 1 = v.p.dv 1 ∧ zOK P u.sets u.ways u.eps (u.p.na + 1) u.dn u.fn ∧ u.dn 1 0 ≠ 1 ∧ u.dn 0 0 = v.dn 0 0 ∧ u.dn 1 1 = v.dn 1 1 ∧ v.p.na ≤ u.p.na) ∧ u.p.na ≤ v.p.na + 19) v.redo := (zredo hP up sz p0 p1 ok (by omega)).imp (fun _ q => ⟨q, hz⟩)
  have key : ∀ w : ZVs, w.p.na + 300 < 2147483648 → ZRm P 24 w → (∀ s, s < w.n → w.se s < w.opn) → ZOk P (fun u => ZIv P (· = u.cur) u) w.changeHalves := by
    intro w wna hm hlt
    have zc := (zfr_changeHalves w).1.n1
    have s1 : ZOk P (fun u => (ZRf P u ∧ u.cur = w.cur) ∧ w.p.na ≤ u.p.na) w.changeHalves := (hm.changeHalves hP wna).imp (fun _ t => ⟨⟨t.1, t.2.1⟩, zc⟩)
    refine s1.impG (fun x _ t => ?_)
    obtain ⟨⟨t1, t2⟩, zc⟩ := t
    refine Or.inl ⟨t1, rfl, fun V hV => ?_⟩
    subst hV
    rw [t2]
    refine hP (w.p.na + 1) _ _ (by omega) ?_
    have hLo := hm.fl.hLo
    rw [← hm.vol_cur]
    have : zVol (zDisc w.dn) w.fn w.sb w.se w.n w.opn = zVol (zDisc w.dn) w.fn w.sb w.se w.n (w.opn - 1) := by
      funext b
      unfold zVol
      rw [zNew_congr (sb := zUp w.sb w.se (w.opn - 1)) (se := w.se) (fun s hs => ⟨?_, fun _ => rfl⟩)]
      have := hlt s hs
      rw [zUp_eq, zUp_eq]
      constructor <;> intro hx <;> exact ⟨hx.1, by omega, hx.2.2⟩
    rw [this]
    exact hm.fl.vp _ (by omega) (by omega)
  refine s0.bindG (f := fun u => (ZVs.takeHalf h u.noSlots).changeHalves) (c := 267) (zfr_open2 h) (fun u hup q => ?_)
  obtain ⟨⟨k, q1, q2, q3, q4, q5, q6, q7⟩, q8⟩ := q
  have ufn : u.fn = v.fn := by show (u.p.dv 1).now = _; rw [q2]
  have hg' : u.good = some h := by
    unfold ZVs.good at *; rw [ufn, q5]; exact hg
  obtain ⟨id, L, opn, g, sb, se, r1, r2, r3, r4, r5, r6, r7⟩ := zgood (by omega) q3 hg'
  obtain ⟨hm, hlt⟩ := ztake hup (k.wf.trans hw) (by rw [k.sets, k.ways, k.eps]; exact sz) q1 (by rw [q2]; exact p1) q4 r1 r2 r4 r5 r6 r7 (by omega)
  have zt := congrArg ZPw.na (zfr_takeHalf h u.noSlots).2.1
  have zt2 : u.noSlots.p.na = u.p.na := rfl
  exact key _ (by omega) hm hlt
end
/-! MOUNTING THE DISC ALONE, A NEW FLASH, ITS LOSS -/
theorem nf0 (v : ZVs) : v.newFlash.p.dv 0 = v.p.dv 0 := by unfold ZVs.newFlash; rfl
theorem nf1 (v : ZVs) : (v.newFlash.p.dv 1).st = fun _ _ => 0 := by unfold ZVs.newFlash; rfl
theorem nf2 (v : ZVs) : (v.newFlash.p.dv 1).pd = [] := by unfold ZVs.newFlash; rfl
theorem zFresh_dn {P : Nat → ZSt → Prop} {u : ZVs} (h : ZDn P u) : ZDn P (zFresh u) := h.of_p rfl ⟨rfl, rfl, rfl⟩
theorem ZOk.fresh {P : Nat → ZSt → Prop} {A B : ZVs → Prop} {u : ZVs} (h : ZOk P A u) (hi : ∀ u, u.p.up = true → A u → B (zFresh u)) : ZOk P B (zFresh u) := by
  rcases h with ⟨h1, h2⟩ | h
  · exact Or.inl ⟨h1, hi u h1 h2⟩
  · exact Or.inr (zFresh_dn h)
theorem zfr_disc2 (u : ZVs) : ZFr 2 u ((u.noSlots.wr 0 0 (zThree (n32 (u.noSlots.dn 0 0) + 1) 0 0)).fl 0) := by
  have h2 : ZFr 0 u u.noSlots := ZFr.of_p rfl rfl rfl rfl rfl
  have key : ∀ w : ZVs, ZFr 0 u w → ZFr 2 u ((w.wr 0 0 (zThree (n32 (w.dn 0 0) + 1) 0 0)).fl 0) := fun w hw => (hw.trans ((zfr_wr w 0 0 _).trans (zfr_fl _ 0))).mono (by omega)
  exact key _ h2
section
theorem zopenDisc {P : Nat → ZSt → Prop} (hP : ∀ m m' V, m ≤ m' → P m V → P m' V) {v : ZVs} (up : v.p.up = true) (hw : v.wf = false) (sz : ZSz v.sets v.ways v.eps) (p0 : (v.p.dv 0).pd = []) (p1 : (v.p.dv 1).pd = []) (ok : zOK P v.sets v.ways v.eps (v.p.na + 1) v.dn v.fn) (hb : v.p.na + 400 < 2147483648) : ZOk P (fun u => ZIv P (· = u.cur) u) v.openDisc := by
  unfold ZVs.openDisc
  dsimp only
  have hz := (zfr_redo v).1.n2
  have s0 : ZOk P (fun u => (ZKeep v u ∧ (u.p.dv 0).pd = [] ∧ u.p.dv 1 = v.p.dv 1 ∧ zOK P u.sets u.ways u.eps (u.p.na + 1) u.dn u.fn ∧ u.dn 1 0 ≠ 1 ∧ u.dn 0 0 = v.dn 0 0 ∧ u.dn 1 1 = v.dn 1 1 ∧ v.p.na ≤ u.p.na) ∧ u.p.na ≤ v.p.na + 19) v.redo := (zredo hP up sz p0 p1 ok (by omega)).imp (fun _ q => ⟨q, hz⟩)
  have key : ∀ u : ZVs, u.wf = false → ZSz u.sets u.ways u.eps → zOK P u.sets u.ways u.eps (u.p.na + 1) u.dn u.fn → (u.p.dv 0).pd = [] → (u.p.dv 1).pd = [] → u.dn 1 0 ≠ 1 → u.p.na ≤ v.p.na + 19 → u.p.up = true → ZOk P (fun u => ZIv P (· = u.cur) u) ((u.wr 0 0 (zThree (n32 (u.dn 0 0) + 1) 0 0)).fl 0) := by
    intro u hwu hszu q3 q1' q2' q4' hna hup'
    have hok := q3
    obtain ⟨id, L, r1, r2, r3, r4, r5⟩ := q3
    have hid := r1.id_eq (by omega)
    rw [hid]
    have hfn : u.fn = (u.p.dv 1).st := ZDv.now_nil q2'
    -- the flash's status at the next identity
    have hfs : zF0 u.fn (id + 1) ∨ zFq u.fn (id + 1) := by
      rcases r5 with r5 | r5 | ⟨opn, H, g, sb, se, s1, s2, s3, s4⟩
      · left; intro h hh; have := r5 h hh; omega
      · right; exact r5
      · left
        intro h hh
        have hH := s4.hH
        by_cases hhH : h = H
        · rw [hhH, s4.hi, n32_iN (by omega)]; omega
        · have : h = 1 - H := by omega
          rw [this]; have := s4.hj; omega
    obtain ⟨d1, hd1⟩ : ∃ d1, d1 = zu u.dn 0 (zThree (id + 1) 0 0) := ⟨_, rfl⟩
    have d1z : zDisc d1 = zDisc u.dn := by
      have e1 : d1 1 = u.dn 1 := by rw [hd1, zu_ne _ _ (by omega)]
      rw [zDisc_0 q4', zDisc_0 (by rw [e1]; exact q4')]
      funext b; show d1 (19 + b) = u.dn (19 + b); rw [hd1, zu_ne _ _ (by omega)]
    have d1H : ZHead d1 (id + 1) L := by
      refine ⟨by rw [hd1, zu_self]; rfl, by omega, by rw [hd1, zu_ne _ _ (by omega)]; exact r1.hL, fun hx => ?_⟩
      rw [hd1, zu_ne _ _ (by omega)] at hx; exact absurd hx q4'
    have pA : ZPh P (u.p.na + 1) (fun k => if k = 0 then fun sd => sd = u.dn else fun sf => sf = u.fn) u := by
      refine ⟨hup', hszu, Nat.le_refl _, fun s hs => ?_, fun s hs => ?_, fun sd sf h0 h1 => ?_⟩
      · show s = u.dn
        rw [ZDv.out_nil q1' hs]; exact (ZDv.now_nil q1').symm
      · show s = u.fn
        rw [ZDv.out_nil q2' hs]; exact hfn.symm
      · have h0 : sd = u.dn := h0
        have h1 : sf = u.fn := h1
        subst h0; subst h1; exact hok
    -- the write itself is an act
    rcases (pA.cr hP).wr hP 0 0 (zThree (id + 1) 0 0) with ⟨_, hw1⟩ | hw1
    · rw [hw1]
      have hbig : ZPh P (u.p.na + 2) (fun k => if k = 0 then fun sd => sd = u.dn ∨ sd = d1 else fun sf => sf = u.fn) (ZVs.s_p u (ZPw.mk (zu u.p.dv 0 ((u.p.dv 0).add 0 (zThree (id + 1) 0 0))) (ZPw.up u.p) (u.p.lim - 1) (ZPw.msk u.p) (u.p.na + 1))) := by
        refine ⟨hup', hszu, by show u.p.na + 2 ≤ u.p.na + 1 + 1; omega, fun s hs => ?_, fun s hs => ?_, fun sd sf h0 h1 => ?_⟩
        · have hs : ((u.p.dv 0).add 0 (zThree (id + 1) 0 0)).out s := hs
          rcases ZDv.out_add hs with hs | ⟨s', hs', rfl⟩
          · left; rw [ZDv.out_nil q1' hs]; exact (ZDv.now_nil q1').symm
          · right; rw [ZDv.out_nil q1' hs', hd1]
            show _ = zu (u.p.dv 0).now 0 _
            rw [ZDv.now_nil q1']
        · have hs : (u.p.dv 1).out s := hs
          show s = u.fn
          rw [ZDv.out_nil q2' hs]; exact hfn.symm
        · have h1 : sf = u.fn := h1
          subst h1
          show zOK P u.sets u.ways u.eps (u.p.na + 2) sd u.fn
          rcases h0 with h0 | h0
          · subst h0; exact zOK_mono hP (by omega) hok
          · subst h0
            exact zOK_disc d1H (by omega) (by omega) (by omega) (by rw [d1z]; exact hP _ _ _ (by omega) r4) hfs
      refine (hbig.fl0 hP).imp (fun hup2 t => ?_)
      have hdnx : ((ZVs.s_p u (ZPw.mk (zu u.p.dv 0 ((u.p.dv 0).add 0 (zThree (id + 1) 0 0))) (ZPw.up u.p) (u.p.lim - 1) (ZPw.msk u.p) (u.p.na + 1))) : ZVs).dn = d1 := by
        show (zu u.p.dv 0 ((u.p.dv 0).add 0 (zThree (id + 1) 0 0)) 0).now = _
        rw [zu_self, ZDv.now_add, hd1]
      have hd1x : ((ZVs.s_p u (ZPw.mk (zu u.p.dv 0 ((u.p.dv 0).add 0 (zThree (id + 1) 0 0))) (ZPw.up u.p) (u.p.lim - 1) (ZPw.msk u.p) (u.p.na + 1))) : ZVs).p.dv 1 = u.p.dv 1 := by
        show zu u.p.dv 0 ((u.p.dv 0).add 0 (zThree (id + 1) 0 0)) 1 = _
        rw [zu_ne _ _ (by omega)]
      have hnax : ((ZVs.s_p u (ZPw.mk (zu u.p.dv 0 ((u.p.dv 0).add 0 (zThree (id + 1) 0 0))) (ZPw.up u.p) (u.p.lim - 1) (ZPw.msk u.p) (u.p.na + 1))) : ZVs).p.na = u.p.na + 1 := rfl
      generalize hxx : ((ZVs.s_p u (ZPw.mk (zu u.p.dv 0 ((u.p.dv 0).add 0 (zThree (id + 1) 0 0))) (ZPw.up u.p) (u.p.lim - 1) (ZPw.msk u.p) (u.p.na + 1))) : ZVs) = x at *
      have hxw : x.wf = false := by rw [← hxx]; exact hwu
      have hxs : ZSz x.sets x.ways x.eps := hbig.sz
      generalize x.fl 0 = w at *
      obtain ⟨t1, t2, t3, t4, t5, t6⟩ := t
      have wdn : w.dn = d1 := by rw [t3, hdnx]
      have wd1 : w.p.dv 1 = u.p.dv 1 := t5.trans hd1x
      have wL : w.landed = L := by unfold ZVs.landed; rw [wdn]; exact d1H.L_eq (by omega)
      have wid : n32 (w.dn 0 0) = id + 1 := by rw [wdn]; exact d1H.id_eq (by omega)
      have hrd : ZRd P (· = w.cur) w := by
        refine ⟨hup2, t2.wf.trans hxw, by rw [t2.sets, t2.ways, t2.eps]; exact hxs, by rw [wd1]; exact q2', (by rw [t4]; intro e he; cases he), (by rw [wid, wL, wdn]; exact d1H), ?_, ?_, ?_, ?_, by omega, by omega⟩
        · rw [wdn, hd1, zu_ne _ _ (by omega)]; exact q4'
        · intro s hs
          rw [ZDv.out_nil t4 hs, ← ZDv.now_nil t4]
          funext b; unfold ZVs.cur; rw [t2.wf.trans hxw]; rfl
        · intro V hV
          subst hV
          have : w.cur = zDisc u.dn := by
            rw [← d1z, zDisc_0 (by rw [hd1, zu_ne _ _ (by omega)]; exact q4')]
            funext b; unfold ZVs.cur; rw [t2.wf.trans hxw, wdn]; rfl
          rw [this]
          exact hP (u.p.na + 1) _ _ (by omega) r4
        · rw [wd1, wid, ← hfn]; exact hfs
      exact Or.inr hrd
    · exact Or.inr ((zfr_fl _ 0).dnn hw1)
  refine s0.bindG (f := fun u => (u.noSlots.wr 0 0 (zThree (n32 (u.noSlots.dn 0 0) + 1) 0 0)).fl 0) (c := 2) zfr_disc2 (fun u hup q => ?_)
  obtain ⟨⟨k, q1, q2, q3, q4, q5, q6, q7⟩, q8⟩ := q
  exact key u.noSlots (k.wf.trans hw) (by show ZSz u.sets u.ways u.eps; rw [k.sets, k.ways, k.eps]; exact sz) q3 q1 (by show (u.p.dv 1).pd = []; rw [q2]; exact p1) q4 q8 hup
theorem zlose_down {P : Nat → ZSt → Prop} {v : ZVs} (h : ZDn P v) : ZDn P v.newFlash := by
  obtain ⟨id, L, q1, q2, q3, q4, q5⟩ := h.ok
  have n0 : n32 (0 : Int32) = 0 := rfl
  refine ⟨h.up, h.lim, h.sz, fun k hk => ?_, ?_⟩
  · by_cases h1 : k = 1
    · rw [h1]; exact nf2 v
    · have : k = 0 := by omega
      rw [this, nf0]; exact h.pd 0 (by omega)
  · have e0 : v.newFlash.p.dv 0 = v.p.dv 0 := nf0 v
    have e1 : (v.newFlash.p.dv 1).st = fun _ _ => 0 := nf1 v
    rw [e0, e1]
    refine ⟨id, L, q1, q2, q3, q4, Or.inl (fun h _ => ?_)⟩
    show n32 (0 : Int32) < id
    have := q1.hid1; omega
/-- the flash is gone while it runs: what is left can be mounted -/
theorem zlose_up {P : Nat → ZSt → Prop} (hP : ∀ m m' V, m ≤ m' → P m V → P m' V) {v : ZVs} (h : ZCr P v) (m : Int64) : ZDn P (ZVs.s_p v.newFlash (v.newFlash.p.goes m)) := by
  have n0 : n32 (0 : Int32) = 0 := rfl
  have e0 : v.newFlash.p.dv 0 = v.p.dv 0 := nf0 v
  have e1 : (v.newFlash.p.dv 1).st = fun _ _ => 0 := nf1 v
  have e2 : (v.newFlash.p.dv 1).pd = [] := nf2 v
  have hc : ZCr P v.newFlash := by
    refine ⟨h.up, h.sz, fun sd sf h0 h1 => ?_⟩
    rw [e0] at h0
    rw [ZDv.out_nil e2 h1, e1]
    obtain ⟨id, L, q1, q2, q3, q4, q5⟩ := h.ok sd _ h0 (ZDv.out_now _)
    refine ⟨id, L, q1, q2, q3, q4, Or.inl (fun h _ => ?_)⟩
    show n32 (0 : Int32) < id
    have := q1.hid1; omega
  exact hc.goes hP m 0 _ rfl ⟨rfl, rfl, rfl⟩
/-- a new flash behind a disc that runs alone -/
theorem zattach {P : Nat → ZSt → Prop} (hP : ∀ m m' V, m ≤ m' → P m V → P m' V) {Q : ZSt → Prop} {v : ZVs} (h : ZRd P Q v) (hb : v.p.na + 400 < 2147483648) : ZOk P (fun u => ZIv P (· = u.cur) u ∧ u.cur = v.cur) v.attach := by
  have n0 : n32 (0 : Int32) = 0 := rfl
  have hn1 := h.n1; have hn2 := h.n2
  unfold ZVs.attach
  dsimp only
  have e0 : v.newFlash.p.dv 0 = v.p.dv 0 := nf0 v
  have e1 : (v.newFlash.p.dv 1).st = fun _ _ => 0 := nf1 v
  have e2 : (v.newFlash.p.dv 1).pd = [] := nf2 v
  have e3 : v.newFlash.dn = v.dn := by show (v.newFlash.p.dv 0).now = _; rw [e0]
  have e4 : v.newFlash.fn = fun _ _ => 0 := by show (v.newFlash.p.dv 1).now = _; rw [ZDv.now_nil e2, e1]
  rw [e3]
  generalize hid : n32 (v.dn 0 0) = id at *
  have hid1 : 1 ≤ id := by rw [← hid]; exact h.hd.hid1
  obtain ⟨f1, hf1⟩ : ∃ f1 : ZSt, f1 = zu (fun _ _ => 0) 0 (zThree 1 (id + 1) 0) := ⟨_, rfl⟩
  have hFq : zFq f1 (id + 1) := by
    refine ⟨by rw [hf1, zu_self]; rfl, by rw [hf1, zu_self]; rfl, by rw [hf1, zu_ne _ _ (by omega)], fun k hk => ⟨by rw [hf1, zu_ne _ _ (by omega)], by rw [hf1, zu_ne _ _ (by omega)]⟩⟩
  have okA : ∀ sd sf, (v.p.dv 0).out sd → (sf = (fun _ _ => 0) ∨ sf = f1) → zOK P v.sets v.ways v.eps (v.p.na + 1) sd sf := by
    intro sd sf h0 h1
    rcases h1 with h1 | h1
    · refine h.ok h0 (Or.inl (fun k _ => ?_))
      rw [h1]
      show n32 (0 : Int32) < _
      have := h.hd.hid1; omega
    · have := h.ok h0 (sf := fun _ _ => 0) (Or.inl (fun k _ => by show n32 (0 : Int32) < _; have := h.hd.hid1; omega))
      obtain ⟨id', L, q1, q2, q3, q4, q5⟩ := this
      have hidd : id' = id := by
        have h2 := q1.hid
        rw [h.lo h0 (by omega), h.hd.hid, hid] at h2
        exact (iN_inj (by omega) (by omega) h2).symm
      subst hidd
      refine ⟨id', L, q1, q2, q3, q4, Or.inr (Or.inl ?_)⟩
      rw [h1]; exact hFq
  have pA : ZPh P (v.p.na + 1) (fun k => if k = 0 then fun sd => (v.p.dv 0).out sd else fun sf => sf = (fun _ _ => 0) ∨ sf = f1) v.newFlash := by
    refine ⟨h.up, h.sz, Nat.le_refl _, fun s hs => by rw [e0] at hs; exact hs, fun s hs => ?_, okA⟩
    left; rw [ZDv.out_nil e2 hs, e1]
  have s1 := pA.wr1 hP (b := 0) (x := zThree 1 (id + 1) 0) (fun s hs => by
    right
    rcases hs with hs | hs
    · rw [hs, hf1]
    · rw [hs, hf1, zu_zu])
  have hkw : ZKeep v v.newFlash := ⟨⟨⟨rfl, rfl, rfl, rfl, rfl⟩, rfl, rfl, rfl⟩, rfl, rfl, rfl, rfl⟩
  have hna0 : v.newFlash.p.na = v.p.na := rfl
  have s2 : ZOk P (fun u2 => ZPh P (v.p.na + 1) (fun k => if k = 0 then fun sd => (v.p.dv 0).out sd else fun sf => sf = f1) u2 ∧ ZKeep v u2 ∧ u2.fn = f1 ∧ u2.p.dv 0 = v.p.dv 0 ∧ (u2.p.dv 1).pd = [] ∧ v.p.na + 1 ≤ u2.p.na) ((v.newFlash.wr 1 0 (zThree 1 (id + 1) 0)).fl 1) := by
    refine s1.bindG (f := fun u => u.fl 1) (fun u => zfr_fl u 1) (fun u1 _ q => ?_)
    obtain ⟨q1, q2, q3, q4, q5⟩ := q
    have u1fn : u1.fn = f1 := by rw [q3, e4, hf1]
    refine (q1.fl1 hP).impG (fun u2 _ r => ?_)
    obtain ⟨r1, r2, r3, r4, r5, r6⟩ := r
    refine ⟨?_, (hkw.trans q2).trans r2, by rw [r3, u1fn], r5.trans (q4.trans e0), r4, by omega⟩
    refine r1.re r1.na (fun s hs => hs) (fun s hs => by have hs : s = u1.fn := hs; show s = f1; rw [hs, u1fn]) (fun sd sf h0 h1 => ?_)
    have h1 : sf = f1 := h1
    rw [r2.sets, r2.ways, r2.eps, q2.sets, q2.ways, q2.eps]
    exact okA sd sf h0 (Or.inr h1)
  have s3 : ZOk P (fun u3 => ZPh P (v.p.na + 2) (fun k => if k = 0 then fun sd => ∃ s', (v.p.dv 0).out s' ∧ (sd = s' ∨ sd = zu s' 0 (zThree (id + 1) 0 0)) else fun sf => sf = f1) u3 ∧ ZKeep v u3 ∧ u3.dn = zu v.dn 0 (zThree (id + 1) 0 0) ∧ u3.fn = f1 ∧ (u3.p.dv 1).pd = [] ∧ v.p.na + 1 ≤ u3.p.na) (((v.newFlash.wr 1 0 (zThree 1 (id + 1) 0)).fl 1).wr 0 0 (zThree (id + 1) 0 0)) := by
    refine s2.bindG (f := fun u => u.wr 0 0 (zThree (id + 1) 0 0)) (fun u => zfr_wr u 0 0 _) (fun u2 _ q => ?_)
    obtain ⟨q1, kk, u2fn, u2d0, u2pd, u2na⟩ := q
    have p2 : ZPh P (v.p.na + 2) (fun k => if k = 0 then fun sd => ∃ s', (v.p.dv 0).out s' ∧ (sd = s' ∨ sd = zu s' 0 (zThree (id + 1) 0 0)) else fun sf => sf = f1) u2 := by
      refine q1.re (by omega) (fun s hs => ⟨s, hs, Or.inl rfl⟩) (fun s hs => hs) (fun sd sf h0 h1 => ?_)
      have h1 : sf = f1 := h1
      subst h1
      rw [kk.sets, kk.ways, kk.eps]
      obtain ⟨s', hs', h0⟩ := h0
      rcases h0 with h0 | h0
      · subst h0; exact zOK_mono hP (by omega) (okA sd sf hs' (Or.inr rfl))
      · have hs1 : sd 1 = v.dn 1 := by rw [h0, zu_ne _ _ (by omega)]; exact h.lo hs' (by omega)
        have hzd : zDisc sd = zHome s' := by
          rw [zDisc_0 (by rw [hs1]; exact h.h0)]
          funext b; show sd (19 + b) = s' (19 + b); rw [h0, zu_ne _ _ (by omega)]
        refine zOK_disc (id := id + 1) (L := v.landed) ⟨by rw [h0, zu_self]; rfl, by omega, by rw [hs1]; exact h.hd.hL, fun hx => by rw [hs1] at hx; exact absurd hx h.h0⟩ (by omega) (by omega) (by omega) ?_ (Or.inr hFq)
        rw [hzd]; exact hP _ _ _ (by omega) (h.qp _ (h.q _ hs'))
    refine (p2.wr0 hP (b := 0) (x := zThree (id + 1) 0 0) (fun s hs => ?_)).impG (fun u3 _ t => ?_)
    · obtain ⟨s', hs', h0⟩ := hs
      refine ⟨s', hs', Or.inr ?_⟩
      rcases h0 with h0 | h0
      · rw [h0]
      · rw [h0, zu_zu]
    · obtain ⟨t1, t2, t3, t4, t5⟩ := t
      have h2dn : u2.dn = v.dn := by show (u2.p.dv 0).now = _; rw [u2d0]
      have h3fn : u3.fn = f1 := by show (u3.p.dv 1).now = _; rw [t4]; exact u2fn
      exact ⟨t1, kk.trans t2, by rw [t3, h2dn], h3fn, by rw [t4]; exact u2pd, by omega⟩
  have s4 : ZOk P (fun u4 => ZKeep v u4 ∧ u4.dn = zu v.dn 0 (zThree (id + 1) 0 0) ∧ u4.fn = f1 ∧ (u4.p.dv 0).pd = [] ∧ (u4.p.dv 1).pd = [] ∧ v.p.na + 1 ≤ u4.p.na) ((((v.newFlash.wr 1 0 (zThree 1 (id + 1) 0)).fl 1).wr 0 0 (zThree (id + 1) 0 0)).fl 0) := by
    refine s3.bindG (f := fun u => u.fl 0) (fun u => zfr_fl u 0) (fun u3 _ q => ?_)
    obtain ⟨q1, q2, q3, q4, q5, q6⟩ := q
    refine (q1.fl0 hP).impG (fun u4 _ r => ?_)
    obtain ⟨r1, r2, r3, r4, r5, r6⟩ := r
    have h4fn : u4.fn = f1 := by show (u4.p.dv 1).now = _; rw [r5]; exact q4
    exact ⟨q2.trans r2, by rw [r3, q3], h4fn, r4, by rw [r5]; exact q5, by omega⟩
  refine s4.fresh (fun u4 hup4 q => ?_)
  obtain ⟨k4, dn4, fn4, y4, r4, yna⟩ := q
  have d14 : u4.dn 1 = v.dn 1 := by rw [dn4, zu_ne _ _ (by omega)]
  have L4 : u4.landed = v.landed := by unfold ZVs.landed; rw [d14]
  have id4 : n32 (u4.dn 0 0) = id + 1 := by rw [dn4, zu_self]; exact n32_iN (by omega)
  have hH4 : ZHead u4.dn (id + 1) v.landed := ⟨by rw [dn4, zu_self]; rfl, by omega, by rw [d14]; exact h.hd.hL, fun hx => by rw [d14] at hx; exact absurd hx h.h0⟩
  have hz4 : zDisc u4.dn = v.cur := by
    rw [zDisc_0 (by rw [d14]; exact h.h0), h.cur]
    funext b; show u4.dn (19 + b) = v.dn (19 + b); rw [dn4, zu_ne _ _ (by omega)]
  have hPc : P (u4.p.na + 1) v.cur := by
    refine hP _ _ _ (by omega) (h.qp _ ?_)
    rw [h.cur]; exact h.q _ (ZDv.out_now _)
  have hcur : ∀ b, (zFresh u4).cur b = v.cur b := by
    intro b
    unfold ZVs.cur
    have hno : (zFresh u4).newest b = none := zNew_none.mpr (fun i _ hx => by have hx : 0 = b + 1 := hx; omega)
    rw [hno]
    show (if true = true then u4.dn (19 + b) else _) = _
    rw [if_pos rfl, h.wf]
    show u4.dn (19 + b) = v.dn (19 + b)
    rw [dn4, zu_ne _ _ (by omega)]
  refine ⟨Or.inl ⟨⟨⟨hup4, rfl, by show ZSz u4.sets u4.ways u4.eps; rw [k4.sets, k4.ways, k4.eps]; exact h.sz, y4, ?_, ?_, ?_, ?_, fun _ _ _ => rfl, fun _ _ => Nat.zero_le _, fun s _ hx => absurd rfl hx, fun s s' _ _ hx => absurd rfl hx, fun s _ hx => absurd rfl hx, ?_, ?_, ?_, ?_, ?_⟩, ?_, ?_⟩, rfl, fun V hV => ?_⟩, funext hcur⟩
  · show ZHead u4.dn (n32 (u4.dn 0 0)) u4.landed
    rw [id4, L4]; exact hH4
  · show u4.dn 1 0 ≠ 1
    rw [d14]; exact h.h0
  · show ZFl (P (u4.p.na + 1)) u4.sets u4.ways u4.eps u4.dn u4.fn (n32 (u4.dn 0 0)) u4.landed (u4.landed + 1) 0 1 0 (fun _ => 0) (fun _ => 0)
    rw [id4, fn4]
    exact zFq_fl hFq (by omega) (by omega) (by rw [hz4]; exact hPc)
  · show ∀ e ∈ (u4.p.dv 1).pd, _
    rw [r4]; intro e he; cases he
  · show (zDl (fun _ => 0) (u4.landed + 1) _).length ≤ 16
    have : ∀ n, zDl (fun _ => 0) (u4.landed + 1) n = [] := by
      intro n
      rw [List.eq_nil_iff_forall_not_mem]
      intro s hs
      have := mem_zDl.mp hs
      omega
    rw [this]; simp
  · intro set
    show 0 < u4.ways
    rw [k4.ways]; exact h.sz.w1
  · show n32 (u4.dn 0 0) ≤ u4.p.na + 1
    rw [id4]; omega
  · show u4.landed + 1 ≤ u4.p.na + 1
    rw [L4]; omega
  · show 1 ≤ u4.p.na + 1
    omega
  · intro k hk
    show n32 (u4.fn (25 * (1 - 0) + 1 + k) 0) ≤ 1
    rw [fn4]
    have := (hFq.2.2.2 k hk).2
    have e : 25 * (1 - 0) + 1 + k = 26 + k := by omega
    rw [e, this, n0]; omega
  · intro k hk hx
    exfalso
    have hx : n32 (u4.fn (25 * 0 + 1 + k) 0) = 1 := hx
    rw [fn4] at hx
    have := (hFq.2.2.2 k hk).1
    have e : 25 * 0 + 1 + k = 1 + k := by omega
    rw [e, this, n0] at hx; omega
  · subst hV
    rw [funext hcur]
    exact hPc
end
