/-! WHAT A REDOING LEAVES: the flash, the disc's identity -/
theorem zK1_wr {v : ZVs} (b : Nat) (x : ZBk) (h : (v.p.dv 1).pd = []) : ((v.wr 0 b x).p.dv 1).pd = [] ∧ (v.wr 0 b x).fn = v.fn := by
  cases hu : v.p.up with
  | false =>
    have e : v.wr 0 b x = v := by show v.s_p (v.p.wr 0 b x) = v; rw [ZPw.wr_down hu]; rfl
    rw [e]; exact ⟨h, rfl⟩
  | true =>
    rcases ZPw.wr_cases hu 0 b x with ⟨_, h2⟩ | ⟨_, h2⟩
    · have hd : ((v.wr 0 b x).p.dv 1) = (v.p.dv 1).go v.p.msk := by show (v.p.wr 0 b x).dv 1 = _; rw [h2]; rfl
      refine ⟨by rw [hd]; rfl, ?_⟩
      show ((v.wr 0 b x).p.dv 1).now = _
      rw [hd]; exact zgo_now h _
    · have hd : ((v.wr 0 b x).p.dv 1) = v.p.dv 1 := by
        show (v.p.wr 0 b x).dv 1 = _; rw [h2]; exact zu_ne v.p.dv ((v.p.dv 0).add b x) (show (1 : Nat) ≠ 0 by omega)
      refine ⟨by rw [hd]; exact h, ?_⟩
      show ((v.wr 0 b x).p.dv 1).now = _
      rw [hd]
theorem zK1_fl {v : ZVs} (h : (v.p.dv 1).pd = []) : ((v.fl 0).p.dv 1).pd = [] ∧ (v.fl 0).fn = v.fn := by
  cases hu : v.p.up with
  | false =>
    have e : v.fl 0 = v := by show v.s_p (v.p.fl 0) = v; rw [ZPw.fl_down hu]; rfl
    rw [e]; exact ⟨h, rfl⟩
  | true =>
    rcases ZPw.fl_cases hu 0 with ⟨_, h2⟩ | ⟨_, h2⟩
    · have hd : ((v.fl 0).p.dv 1) = (v.p.dv 1).go v.p.msk := by show (v.p.fl 0).dv 1 = _; rw [h2]; rfl
      refine ⟨by rw [hd]; rfl, ?_⟩
      show ((v.fl 0).p.dv 1).now = _
      rw [hd]; exact zgo_now h _
    · have hd : ((v.fl 0).p.dv 1) = v.p.dv 1 := by
        show (v.p.fl 0).dv 1 = _; rw [h2]; exact zu_ne v.p.dv (v.p.dv 0).flush (show (1 : Nat) ≠ 0 by omega)
      refine ⟨by rw [hd]; exact h, ?_⟩
      show ((v.fl 0).p.dv 1).now = _
      rw [hd]
/-- a block of the disc has nothing pending -/
def zNk (c : Nat) (v : ZVs) : Prop := ∀ e ∈ (v.p.dv 0).pd, e.1 ≠ c
theorem zNk_wr {c : Nat} {v : ZVs} (h : zNk c v) {b : Nat} (x : ZBk) (hb : b ≠ c) : zNk c (v.wr 0 b x) ∧ (v.wr 0 b x).dn c = v.dn c := by
  have hst : v.dn c = (v.p.dv 0).st c := zov_notin h
  cases hu : v.p.up with
  | false =>
    have e : v.wr 0 b x = v := by show v.s_p (v.p.wr 0 b x) = v; rw [ZPw.wr_down hu]; rfl
    rw [e]; exact ⟨h, rfl⟩
  | true =>
    rcases ZPw.wr_cases hu 0 b x with ⟨_, h2⟩ | ⟨_, h2⟩
    · have hd : ((v.wr 0 b x).p.dv 0) = (v.p.dv 0).go v.p.msk := by show (v.p.wr 0 b x).dv 0 = _; rw [h2]; rfl
      refine ⟨fun e he => ?_, ?_⟩
      · rw [hd] at he; exact absurd he (List.not_mem_nil)
      · show ((v.wr 0 b x).p.dv 0).now c = _
        rw [hd, hst]
        show zlost v.p.msk 0 (v.p.dv 0).st (v.p.dv 0).pd c = _
        exact zlost_notin h
    · have hd : ((v.wr 0 b x).p.dv 0) = (v.p.dv 0).add b x := by
        show (v.p.wr 0 b x).dv 0 = _; rw [h2]; exact zu_self v.p.dv 0 ((v.p.dv 0).add b x)
      refine ⟨fun e he => ?_, ?_⟩
      · rw [hd] at he
        rcases ZDv.mem_add he with he | he
        · exact h e he
        · rw [he]; exact hb
      · show ((v.wr 0 b x).p.dv 0).now c = _
        rw [hd, ZDv.now_add, zu_ne _ _ (fun hx => hb hx.symm)]
theorem zNk_fl {c : Nat} {v : ZVs} (h : zNk c v) : zNk c (v.fl 0) ∧ (v.fl 0).dn c = v.dn c := by
  have hst : v.dn c = (v.p.dv 0).st c := zov_notin h
  cases hu : v.p.up with
  | false =>
    have e : v.fl 0 = v := by show v.s_p (v.p.fl 0) = v; rw [ZPw.fl_down hu]; rfl
    rw [e]; exact ⟨h, rfl⟩
  | true =>
    rcases ZPw.fl_cases hu 0 with ⟨_, h2⟩ | ⟨_, h2⟩
    · have hd : ((v.fl 0).p.dv 0) = (v.p.dv 0).go v.p.msk := by show (v.p.fl 0).dv 0 = _; rw [h2]; rfl
      refine ⟨fun e he => ?_, ?_⟩
      · rw [hd] at he; exact absurd he (List.not_mem_nil)
      · show ((v.fl 0).p.dv 0).now c = _
        rw [hd, hst]
        show zlost v.p.msk 0 (v.p.dv 0).st (v.p.dv 0).pd c = _
        exact zlost_notin h
    · have hd : ((v.fl 0).p.dv 0) = (v.p.dv 0).flush := by
        show (v.p.fl 0).dv 0 = _; rw [h2]; exact zu_self v.p.dv 0 (v.p.dv 0).flush
      refine ⟨fun e he => ?_, ?_⟩
      · rw [hd] at he; exact absurd he (List.not_mem_nil)
      · show ((v.fl 0).p.dv 0).now c = _
        rw [hd]; rfl
theorem zredo_keep : ∀ (k j : Nat) (v : ZVs), (v.p.dv 1).pd = [] → zNk 0 v → ((ZVs.wrRedo k j v).p.dv 1).pd = [] ∧ (ZVs.wrRedo k j v).fn = v.fn ∧ zNk 0 (ZVs.wrRedo k j v) ∧ (ZVs.wrRedo k j v).dn 0 = v.dn 0 := by
  intro k
  induction k with
  | zero => intro j v h1 h2; exact ⟨h1, rfl, h2, rfl⟩
  | succ k ih =>
    intro j v h1 h2
    obtain ⟨a1, a2⟩ := zK1_wr (19 + n32 (v.dn 2 j)) (v.dn (3 + j)) h1
    obtain ⟨b1, b2⟩ := zNk_wr h2 (b := 19 + n32 (v.dn 2 j)) (v.dn (3 + j)) (by omega)
    obtain ⟨c1, c2, c3, c4⟩ := ih (j + 1) _ a1 b1
    exact ⟨c1, c2.trans a2, c3, c4.trans b2⟩
theorem zredo_same {v : ZVs} (h0 : (v.p.dv 0).pd = []) (h1 : (v.p.dv 1).pd = []) : v.redo.fn = v.fn ∧ v.redo.dn 0 = v.dn 0 := by
  unfold ZVs.redo
  split
  · exact ⟨rfl, rfl⟩
  · obtain ⟨a1, a2, a3, a4⟩ := zredo_keep (min 16 (n32 (v.dn 1 2))) 0 v h1 (fun e he => by rw [h0] at he; exact absurd he (List.not_mem_nil))
    obtain ⟨b1, b2⟩ := zK1_fl a1
    obtain ⟨b3, b4⟩ := zNk_fl a3
    obtain ⟨c1, c2⟩ := zK1_wr 1 (zThree 0 v.landed 0) b1
    obtain ⟨c3, c4⟩ := zNk_wr b3 (b := 1) (zThree 0 v.landed 0) (by omega)
    obtain ⟨d1, d2⟩ := zK1_fl c1
    obtain ⟨d3, d4⟩ := zNk_fl c3
    exact ⟨d2.trans (c2.trans (b2.trans a2)), d4.trans (c4.trans (b4.trans a4))⟩
/-! the slots that are taken -/
theorem takePairs_bd (r : ZBk) (e : Nat) (B : Nat) (he : e < B) : ∀ (k j : Nat) (v : ZVs), (∀ i, j ≤ i → i < j + k → n32 (r (5 + 2 * i)) < 106) → (∀ i, v.sb i ≤ 106 ∧ v.se i < B) → ∀ i, (ZVs.takePairs r e k j v).sb i ≤ 106 ∧ (ZVs.takePairs r e k j v).se i < B := by
  intro k
  induction k with
  | zero => intro j v _ h; exact h
  | succ k ih =>
    intro j v hb h
    unfold ZVs.takePairs
    refine ih (j + 1) _ (fun i i1 i2 => hb i (by omega) (by omega)) (fun i => ?_)
    have hj := hb j (Nat.le_refl _) (by omega)
    show zu v.sb _ _ i ≤ 106 ∧ zu v.se _ _ i < B
    by_cases hi : i = n32 (r (4 + 2 * j))
    · rw [hi, zu_self, zu_self]; exact ⟨by omega, he⟩
    · rw [zu_ne _ _ hi, zu_ne _ _ hi]; exact h i
theorem takeRecs_bd (h : Nat) (B : Nat) : ∀ (c k : Nat) (v : ZVs), (∀ k', k' < 24 → n32 (v.fn (25 * h + 1 + k') 0) = v.gen → v.landed < n32 (v.fn (25 * h + 1 + k') 1) → ZVs.hasLast v.fn h v.gen (n32 (v.fn (25 * h + 1 + k') 1)) → n32 (v.fn (25 * h + 1 + k') 1) < B ∧ ∀ i, i < n32 (v.fn (25 * h + 1 + k') 3) → n32 (v.fn (25 * h + 1 + k') (5 + 2 * i)) < 106) → k + c = 24 → (∀ i, v.sb i ≤ 106 ∧ v.se i < B) → ∀ i, (ZVs.takeRecs h c k v).sb i ≤ 106 ∧ (ZVs.takeRecs h c k v).se i < B := by
  intro c
  induction c with
  | zero => intro k v _ _ h2; exact h2
  | succ c ih =>
    intro k v hr hk hv
    unfold ZVs.takeRecs
    dsimp only
    by_cases hc : n32 (v.fn (25 * h + 1 + k) 0) = v.gen ∧ v.landed < n32 (v.fn (25 * h + 1 + k) 1) ∧ ZVs.hasLast v.fn h v.gen (n32 (v.fn (25 * h + 1 + k) 1))
    · rw [if_pos hc]
      obtain ⟨r1, r2⟩ := hr k (by omega) hc.1 hc.2.1 hc.2.2
      obtain ⟨z1, z2, z3, z4, z5, z6⟩ := zfr_takePairs (v.fn (25 * h + 1 + k)) (n32 (v.fn (25 * h + 1 + k) 1)) (n32 (v.fn (25 * h + 1 + k) 3)) 0 (v.s_opn (max v.opn (n32 (v.fn (25 * h + 1 + k) 1) + 1)))
      have hb := takePairs_bd (v.fn (25 * h + 1 + k)) _ B r1 (n32 (v.fn (25 * h + 1 + k) 3)) 0 (v.s_opn (max v.opn (n32 (v.fn (25 * h + 1 + k) 1) + 1))) (fun i _ i2 => r2 i (by omega)) hv
      have key : ∀ x : ZVs, x.p = v.p → x.gen = v.gen → (∀ i, x.sb i ≤ 106 ∧ x.se i < B) → ∀ i, (ZVs.takeRecs h c (k + 1) x).sb i ≤ 106 ∧ (ZVs.takeRecs h c (k + 1) x).se i < B := by
        intro x x1 x2 x3
        have xf : x.fn = v.fn := by show (x.p.dv 1).now = _; rw [x1]
        have xl : x.landed = v.landed := by show n32 ((x.p.dv 0).now 1 1) = n32 ((v.p.dv 0).now 1 1); rw [x1]
        exact ih (k + 1) x (by rw [xf, xl, x2]; exact hr) (by omega) x3
      exact key _ z2 z3 hb
    · rw [if_neg hc]
      exact ih (k + 1) v hr (by omega) hv
/-- a record that counts lies before the open epoch, and it is true -/
theorem zfl_rec {P : ZSt → Prop} {sets ways eps id L opn H g : Nat} {sd sf : ZSt} {sb se : Nat → Nat} (hf : ZFl P sets ways eps sd sf id L opn H g 24 sb se) (k : Nat) (hk : k < 24) (h0 : n32 (sf (25 * H + 1 + k) 0) = g) (h1 : L < n32 (sf (25 * H + 1 + k) 1)) (h2 : ZVs.hasLast sf H g (n32 (sf (25 * H + 1 + k) 1))) : n32 (sf (25 * H + 1 + k) 1) < opn ∧ zTrue (sets * ways) sb se (sf (25 * H + 1 + k)) := by
  rcases (hf.ha k hk).2 h0 with q | q | q
  · omega
  · exact q
  · exfalso
    obtain ⟨k', k1, k2, k3, k4⟩ := h2
    rcases (hf.ha k' k1).2 k2 with p | p | p
    · omega
    · omega
    · exact p.2 k4
/-- what the taking of a half leaves is within the rows, whatever the power does -/
theorem ztake_mem {P : ZSt → Prop} {v : ZVs} {id L opn H g : Nat} {sb se : Nat → Nat} (sz : ZSz v.sets v.ways v.eps) (hf : ZFl P v.sets v.ways v.eps v.dn v.fn id L opn H g 24 sb se) (hL : v.landed = L) (hg2 : g < 2147483648) (ho : opn < 2147483648) : zMm (ZVs.takeHalf H v.noSlots) ∧ (ZVs.takeHalf H v.noSlots).opn - ((ZVs.takeHalf H v.noSlots).landed + 1) ≤ 8 ∧ (ZVs.takeHalf H v.noSlots).opn ≤ opn := by
  have hg : n32 (v.fn (25 * H) 0) = g := by rw [hf.hg]; exact n32_iN hg2
  obtain ⟨u, hu⟩ : ∃ u, u = ZVs.mk v.noSlots.p v.noSlots.sets v.noSlots.ways v.noSlots.eps v.noSlots.wf v.noSlots.sb v.noSlots.se v.noSlots.mrk v.noSlots.hd (v.noSlots.landed + 1) H g v.noSlots.plc := ⟨_, rfl⟩
  have hsp : ZVs.takeHalf H v.noSlots = ZVs.takeRecs H 24 0 u := by
    unfold ZVs.takeHalf; rw [hu]
    show ZVs.takeRecs H 24 0 (ZVs.mk _ _ _ _ _ _ _ _ _ _ _ (n32 (v.fn (25 * H) 0)) _) = _
    rw [hg]
  have hlt := hf.hLo
  have hz := zfr_takeHalf H v.noSlots
  have ul : u.landed = L := by rw [hu]; exact hL
  have uf : u.fn = v.fn := by rw [hu]; rfl
  have ug : u.gen = g := by rw [hu]; rfl
  have sp := takeRecs_spec hf sz.n64 24 0 u rfl uf ug ul (fun s _ => Or.inl (by rw [hu]; exact ⟨rfl, rfl⟩)) (by rw [hu]; show L < v.landed + 1; omega) (by rw [hu]; show v.landed + 1 ≤ opn; omega) (fun k' hk' => by omega)
  have bd := takeRecs_bd H opn 24 0 u (by
    rw [uf, ug, ul]
    intro k' hk' x1 x2 x3
    obtain ⟨y1, y2⟩ := zfl_rec hf k' hk' x1 x2 x3
    refine ⟨y1, fun i hi => ?_⟩
    obtain ⟨s, b, _, c2, _, c4, _⟩ := y2.2 i hi
    rw [c2, n32_iN (by omega)]; exact c4) (by omega) (by rw [hu]; exact fun i => ⟨Nat.zero_le _, by show 0 < opn; omega⟩)
  rw [← hsp] at sp bd
  obtain ⟨w, hw⟩ : ∃ w, w = ZVs.takeHalf H v.noSlots := ⟨_, rfl⟩
  rw [← hw] at sp bd hz ⊢
  obtain ⟨s1, s2, s3, _⟩ := sp
  have wn : w.n = v.sets * v.ways := by show w.sets * w.ways = _; rw [hz.1.s, hz.1.w]; rfl
  have wl : w.landed = L := by
    show n32 ((w.p.dv 0).now 1 1) = L
    rw [hz.2.1]; exact hL
  have hE := hf.hE
  have he8 := sz.e8
  refine ⟨⟨⟨by rw [hz.1.s, hz.1.w, hz.1.e]; exact sz, fun i _ => ?_, by omega⟩, fun i hi h0 => ?_, fun e e0 e1 => ⟨fun i j hi hj x1 x2 x3 => ?_, ?_⟩, fun set => ?_⟩, by omega, s2⟩
  · have := bd i; omega
  · rcases s1 i (by rw [← wn]; exact hi) with q | ⟨q1, q2, q3⟩
    · omega
    · have hlt2 := (bd i).2
      have := hf.tb i (by rw [← wn]; exact hi) q3 (by omega)
      rw [q2]; exact ⟨this.2.1, this.2.2.1⟩
  · rcases s1 i (by rw [← wn]; exact hi) with q | ⟨q1, q2, q3⟩
    · omega
    · rcases s1 j (by rw [← wn]; exact hj) with p | ⟨p1, p2, p3⟩
      · omega
      · have hlt2 := (bd i).2
        exact hf.tu i j (by rw [← wn]; exact hi) (by rw [← wn]; exact hj) q3 (by omega) (by omega) (by rw [← q2, ← p2]; exact x3)
  · show (zDl w.se e w.n).length ≤ 16
    rw [wn]
    refine Nat.le_trans (zDl_sub (fun i hi hx => ?_)) (hf.tc e e0 (by omega))
    rcases s1 i hi with q | ⟨q1, q2, q3⟩
    · omega
    · rw [← q1]; exact hx
  · rw [hz.2.2.2.2, hz.1.w]; exact sz.w1
theorem zloadTi {W : ZSt → Prop} (hW : ∀ T T', (∀ b, 29 ≤ b → T b = T' b) → W T → W T') {v : ZVs} (h : ZIv (zGood W) (fun V => V = v.cur) v) (hn : v.p.na + 1000000 < 2147483648) : ∃ j, ZTi W ((zLoad v).s_jr j) := by
  obtain ⟨s0, cs, g1, g2, g3, g4, g5, g6⟩ := h.qp _ h.q
  have hl := zCh_len g4 (by omega)
  have hg := zLen_ge g4
  have hs0 : n32 (v.cur 0 0) = s0 := by rw [g1]; exact n32_iN (by omega)
  obtain ⟨r1, r2, r3⟩ := zRep_eq (c := 28) (kt := fun _ => false) (kp := fun _ _ => 0) g4 g5 (Nat.le_refl _) (by omega) (by omega)
  rw [← hs0] at r1 r2 r3
  have hkt : ∀ b, (zLoad v).kt b = true ↔ ∃ e ∈ zPr v.cur 1 cs, e.1 = b := by
    intro b
    show (zRep v.cur 28 1 (n32 (v.cur 0 0)) (fun _ => false) (fun _ _ => 0)).2.1 b = true ↔ _
    rw [r2 b]
    constructor
    · rintro (h | h)
      · cases h
      · exact h
    · exact fun h => Or.inr h
  have hkp : ∀ b, (zLoad v).kt b = true → (zLoad v).kp b = zov v.cur (zPr v.cur 1 cs) b := by
    intro b hb
    obtain ⟨e, he, hx⟩ := (hkt b).mp hb
    show (zRep v.cur 28 1 (n32 (v.cur 0 0)) (fun _ => false) (fun _ _ => 0)).2.2 b = _
    rw [r3]
    exact zov_agree (fun hn => absurd hx (hn e he))
  have hsq : (zLoad v).sq = s0 + cs.length := by
    show (zRep v.cur 28 1 (n32 (v.cur 0 0)) (fun _ => false) (fun _ _ => 0)).1 = _
    rw [r1, hs0]
  have hwd : (zLoad v).wd = zTc (zLoad v) := rfl
  have hch : ∀ b, (zLoad v).ch b = false := fun _ => rfl
  have htv : (zLoad v).tv = v := rfl
  have hjr : (zLoad v).jr = 1 := rfl
  have key : ∀ t : ZTs, t.tv = v → (∀ b, t.kt b = true ↔ ∃ e ∈ zPr v.cur 1 cs, e.1 = b) → (∀ b, t.kt b = true → t.kp b = zov v.cur (zPr v.cur 1 cs) b) → t.sq = s0 + cs.length → t.wd = zTc t → (∀ b, t.ch b = false) → t.jr = 1 → ∃ j, ZTi W (t.s_jr j) := by
    intro t e1 e2 e3 e4 e5 e6 e7
    subst e1
    -- the same with the journal's true end
    have hi : ZTi W (ZTs.s_jr t (1 + zLen cs)) := by
      have hj : ZJn t.tv.cur s0 t.sq (1 + zLen cs) cs := ⟨g1, g2, g4, e4, rfl, by rw [e4]; exact g5⟩
      have htc : zTc t = zov t.tv.cur (zPr t.tv.cur 1 cs) := by
        funext b
        unfold zTc
        split
        · rename_i h; exact e3 b h
        · rename_i h
          rw [zov_notin]
          intro e he hx
          exact h ((e2 b).mpr ⟨e, he, hx⟩)
      refine ⟨h, ⟨s0, cs, hj, e2, e3⟩, ?_, ?_, fun b _ _ => ?_, fun b hb => ?_, ?_, ?_⟩
      · show W (zTc t); rw [htc]; exact g6
      · show W t.wd; rw [e5, htc]; exact g6
      · show t.wd b = zTc t b; rw [e5]
      · have hb : t.ch b = true := hb
        rw [e6] at hb; cases hb
      · show (zCl t.ch).length ≤ 12
        have : zCl t.ch = [] := by
          rw [List.eq_nil_iff_forall_not_mem]; intro b hb
          have := (mem_zCl.mp hb).2
          rw [e6] at this; cases this
        rw [this]; simp
      · show t.sq ≤ t.tv.p.na + 1
        omega
    exact ⟨_, hi⟩
  exact key _ htv hkt hkp hsq hwd hch hjr
/-! MOUNT (the reference) -/
def zPon (p : ZPw) (n : Int32) (mask : Int64) : ZPw := ZPw.mk p.dv true (if 0 < n then n32 n else p.lim) (if 0 < n then mask else p.msk) p.na
def zMv0 (v : ZVs) (f : Bool) (n : Int32) (mask : Int64) : ZVs := ZVs.mk (zPon v.p n mask) v.sets v.ways v.eps f v.sb v.se v.mrk v.hd v.opn v.half v.gen v.plc
noncomputable def zMv1 (v : ZVs) (f : Bool) (h : Nat) (n : Int32) (mask : Int64) : ZVs := if f = true then ZVs.openFlash h (zMv0 v f n mask) else (zMv0 v f n mask).openDisc
/-- what a mount leaves of the reference -/
def zMr (t : px_W) (s0 : px_S) (v1 : ZVs) (r : px_Res) : Prop := (v1.p.up = true ∧ ∃ s', r = (.inl (some (.int (if (zLoad v1).home.tv.p.up = true then zClosed (zLoad v1).home.tv else -9))), s', t) ∧ zRt s' (zLoad v1).home ∧ zMm (zLoad v1).home.tv ∧ zFt s0 s') ∨ (v1.p.up = false ∧ ∃ s', r = (.inl (some (.int (-9))), s', t) ∧ zRv s' v1 ∧ zMm v1 ∧ zFt s0 s')
theorem m_mtail {W : ZSt → Prop} (hW : ∀ T T', (∀ b, 29 ≤ b → T b = T' b) → W T → W T') (K : px_K) (N : Nat) (hN : 2000 ≤ N) (hK : zKm K) (t43 : px_W) (s0 s42 : px_S) (v1 : ZVs) (h : zRv s42 v1) (hm : zMm v1) (ha : v1.p.up = true → ZIv (zGood W) (fun V => V = v1.cur) v1) (hn : v1.p.na + 1000000 < 2147483648) (hf : zFt s0 s42) : wp (if (s42.1 29) = 0 then (if (s42.1 29) = 0 then (px_bi (f_M_closed_28 K N s42 t43) (fun v52 s49 t50 => (px_bi (f_M_answer_28 K N v52 s49 t50) (fun v57 s54 t55 => (some (.inl (some (.int v57)), s54, t55))) (fun x58 s54 t55 => none))) (fun x53 s49 t50 => none)) else (px_bv (f_M_bringHome_28 K N s42 t43) (fun s59 t60 => (px_bi (f_M_closed_28 K N s59 t60) (fun v67 s64 t65 => (px_bi (f_M_answer_28 K N v67 s64 t65) (fun v72 s69 t70 => (some (.inl (some (.int v72)), s69, t70))) (fun x73 s69 t70 => none))) (fun x68 s64 t65 => none))) (fun x63 s59 t60 => none))) else (px_bv (f_M_loadsTree_28 K N s42 t43) (fun s74 t75 => (if (s74.1 29) = 0 then (px_bi (f_M_closed_28 K N s74 t75) (fun v83 s80 t81 => (px_bi (f_M_answer_28 K N v83 s80 t81) (fun v88 s85 t86 => (some (.inl (some (.int v88)), s85, t86))) (fun x89 s85 t86 => none))) (fun x84 s80 t81 => none)) else (px_bv (f_M_bringHome_28 K N s74 t75) (fun s90 t91 => (px_bi (f_M_closed_28 K N s90 t91) (fun v98 s95 t96 => (px_bi (f_M_answer_28 K N v98 s95 t96) (fun v103 s100 t101 => (some (.inl (some (.int v103)), s100, t101))) (fun x104 s100 t101 => none))) (fun x99 s95 t96 => none))) (fun x94 s90 t91 => none)))) (fun x78 s74 t75 => none))) (zMr t43 s0 v1) := by
  cases hu : v1.p.up with
  | false =>
    have e29 : s42.1 29 = 0 := (zRw_up h.1).mpr hu
    refine wp_if e29 (wp_if e29 (wp_bi (m_closed K N hN hK t43 s42 v1 h) (wp_bi (m_answer K N t43 s42 _ h.1 _) ?_)))
    rw [hu, if_neg Bool.noConfusion]
    exact wp_some (Or.inr ⟨hu, s42, rfl, h, hm, hf⟩)
  | true =>
    have hiv := ha hu
    have e29 : ¬ s42.1 29 = 0 := fun hx => by have := (zRw_up h.1).mp hx; rw [hu] at this; cases this
    obtain ⟨s1, a1, a2, a3⟩ := m_loads (W := W) K N hN hK t43 s42 v1 h hm.1 (v1.p.na + 1) (by omega) (hiv.qp _ rfl)
    refine wp_ifn e29 (wp_bv a1 ?_)
    have htv : (zLoad v1).tv = v1 := rfl
    have e29b : ¬ s1.1 29 = 0 := fun hx => by have := (zRw_up a2.1.1).mp hx; rw [htv, hu] at this; cases this
    refine wp_ifn e29b ?_
    obtain ⟨jj, hti⟩ := zloadTi hW hiv hn
    obtain ⟨s2, b1, b2, b3, b4⟩ := m_home hW K N hN hK t43 s1 (zLoad v1) a2 hm (jj := jj) (Or.inl ⟨hu, hti⟩) hn
    refine wp_bv b1 (wp_bi (m_closed K N hN hK t43 s2 _ b2.1) (wp_bi (m_answer K N t43 s2 _ b2.1.1 _) (wp_some (Or.inl ⟨hu, s2, rfl, b2, b3, zFt_trans hf (zFt_trans a3 b4)⟩))))
theorem zMm_no {v : ZVs} (hz : ZSz v.sets v.ways v.eps) (ho : v.opn < 2147483648) : zMm v.noSlots := by
  refine ⟨⟨hz, fun i _ => ⟨by show 0 < 2147483648; omega, by show 0 < 2147483648; omega⟩, ho⟩, fun i _ h0 => ?_, fun e e0 _ => ⟨fun i j _ _ x1 => ?_, ?_⟩, fun set => hz.w1⟩
  · have h0 : 0 < 0 := h0
    omega
  · have x1 : 0 = e := x1
    omega
  · show (zDl (fun _ => 0) e _).length ≤ 16
    have : zDl (fun _ => 0) e v.noSlots.n = [] := by
      rw [List.eq_nil_iff_forall_not_mem]; intro s hs
      have := (mem_zDl.mp hs).2
      omega
    rw [this]; exact Nat.zero_le _
/-- after the redoing: the slots are taken or left, a head is written -/
theorem m_mbody {W : ZSt → Prop} (hW : ∀ T T', (∀ b, 29 ≤ b → T b = T' b) → W T → W T') (K : px_K) (N : Nat) (hN : 2000 ≤ N) (hK : zKm K) (t4 : px_W) (s0 s13 : px_S) (v0 : ZVs) (h : zRv s13 v0) (up : v0.p.up = true) (sz : ZSz v0.sets v0.ways v0.eps) (p0 : (v0.p.dv 0).pd = []) (p1 : (v0.p.dv 1).pd = []) (ok : zOK (zGood W) v0.sets v0.ways v0.eps (v0.p.na + 1) v0.dn v0.fn) (hn : v0.p.na + 2000000 < 2147483648) (hf : zFt s0 s13) (v6 : Int32) (h0 : Nat) (hv6 : v0.wf = true → v6 = iN h0 ∧ v0.good = some h0) (a0 : Int32) (ha0 : a0 = bN v0.wf) (ho : v0.wf = false → v0.opn < 2147483648) : wp (px_bv (f_M_redo_28 K N s13 t4) (fun s16 t17 => (px_bv (f_M_noSlots_28 K N s16 t17) (fun s21 t22 => (if a0 = 0 then (px_bi (f_M_read_28 K N (0 : Int32) (0 : Int32) (0 : Int32) s21 t22) (fun v30 s27 t28 => (px_bv (f_M_three_28_43 K N (v30 + (1 : Int32)) (0 : Int32) (0 : Int32) s27 t28) (fun s32 t33 => (px_bv (f_M_write_28_43 K N (0 : Int32) (0 : Int32) (0 : Int32) s32 t33) (fun s37 t38 => (px_bv (f_M_flush_28 K N (0 : Int32) s37 t38) (fun s42 t43 => (if (s42.1 29) = 0 then (if (s42.1 29) = 0 then (px_bi (f_M_closed_28 K N s42 t43) (fun v52 s49 t50 => (px_bi (f_M_answer_28 K N v52 s49 t50) (fun v57 s54 t55 => (some (.inl (some (.int v57)), s54, t55))) (fun x58 s54 t55 => none))) (fun x53 s49 t50 => none)) else (px_bv (f_M_bringHome_28 K N s42 t43) (fun s59 t60 => (px_bi (f_M_closed_28 K N s59 t60) (fun v67 s64 t65 => (px_bi (f_M_answer_28 K N v67 s64 t65) (fun v72 s69 t70 => (some (.inl (some (.int v72)), s69, t70))) (fun x73 s69 t70 => none))) (fun x68 s64 t65 => none))) (fun x63 s59 t60 => none))) else (px_bv (f_M_loadsTree_28 K N s42 t43) (fun s74 t75 => (if (s74.1 29) = 0 then (px_bi (f_M_closed_28 K N s74 t75) (fun v83 s80 t81 => (px_bi (f_M_answer_28 K N v83 s80 t81) (fun v88 s85 t86 => (some (.inl (some (.int v88)), s85, t86))) (fun x89 s85 t86 => none))) (fun x84 s80 t81 => none)) else (px_bv (f_M_bringHome_28 K N s74 t75) (fun s90 t91 => (px_bi (f_M_closed_28 K N s90 t91) (fun v98 s95 t96 => (px_bi (f_M_answer_28 K N v98 s95 t96) (fun v103 s100 t101 => (some (.inl (some (.int v103)), s100, t101))) (fun x104 s100 t101 => none))) (fun x99 s95 t96 => none))) (fun x94 s90 t91 => none)))) (fun x78 s74 t75 => none)))) (fun x46 s42 t43 => none))) (fun x41 s37 t38 => none))) (fun x36 s32 t33 => none))) (fun x31 s27 t28 => none)) else (px_bv (f_M_takesHalf_28 K N v6 s21 t22) (fun s105 t106 => (px_bv (f_M_changeHalves_28 K N s105 t106) (fun s110 t111 => (if (s110.1 29) = 0 then (if (s110.1 29) = 0 then (px_bi (f_M_closed_28 K N s110 t111) (fun v120 s117 t118 => (px_bi (f_M_answer_28 K N v120 s117 t118) (fun v125 s122 t123 => (some (.inl (some (.int v125)), s122, t123))) (fun x126 s122 t123 => none))) (fun x121 s117 t118 => none)) else (px_bv (f_M_bringHome_28 K N s110 t111) (fun s127 t128 => (px_bi (f_M_closed_28 K N s127 t128) (fun v135 s132 t133 => (px_bi (f_M_answer_28 K N v135 s132 t133) (fun v140 s137 t138 => (some (.inl (some (.int v140)), s137, t138))) (fun x141 s137 t138 => none))) (fun x136 s132 t133 => none))) (fun x131 s127 t128 => none))) else (px_bv (f_M_loadsTree_28 K N s110 t111) (fun s142 t143 => (if (s142.1 29) = 0 then (px_bi (f_M_closed_28 K N s142 t143) (fun v151 s148 t149 => (px_bi (f_M_answer_28 K N v151 s148 t149) (fun v156 s153 t154 => (some (.inl (some (.int v156)), s153, t154))) (fun x157 s153 t154 => none))) (fun x152 s148 t149 => none)) else (px_bv (f_M_bringHome_28 K N s142 t143) (fun s158 t159 => (px_bi (f_M_closed_28 K N s158 t159) (fun v166 s163 t164 => (px_bi (f_M_answer_28 K N v166 s163 t164) (fun v171 s168 t169 => (some (.inl (some (.int v171)), s168, t169))) (fun x172 s168 t169 => none))) (fun x167 s163 t164 => none))) (fun x162 s158 t159 => none)))) (fun x146 s142 t143 => none)))) (fun x114 s110 t111 => none))) (fun x109 s105 t106 => none)))) (fun x25 s21 t22 => none))) (fun x20 s16 t17 => none)) (zMr t4 s0 (if v0.wf = true then ZVs.openFlash h0 v0 else v0.openDisc)) := by
  have hP := zGood_mono W
  have okk := ok
  obtain ⟨id, L, r1, r2, r3, r4, r5⟩ := okk
  have hLv : v0.landed = L := r1.L_eq (by omega)
  have hL : v0.dn 1 1 = iN v0.landed := by rw [hLv]; exact r1.hL
  obtain ⟨s1, a1, a2, a3⟩ := m_redo K N hN hK t4 s13 v0 h p0 hL r1.hh
  refine wp_bv a1 ?_
  have hrd := zredo hP up sz p0 p1 ok (by omega)
  have hfr := (zfr_redo v0).1
  obtain ⟨k1, k2⟩ := zredo_same p0 p1
  have hgood : v0.redo.good = v0.good := by
    unfold ZVs.good; rw [k1, k2]
  obtain ⟨u, hu⟩ : ∃ u, u = v0.redo := ⟨_, rfl⟩
  have hopF : ZVs.openFlash h0 v0 = (ZVs.takeHalf h0 u.noSlots).changeHalves := by unfold ZVs.openFlash; rw [hu]
  have hopD : v0.openDisc = (u.noSlots.wr 0 0 (zThree (n32 (u.noSlots.dn 0 0) + 1) 0 0)).fl 0 := by unfold ZVs.openDisc; rw [hu]
  have hiF : v0.wf = true → ZOk (zGood W) (fun u => ZIv (zGood W) (fun V => V = u.cur) u) (ZVs.openFlash h0 v0) := fun hw => zopenFlash hP up hw sz p0 p1 ok (by omega) (hv6 hw).2
  have hiD : v0.wf = false → ZOk (zGood W) (fun u => ZIv (zGood W) (fun V => V = u.cur) u) v0.openDisc := fun hw => zopenDisc hP up hw sz p0 p1 ok (by omega)
  have hnF := (zfr_openFlash h0 v0).n2
  have hnD := (zfr_openDisc v0).n2
  rw [hopF] at hiF hnF ⊢
  rw [hopD] at hiD hnD ⊢
  rw [← hu] at a2 hrd hfr hgood
  have hsu : ZSz u.sets u.ways u.eps := hfr.sz sz
  -- what the disc and the flash hold now
  have hnow : zOK (zGood W) u.sets u.ways u.eps (u.p.na + 1) u.dn u.fn ∧ (u.p.dv 0).pd = [] := by
    rcases hrd with ⟨_, q⟩ | q
    · exact ⟨q.2.2.2.1, q.2.1⟩
    · refine ⟨?_, q.pd 0 (by omega)⟩
      have e1 : u.dn = (u.p.dv 0).st := ZDv.now_nil (q.pd 0 (by omega))
      have e2 : u.fn = (u.p.dv 1).st := ZDv.now_nil (q.pd 1 (by omega))
      rw [e1, e2]; exact q.ok
  obtain ⟨ok2, p02⟩ := hnow
  have hna := hfr.n2
  have okk := ok2
  obtain ⟨id', L', r1', r2', r3', r4', r5'⟩ := okk
  have hLu : u.landed = L' := r1'.L_eq (by omega)
  have hLu2 : u.dn 1 1 = iN u.landed := by rw [hLu]; exact r1'.hL
  have hidu : u.dn 0 0 = iN (n32 (u.dn 0 0)) := by rw [r1'.id_eq (by omega)]; exact r1'.hid
  obtain ⟨q1, q2, q3, q4, q5, q6, q7, q8, q9, q10⟩ := a2.2
  obtain ⟨s2, b1, b2, b3⟩ := m_noSlots K N (by omega) hK t4 s1 u ⟨q1, q2, q3, q4, q5, q6, q7, q8⟩
  refine wp_bv b2 ?_
  have h2 : zRv s2 u.noSlots := ⟨zRw_fs a2.1 b1, b3⟩
  have f2 : zFt s0 s2 := zFt_trans hf (zFt_trans (zFt_fv a3) (zFt_fv (zFv_fs b1)))
  cases hw : v0.wf with
  | false =>
    rw [hw] at ha0
    rw [if_neg (c := false = true) Bool.noConfusion]
    refine wp_if (by rw [ha0]; rfl) ?_
    have hrd0 := m_read K N (by omega) hK t4 s2 u.noSlots.p.dv h2.1.1 0 0 0 (by omega) (by show 0 < 125; omega) (by omega)
    rw [show (u.noSlots.p.dv 0).now 0 0 = iN (n32 (u.dn 0 0)) from hidu] at hrd0
    refine wp_bi hrd0 ?_
    have e1 : iN (n32 (u.dn 0 0)) + (1 : Int32) = iN (n32 (u.noSlots.dn 0 0) + 1) := by rw [iL1, iN_add]; rfl
    rw [e1]
    obtain ⟨s3, c1, c2, ⟨g, c3⟩, c4⟩ := m_th43 K N hN hK t4 h2 (n32 (u.noSlots.dn 0 0) + 1) 0 0
    refine wp_bv c1 ?_
    refine m_head K N hN hK t4 c2 0 0 _ (by omega) (by show 0 < 125; omega) c4 ?_
    intro s4 h4 k4
    have f4 : zFt s0 s4 := zFt_trans f2 (zFt_trans (by rw [c3]; exact zFt_sF (by omega)) (zFt_fv k4))
    have hmm : zMm ((u.noSlots.wr 0 0 (zThree (n32 (u.noSlots.dn 0 0) + 1) 0 0)).fl 0) := by
      have ho' : u.opn < 2147483648 := by
        have e : u.opn = v0.opn := by rw [hu]; exact (zfr_redo v0).2.opn
        rw [e]; exact ho hw
      exact zMm_sm (zMm_no hsu ho') rfl rfl rfl rfl rfl rfl rfl
    have hiD := hiD hw
    obtain ⟨v1, hv1⟩ : ∃ v1, v1 = (u.noSlots.wr 0 0 (zThree (n32 (u.noSlots.dn 0 0) + 1) 0 0)).fl 0 := ⟨_, rfl⟩
    rw [← hv1] at h4 hmm hiD hnD ⊢
    refine m_mtail hW K N hN hK t4 s0 s4 v1 h4 hmm (fun hx => ?_) (by omega) f4
    rcases hiD with ⟨_, q⟩ | q
    · exact q
    · rw [q.up] at hx; cases hx
  | true =>
    rw [hw] at ha0
    obtain ⟨e6, hg0⟩ := hv6 hw
    rw [if_pos (c := true = true) rfl]
    refine wp_ifn (by rw [ha0]; decide) ?_
    rw [e6]
    obtain ⟨id2, L2, opn, g, sb, se, y1, y2, y3, y4, y5, y6, y7⟩ := zgood (m := u.p.na + 1) (by omega) ok2 (by rw [hgood]; exact hg0)
    have hL2 : u.landed = L2 := y1.L_eq (by omega)
    have hHlt := y7.hH
    have hmm := ztake_mem hsu y7 hL2 (by omega) (by omega)
    obtain ⟨s3, c1, c2, c3⟩ := m_takesHalf K N hN hK t4 h0 hHlt s2 u.noSlots h2 g y7.hg y7.hg1 (by omega) hLu2 (by show u.landed < _; omega) (fun k hk x1 x2 x3 => by
      have x2 : L2 < n32 (u.fn (25 * h0 + 1 + k) 1) := by rw [← hL2]; exact x2
      obtain ⟨z1, z2⟩ := zfl_rec y7 k hk x1 x2 x3
      refine ⟨⟨z2.1, fun j hj => ?_⟩, ?_⟩
      · obtain ⟨q, b, w1, w2, w3, w4, _⟩ := z2.2 j hj
        exact ⟨q, b, w1, w2, by have := hsu.n64; omega, w4⟩
      · have z1 : n32 (u.fn (25 * h0 + 1 + k) 1) < opn := z1
        show n32 (u.fn (25 * h0 + 1 + k) 1) < _
        omega)
    refine wp_bv c1 ?_
    obtain ⟨z1, z2, z3, z4, z5⟩ := zfr_takeHalf h0 u.noSlots
    obtain ⟨w, hw'⟩ : ∃ w, w = ZVs.takeHalf h0 u.noSlots := ⟨_, rfl⟩
    have hiF := hiF hw
    rw [← hw'] at c2 hmm z1 z2 z4 hiF hnF ⊢
    have wd : w.dn = u.dn := by show (w.p.dv 0).now = _; rw [z2]; rfl
    have wl : w.landed = u.landed := by show n32 (w.dn 1 1) = n32 (u.dn 1 1); rw [wd]
    obtain ⟨s4, d1, d2, d3⟩ := m_half K N hN hK t4 s3 w c2 hmm.1.1 (by rw [z4]; exact hHlt) (by rw [z2]; exact p02) (by rw [wd]; exact hidu) (by rw [wd, wl]; exact hLu2) hmm.2.1 (fun q hq h0 => (hmm.1.2.1 q hq h0).1) (by rw [wl]; omega)
    refine wp_bv d1 ?_
    have f4 : zFt s0 s4 := zFt_trans f2 (zFt_trans (zFt_fv c3) (zFt_fv d3))
    obtain ⟨y1', y2'⟩ := zfr_changeHalves w
    have hmm4 : zMm w.changeHalves := zMm_sm hmm.1 y1'.s y1'.w y1'.e y2'.sb y2'.se y2'.hd y2'.opn
    obtain ⟨v1, hv1⟩ : ∃ v1, v1 = w.changeHalves := ⟨_, rfl⟩
    rw [← hv1] at d2 hmm4 hiF hnF ⊢
    refine m_mtail hW K N hN hK t4 s0 s4 v1 d2 hmm4 (fun hx => ?_) (by omega) f4
    rcases hiF with ⟨_, q⟩ | q
    · exact q
    · rw [q.up] at hx; cases hx
theorem int32_iN (x : Int32) (h : 0 < x) : x = iN (n32 x) ∧ n32 x < 2147483648 ∧ 0 < n32 x := by
  have h1 : iN 0 < x := h
  rw [n32_lt' (by omega)] at h1
  exact ⟨(iN_n32 h1).symm, n32_lt x, h1⟩
theorem zFu_w {s u : px_S} (h1 : ∀ c, c < 29 ∨ 45 < c → u.2.2.1 c = s.2.2.1 c) (h2 : ∀ r, r < 25 ∨ 37 < r → u.1 r = s.1 r) (h3 : ∀ r, r < 3 → u.2.1 r = s.2.1 r) (h4 : u.2.2.2 = s.2.2.2) : zFu s u := ⟨h1, h2, h3, h4⟩
/-- the power is on again -/
theorem zRv_on {s : px_S} {v : ZVs} (h : zRv s v) (f : Bool) (n : Int32) (mask : Int64) (hl : v.p.lim = 0) : (n ≤ 0 → zRv (sR (sR s 29 (1 : Int32)) 31 (bN f)) (zMv0 v f n mask)) ∧ (0 < n → zRv (sQ (sR (sR (sR s 29 (1 : Int32)) 31 (bN f)) 30 n) 3 mask) (zMv0 v f n mask)) := by
  obtain ⟨h1, h2, h3, h4, h5⟩ := h.1
  obtain ⟨r1, r2, r3, r4, r5, r6, r7, r8, r9, r10⟩ := h.2
  constructor
  · intro hn
    have hno : ¬ 0 < n := Int32.not_lt.mpr hn
    have e1 : (if 0 < n then n32 n else v.p.lim) = 0 := by rw [if_neg hno]; exact hl
    refine ⟨⟨h1, rfl, ?_, ?_, ?_⟩, r1, r2, r3, rfl, r5, r6, r7, r8, r9, r10⟩
    · show s.1 30 = iN (if 0 < n then n32 n else v.p.lim)
      rw [e1, h3, hl]
    · show (if 0 < n then n32 n else v.p.lim) < _
      rw [e1]; omega
    · show (if 0 < n then n32 n else v.p.lim) ≠ 0 → _
      rw [e1]; exact fun hx => absurd rfl hx
  · intro hn
    obtain ⟨n1, n2, n3⟩ := int32_iN n hn
    have e1 : (if 0 < n then n32 n else v.p.lim) = n32 n := if_pos hn
    have e2 : (if 0 < n then mask else v.p.msk) = mask := if_pos hn
    refine ⟨⟨h1, rfl, ?_, ?_, ?_⟩, r1, r2, r3, rfl, r5, r6, r7, r8, r9, r10⟩
    · show n = iN (if 0 < n then n32 n else v.p.lim)
      rw [e1]; exact n1
    · show (if 0 < n then n32 n else v.p.lim) < _
      rw [e1]; exact n2
    · intro _
      show mask = (if 0 < n then mask else v.p.msk)
      rw [e2]
/-- a mount of a volume that is down -/
theorem m_mount {W : ZSt → Prop} (hW : ∀ T T', (∀ b, 29 ≤ b → T b = T' b) → W T → W T') (K : px_K) (N : Nat) (hN : 2000 ≤ N) (hK : zKm K) (t : px_W) (s : px_S) (v : ZVs) (h : zRv s v) (hm : zMm v) (hd : ZDn (zGood W) v) (hn : v.p.na + 2000000 < 2147483648) (f : Bool) (n : Int32) (mask : Int64) : (f = true → v.good = none → f_M_mount_28 K N (bN f) n mask s t = some (.inl (some (.int (-1))), sR s 25 (0 : Int32), t)) ∧ ∀ h0, (f = true → v.good = some h0) → ∃ s1, zFu s s1 ∧ wp (f_M_mount_28 K N (bN f) n mask s t) (zMr t s1 (zMv1 v f h0 n mask)) := by
  obtain ⟨s0, hs0⟩ : ∃ s0, s0 = sR s 25 (0 : Int32) := ⟨_, rfl⟩
  have hv0 : zRv s0 v := by
    rw [hs0]
    obtain ⟨r1, r2, r3, r4, r5, r6, r7, r8, r9, r10⟩ := h.2
    exact ⟨zRw_int h.1 (by omega), r1, r2, r3, r4, r5, r6, r7, r8, r9, r10⟩
  obtain ⟨o, o1, o2, o3⟩ := m_good K N hN hK t s0 v hv0.1.1
  -- the half that counts is the one of the specification
  have edn : v.dn = (v.p.dv 0).st := ZDv.now_nil (hd.pd 0 (by omega))
  have efn : v.fn = (v.p.dv 1).st := ZDv.now_nil (hd.pd 1 (by omega))
  have ok : zOK (zGood W) v.sets v.ways v.eps (v.p.na + 1) v.dn v.fn := by rw [edn, efn]; exact hd.ok
  have hsgn : v.fn 0 1 = v.dn 0 0 → v.fn 25 1 = v.dn 0 0 → (n32 (v.fn 0 0) < n32 (v.fn 25 0) ↔ v.fn 0 0 < v.fn 25 0) := by
    intro c0 c1
    obtain ⟨id, L, r1, r2, r3, r4, r5⟩ := ok
    have hid := r1.hid
    have hpos : ∀ x y : Int32, 0 < n32 y → (n32 x < n32 y ↔ x < y) := by
      intro x y hy
      rw [Int32.lt_iff_toInt_lt]
      unfold n32 Int32.toNatClampNeg at *
      omega
    have hpos2 : ∀ x y : Int32, 0 < n32 x → (n32 x < n32 y ↔ x < y) := by
      intro x y hx
      rw [Int32.lt_iff_toInt_lt]
      unfold n32 Int32.toNatClampNeg at *
      omega
    rcases r5 with r5 | r5 | ⟨opn, H, g, sb, se, y1, y2, y3, y4⟩
    · exfalso
      have := r5 0 (by omega)
      have e : v.fn (25 * 0) 1 = iN id := c0.trans hid
      rw [e, n32_iN (by omega)] at this
      omega
    · exfalso
      have e : v.fn 25 1 = iN id := c1.trans hid
      rw [r5.2.2.1] at e
      have := r1.hid1
      have := iN_inj (by omega) (by omega) (show iN 0 = iN id from e)
      omega
    · have hH := y4.hH
      have hg1 := y4.hg1
      have hgg : n32 (v.fn (25 * H) 0) = g := by rw [y4.hg]; exact n32_iN (by omega)
      by_cases hH0 : H = 0
      · rw [hH0] at hgg
        have hgg : n32 (v.fn 0 0) = g := hgg
        exact hpos2 _ _ (by omega)
      · have hH1 : H = 1 := by omega
        rw [hH1] at hgg
        have hgg : n32 (v.fn 25 0) = g := hgg
        exact hpos _ _ (by omega)
  have hgood := o3 hsgn
  have hup0 : ¬ ¬ s0.1 29 = 0 := fun hx => hx ((zRw_up hv0.1).mpr hd.up)
  constructor
  · intro hf hg
    rw [hg] at hgood
    rw [← hgood] at o1
    obtain ⟨r, e1, e2⟩ : wp (f_M_mount_28 K N (bN f) n mask s t) (fun r => r = (.inl (some (.int (-1))), sR s 25 (0 : Int32), t)) := by
      unfold f_M_mount_28
      rw [← hs0]
      refine wp_let (wp_bi o1 (wp_ifn hup0 (wp_ifn (by rw [hf]; decide) (wp_ifn (by decide) (wp_some rfl)))))
    rw [e1, e2]
  · intro h0 hg
    have hz := hd.sz
    obtain ⟨on1, on2⟩ := zRv_on hv0 f n mask hd.lim
    have hb01 : bN f = 0 ∨ bN f = 1 := by cases f <;> decide
    obtain ⟨v0, hv0e⟩ : ∃ v0, v0 = zMv0 v f n mask := ⟨_, rfl⟩
    have e0 : zMv1 v f h0 n mask = (if v0.wf = true then ZVs.openFlash h0 v0 else v0.openDisc) := by
      unfold zMv1; rw [hv0e]; rfl
    rw [e0]
    have c1 : v0.p.up = true := by rw [hv0e]; rfl
    have c2 : ZSz v0.sets v0.ways v0.eps := by rw [hv0e]; exact hz
    have c3 : (v0.p.dv 0).pd = [] := by rw [hv0e]; exact hd.pd 0 (by omega)
    have c4 : (v0.p.dv 1).pd = [] := by rw [hv0e]; exact hd.pd 1 (by omega)
    have c5 : zOK (zGood W) v0.sets v0.ways v0.eps (v0.p.na + 1) v0.dn v0.fn := by rw [hv0e]; exact ok
    have c6 : v0.p.na + 2000000 < 2147483648 := by rw [hv0e]; exact hn
    have c7 : v0.wf = f := by rw [hv0e]; rfl
    have c8 : v0.wf = true → oN o = iN h0 ∧ v0.good = some h0 := by
      intro hw
      rw [c7] at hw
      have hgg := hg hw
      refine ⟨by rw [← hgood, hgg]; rfl, ?_⟩
      rw [hv0e]; exact hgg
    have c9 : v0.wf = false → v0.opn < 2147483648 := by intro _; rw [hv0e]; exact hm.1.2.2
    rw [← hv0e] at on1 on2
    by_cases hn0 : n ≤ 0
    · refine ⟨sR (sR s0 29 (1 : Int32)) 31 (bN f), ?_, ?_⟩
      · refine zFu_w (fun c _ => by rw [hs0]; rfl) (fun r hr => ?_) (fun r _ => by rw [hs0]; rfl) (by rw [hs0]; rfl)
        rw [sR_1, if_neg (by omega), sR_1, if_neg (by omega), hs0, sR_1, if_neg (by omega)]
      · have key := m_mbody hW K N hN hK t (sR (sR s0 29 (1 : Int32)) 31 (bN f)) (sR (sR s0 29 (1 : Int32)) 31 (bN f)) v0 (on1 hn0) c1 c2 c3 c4 c5 c6 (zFt_refl _) (oN o) h0 c8 (bN f) (by rw [c7]) c9
        unfold f_M_mount_28
        rw [← hs0]
        refine wp_let (wp_bi o1 (wp_ifn hup0 ?_))
        by_cases hf0 : bN f = 0
        · exact wp_if hf0 (wp_let (wp_gd hb01 (wp_let (wp_if hn0 key))))
        · have hft : f = true := by cases f with
            | false => exact absurd rfl hf0
            | true => rfl
          have ho0 : 0 ≤ oN o := by
            rw [(c8 (by rw [c7]; exact hft)).1, iL0, iN_le (by omega) (by have := o2 h0 (by rw [← hgood]; exact hg hft); omega)]; omega
          exact wp_ifn hf0 (wp_if ho0 (wp_let (wp_gd hb01 (wp_let (wp_if hn0 key)))))
    · have hn1 : 0 < n := Int32.not_le.mp hn0
      refine ⟨sQ (sR (sR (sR s0 29 (1 : Int32)) 31 (bN f)) 30 n) 3 mask, ?_, ?_⟩
      · refine zFu_w (fun c _ => by rw [hs0]; rfl) (fun r hr => ?_) (fun r hr => ?_) (by rw [hs0]; rfl)
        · show (sR (sR (sR s0 29 (1 : Int32)) 31 (bN f)) 30 n).1 r = _
          rw [sR_1, if_neg (by omega), sR_1, if_neg (by omega), sR_1, if_neg (by omega), hs0, sR_1, if_neg (by omega)]
        · show vp_updL (sR (sR (sR s0 29 (1 : Int32)) 31 (bN f)) 30 n).2.1 3 mask r = _
          unfold vp_updL
          rw [if_neg (by omega), hs0]; rfl
      · have key := m_mbody hW K N hN hK t (sQ (sR (sR (sR s0 29 (1 : Int32)) 31 (bN f)) 30 n) 3 mask) (sQ (sR (sR (sR s0 29 (1 : Int32)) 31 (bN f)) 30 n) 3 mask) v0 (on2 hn1) c1 c2 c3 c4 c5 c6 (zFt_refl _) (oN o) h0 c8 (bN f) (by rw [c7]) c9
        unfold f_M_mount_28
        rw [← hs0]
        refine wp_let (wp_bi o1 (wp_ifn hup0 ?_))
        by_cases hf0 : bN f = 0
        · exact wp_if hf0 (wp_let (wp_gd hb01 (wp_let (wp_ifn hn0 (wp_let (wp_let key))))))
        · have hft : f = true := by cases f with
            | false => exact absurd rfl hf0
            | true => rfl
          have ho0 : 0 ≤ oN o := by
            rw [(c8 (by rw [c7]; exact hft)).1, iL0, iN_le (by omega) (by have := o2 h0 (by rw [← hgood]; exact hg hft); omega)]; omega
          exact wp_ifn hf0 (wp_if ho0 (wp_let (wp_gd hb01 (wp_let (wp_ifn hn0 (wp_let (wp_let key)))))))
/-- a mount of one that is up -/
theorem m_mountUp (K : px_K) (N : Nat) (hN : 2000 ≤ N) (hK : zKm K) (t : px_W) (s : px_S) (v : ZVs) (h : zRv s v) (hu : v.p.up = true) (f n : Int32) (mask : Int64) : f_M_mount_28 K N f n mask s t = some (.inl (some (.int (-1))), sR s 25 (0 : Int32), t) := by
  have hp : zRw (sR s 25 (0 : Int32)) v.p := zRw_int h.1 (by omega)
  obtain ⟨o, o1, o2, o3⟩ := m_good K N hN hK t (sR s 25 (0 : Int32)) v hp.1
  have e29 : ¬ (sR s 25 (0 : Int32)).1 29 = 0 := fun hx => by have := (zRw_up hp).mp hx; rw [hu] at this; cases this
  obtain ⟨r, e1, e2⟩ : wp (f_M_mount_28 K N f n mask s t) (fun r => r = (.inl (some (.int (-1))), sR s 25 (0 : Int32), t)) := by
    unfold f_M_mount_28
    exact wp_let (wp_bi o1 (wp_if e29 (wp_some rfl)))
  rw [e1, e2]
/-! A NEW FLASH; ATTACH, LOSE, CRASH, LIMIT (the reference) -/
theorem m_nf_loop (K : px_K) (N : Nat) (hK : zKm K) (t : px_W) : ∀ (d i n : Nat) (s : px_S), i + d = 3824 → d < n → wp (l_M_newFlash_28_4 K N n (iN i) s t) (zC 16 [] t (fun s' => ∃ g, s' = sF s 29 g ∧ ∀ k, k < 3824 → g k = if i ≤ k then 0 else s.2.2.1 29 k)) := by
  have hat : ∀ s, f_M_at K N (1 : Int32) (114 : Int32) s t = some (.inl (some (.int (iN 3824))), s, t) := fun s => m_at K N 1 114 (by omega) s t
  intro d
  induction d with
  | zero =>
    intro i n s hi hn
    obtain ⟨n, rfl⟩ : ∃ n', n = n' + 1 := ⟨n - 1, by omega⟩
    unfold l_M_newFlash_28_4
    exact wp_bi (hat s) (wp_if ((iN_le (by omega) (by omega)).mpr (by omega)) (wp_rC ⟨s.2.2.1 29, by rw [sF_triv], fun k hk => by rw [if_neg (by omega)]⟩))
  | succ d ih =>
    intro i n s hi hn
    obtain ⟨n, rfl⟩ : ∃ n', n = n' + 1 := ⟨n - 1, by omega⟩
    have e3 : iN i + (1 : Int32) = iN (i + 1) := by rw [iL1, iN_add]
    unfold l_M_newFlash_28_4
    rw [e3, iN_nat (by omega)]
    refine wp_bi (hat s) (wp_ifn (by rw [iN_le (by omega) (by omega)]; omega) (wp_gd (by rw [hK.1]; exact iN_in (by omega) (by omega)) (wp_let ?_)))
    refine wp_imp (ih (i + 1) n _ (by omega) (by omega)) ?_
    rintro r ⟨s', h1, g, h2, h3⟩
    refine ⟨s', h1, g, by rw [h2, sA_eq, sF_sF], fun k hk => ?_⟩
    rw [h3 k hk, sA_arr]
    by_cases hki : k = i
    · rw [hki, if_neg (by omega), if_pos (Nat.le_refl _), upd_self]
    · rw [upd_ne hki]
      by_cases hle : i ≤ k
      · rw [if_pos (by omega), if_pos hle]
      · rw [if_neg (by omega), if_neg hle]
theorem m_newFlash (K : px_K) (N : Nat) (hN : 2000 ≤ N) (hK : zKm K) (t : px_W) (s : px_S) (v : ZVs) (h : zRv s v) : ∃ s', f_M_newFlash_28 K N s t = some (.inl none, s', t) ∧ zRv s' v.newFlash ∧ zFm s s' := by
  apply wp_B
  have hat : f_M_at K N (1 : Int32) (0 : Int32) s t = some (.inl (some (.int (iN 2000))), s, t) := m_at K N 1 0 (by omega) s t
  unfold f_M_newFlash_28
  refine wp_bi hat ?_
  obtain ⟨s1, a1, g, a2, a3⟩ := wp_C (m_nf_loop K N hK t 1824 2000 N s (by omega) (by omega))
  refine wp_lp a1 (wp_if rfl ?_)
  have n1 : (1 : Int32).toNatClampNeg = 1 := rfl
  show wp (px_gd _ _) _
  rw [n1]
  refine wp_gd (by rw [hK.2.1]; exact iN_in (a := 1) (by omega) (by omega)) (wp_let ?_)
  have hf : zFm s (sA s1 30 1 (0 : Int32)) := by rw [a2]; exact zFm_trans (zFm_sF (by omega)) (zFm_sF (by omega))
  refine wp_rB ⟨⟨⟨fun k hk => ?_, ?_, ?_, h.1.2.2.2.1, ?_⟩, ?_⟩, hf⟩
  · obtain ⟨y1, y2, y3, y4, y5, y6⟩ := h.1.1 k hk
    by_cases hk1 : k = 1
    · subst hk1
      have e : v.newFlash.p.dv 1 = ZDv.mk (fun _ _ => 0) [] (v.p.dv 1).wr (v.p.dv 1).fl := by unfold ZVs.newFlash; exact zu_self v.p.dv 1 (ZDv.mk (fun _ _ => 0) [] (v.p.dv 1).wr (v.p.dv 1).fl)
      rw [e]
      refine ⟨Nat.zero_le _, ?_, fun j hj => absurd hj (Nat.not_lt_zero _), fun b w hb hw => ?_, ?_, ?_⟩
      · rw [sA_arr, upd_self]; rfl
      · have hb : b < 114 := hb
        rw [sA_arr_ne (by omega), a2, sF_arr, a3 _ (by omega), if_pos (by omega)]
        rfl
      · rw [sA_arr_ne (by omega), a2, sF_arr_ne (by omega)]; exact y5
      · rw [sA_arr_ne (by omega), a2, sF_arr_ne (by omega)]; exact y6
    · have hk0 : k = 0 := by omega
      subst hk0
      have e : v.newFlash.p.dv 0 = v.p.dv 0 := nf0 v
      rw [e]
      refine ⟨y1, ?_, fun j hj => ?_, fun b w hb hw => ?_, ?_, ?_⟩
      · rw [sA_arr, upd_ne (by omega), a2, sF_arr_ne (by omega)]; exact y2
      · rw [sA_arr_ne (by omega), sA_arr_ne (by omega), a2, sF_arr_ne (by omega), sF_arr_ne (by omega)]; exact y3 j hj
      · have hb' : b < 125 := hb
        rw [sA_arr_ne (by omega), a2, sF_arr, a3 _ (by omega), if_neg (by omega)]; exact y4 b w hb hw
      · rw [sA_arr_ne (by omega), a2, sF_arr_ne (by omega)]; exact y5
      · rw [sA_arr_ne (by omega), a2, sF_arr_ne (by omega)]; exact y6
  · rw [a2]; exact h.1.2.1
  · rw [a2]; exact h.1.2.2.1
  · intro hx; rw [a2]; exact h.1.2.2.2.2 hx
  · exact zRs_fm h.2 hf _
theorem m_crash (K : px_K) (N : Nat) (hN : 2000 ≤ N) (hK : zKm K) (t : px_W) (s : px_S) (v : ZVs) (h : zRv s v) (m : Int64) : ∃ s', f_M_crash_28 K N m s t = some (.inl (some (.int (bN v.p.up))), s', t) ∧ zRv s' (if v.p.up = true then v.s_p (v.p.goes m) else v) ∧ zFu s s' := by
  apply wp_A
  have hp : zRv (sR s 25 (0 : Int32)) v := by
    obtain ⟨r1, r2, r3, r4, r5, r6, r7, r8, r9, r10⟩ := h.2
    exact ⟨zRw_int h.1 (by omega), r1, r2, r3, r4, r5, r6, r7, r8, r9, r10⟩
  unfold f_M_crash_28
  refine wp_let ?_
  cases hu : v.p.up with
  | false =>
    rw [if_neg (c := false = true) Bool.noConfusion]
    exact wp_ifn (fun hx => hx ((zRw_up hp.1).mpr hu)) (wp_rA ⟨hp, zFu_25 s 0⟩)
  | true =>
    rw [if_pos (c := true = true) rfl]
    obtain ⟨s1, a1, a2, a3⟩ := m_goes K N (by omega) hK m t _ v.p hp.1
    refine wp_if (fun hx => by have := (zRw_up hp.1).mp hx; rw [hu] at this; cases this) (wp_bv a1 (wp_rA ⟨⟨a2, zRs_fm hp.2 a3 _⟩, zFu_t (zFt_fv (zFv_fm a3))⟩))
theorem m_lose (K : px_K) (N : Nat) (hN : 2000 ≤ N) (hK : zKm K) (t : px_W) (s : px_S) (v : ZVs) (h : zRv s v) (m : Int64) : ∃ s', f_M_lose_28 K N m s t = some (.inl (some (.int 1)), s', t) ∧ zRv s' (if v.p.up = true then v.newFlash.s_p (v.newFlash.p.goes m) else v.newFlash) ∧ zFu s s' := by
  apply wp_A
  have hp : zRv (sR s 25 (0 : Int32)) v := by
    obtain ⟨r1, r2, r3, r4, r5, r6, r7, r8, r9, r10⟩ := h.2
    exact ⟨zRw_int h.1 (by omega), r1, r2, r3, r4, r5, r6, r7, r8, r9, r10⟩
  unfold f_M_lose_28
  obtain ⟨s1, a1, a2, a3⟩ := m_newFlash K N hN hK t _ v hp
  refine wp_let (wp_bv a1 ?_)
  have eu : v.newFlash.p.up = v.p.up := rfl
  cases hu : v.p.up with
  | false =>
    rw [if_neg (c := false = true) Bool.noConfusion]
    exact wp_if ((zRw_up a2.1).mpr (eu.trans hu)) (wp_rA ⟨a2, zFu_t (zFt_fv (zFv_fm a3))⟩)
  | true =>
    rw [if_pos (c := true = true) rfl]
    obtain ⟨s2, b1, b2, b3⟩ := m_goes K N (by omega) hK m t s1 _ a2.1
    refine wp_ifn (fun hx => by have := (zRw_up a2.1).mp hx; rw [eu, hu] at this; cases this) (wp_bv b1 (wp_rA ⟨⟨b2, zRs_fm a2.2 b3 _⟩, zFu_t (zFt_fv (zFv_trans (zFv_fm a3) (zFv_fm b3)))⟩))
/-- a limit is set -/
def zLim (v : ZVs) (n : Int32) (m : Int64) : ZVs := v.s_p (ZPw.mk v.p.dv v.p.up (n32 n) m v.p.na)
theorem m_limit (K : px_K) (N : Nat) (t : px_W) (s : px_S) (T : ZTs) (h : zRt s T) (n : Int32) (m : Int64) : ((T.tv.p.up = true ∧ 1 ≤ n ∧ n ≤ 1000) → ∃ s', f_M_limit_28 K N n m s t = some (.inl (some (.int 1)), s', t) ∧ zRt s' (T.s_tv (zLim T.tv n m)) ∧ zFu s s') ∧ (¬ (T.tv.p.up = true ∧ 1 ≤ n ∧ n ≤ 1000) → f_M_limit_28 K N n m s t = some (.inl (some (.int 0)), sR s 25 (0 : Int32), t)) := by
  have h0 := zRt_25 h 0
  constructor
  · rintro ⟨hu, h1, h2⟩
    obtain ⟨n1, n2, n3⟩ := int32_iN n (by rw [Int32.lt_iff_toInt_lt]; rw [Int32.le_iff_toInt_le] at h1; have : (1 : Int32).toInt = 1 := by decide
                                          have : (0 : Int32).toInt = 0 := by decide
                                          omega)
    apply wp_A
    unfold f_M_limit_28
    have e29 : ¬ (sR s 25 (0 : Int32)).1 29 = 0 := fun hx => by have := (zRw_up h0.1.1).mp hx; rw [hu] at this; cases this
    refine wp_let (wp_ifn e29 (wp_ifn (Int32.not_lt.mpr h1) (wp_if h2 (wp_let (wp_let (wp_rA ⟨⟨⟨⟨h0.1.1.1, h0.1.1.2.1, ?_, n2, fun _ => rfl⟩, ?_⟩, ?_⟩, ?_⟩))))))
    · show n = iN (n32 n); exact n1
    · obtain ⟨r1, r2, r3, r4, r5, r6, r7, r8, r9, r10⟩ := h0.1.2
      exact ⟨r1, r2, r3, r4, r5, r6, r7, r8, r9, r10⟩
    · obtain ⟨j1, j2, j3, j4, j5, j6⟩ := h0.2
      exact ⟨j1, j2, j3, j4, j5, j6⟩
    · refine zFu_w (fun _ _ => rfl) (fun r hr => ?_) (fun r hr => ?_) rfl
      · show (sR (sR s 25 (0 : Int32)) 30 n).1 r = _
        rw [sR_1, if_neg (by omega), sR_1, if_neg (by omega)]
      · show vp_updL s.2.1 3 m r = _
        unfold vp_updL; rw [if_neg (by omega)]
  · intro hno
    obtain ⟨r, e1, e2⟩ : wp (f_M_limit_28 K N n m s t) (fun r => r = (.inl (some (.int 0)), sR s 25 (0 : Int32), t)) := by
      unfold f_M_limit_28
      refine wp_let ?_
      by_cases hu : T.tv.p.up = true
      · have e29 : ¬ (sR s 25 (0 : Int32)).1 29 = 0 := fun hx => by have := (zRw_up h0.1.1).mp hx; rw [hu] at this; cases this
        refine wp_ifn e29 ?_
        by_cases h1 : 1 ≤ n
        · refine wp_ifn (Int32.not_lt.mpr h1) (wp_ifn (fun hx => hno ⟨hu, h1, hx⟩) (wp_some rfl))
        · exact wp_if (Int32.not_le.mp h1) (wp_some rfl)
      · have e29 : (sR s 25 (0 : Int32)).1 29 = 0 := (zRw_up h0.1.1).mpr (by cases hh : T.tv.p.up with | false => rfl | true => exact absurd hh hu)
        exact wp_if e29 (wp_some rfl)
    rw [e1, e2]
theorem zMm_fresh {u : ZVs} (hz : ZSz u.sets u.ways u.eps) (ho : u.landed + 1 < 2147483648) : zMm (zFresh u) := by
  refine ⟨⟨hz, fun i _ => ⟨by show 0 < 2147483648; omega, by show 0 < 2147483648; omega⟩, ho⟩, fun i _ h0 => ?_, fun e e0 _ => ⟨fun i j _ _ x1 => ?_, ?_⟩, fun set => hz.w1⟩
  · have h0 : 0 < 0 := h0
    omega
  · have x1 : 0 = e := x1
    omega
  · show (zDl (fun _ => 0) e _).length ≤ 16
    have : zDl (fun _ => 0) e (zFresh u).n = [] := by
      rw [List.eq_nil_iff_forall_not_mem]; intro s hs
      have := (mem_zDl.mp hs).2
      omega
    rw [this]; exact Nat.zero_le _
theorem m_attach {W : ZSt → Prop} {Q : ZSt → Prop} (K : px_K) (N : Nat) (hN : 2000 ≤ N) (hK : zKm K) (t : px_W) (s : px_S) (T : ZTs) (h : zRt s T) (hi : ZRd (zGood W) Q T.tv) (hn : T.tv.p.na + 3000000 < 2147483648) : ∃ s', f_M_attach_28 K N s t = some (.inl (some (.int (if T.tv.attach.p.up = true then 0 else -9))), s', t) ∧ zRt s' (T.s_tv T.tv.attach) ∧ zMm T.tv.attach ∧ zFu s s' := by
  apply wp_A
  have h0 := zRt_25 h 0
  have hz := hi.sz
  have n1 := hi.n1
  have n2 := hi.n2
  unfold f_M_attach_28
  have e29 : ¬ (sR s 25 (0 : Int32)).1 29 = 0 := fun hx => by have := (zRw_up h0.1.1).mp hx; rw [hi.up] at this; cases this
  have e31 : (sR s 25 (0 : Int32)).1 31 = 0 := by
    have e : (sR s 25 (0 : Int32)).1 31 = bN T.tv.wf := h0.1.2.2.2.2.1
    rw [e, hi.wf]; rfl
  refine wp_let (wp_if e29 (wp_if e31 ?_))
  obtain ⟨s1, a1, a2, a3⟩ := m_newFlash K N hN hK t _ T.tv h0.1
  refine wp_bv a1 ?_
  obtain ⟨u, hu⟩ : ∃ u, u = T.tv.newFlash := ⟨_, rfl⟩
  rw [← hu] at a2
  have ud : u.dn = T.tv.dn := by rw [hu]; show (T.tv.newFlash.p.dv 0).now = _; rw [nf0]
  have hid : u.dn 0 0 = iN (n32 (u.dn 0 0)) := by rw [ud]; exact hi.hd.hid
  have hrd := m_read K N (by omega) hK t s1 u.p.dv a2.1.1 0 0 0 (by omega) (by show 0 < 125; omega) (by omega)
  rw [show (u.p.dv 0).now 0 0 = iN (n32 (u.dn 0 0)) from hid] at hrd
  refine wp_bi hrd ?_
  have e1 : iN (n32 (u.dn 0 0)) + (1 : Int32) = iN (n32 (u.dn 0 0) + 1) := by rw [iL1, iN_add]
  rw [e1]
  refine wp_let ?_
  obtain ⟨i, hi'⟩ : ∃ i, i = n32 (u.dn 0 0) + 1 := ⟨_, rfl⟩
  rw [← hi']
  obtain ⟨s2, b1, b2, ⟨g2, b3⟩, b4⟩ := m_th43 K N hN hK t a2 1 i 0
  refine wp_bv b1 ?_
  refine m_head K N hN hK t b2 1 0 (zThree 1 i 0) (by omega) (by show 0 < 114; omega) b4 ?_
  intro s3 h3 k3
  obtain ⟨s4, c1, c2, ⟨g4, c3⟩, c4⟩ := m_th43 K N hN hK t h3 i 0 0
  refine wp_bv c1 ?_
  refine m_head K N hN hK t c2 0 0 (zThree i 0 0) (by omega) (by show 0 < 125; omega) c4 ?_
  intro s5 h5 k5
  obtain ⟨w, hw⟩ : ∃ w, w = ((((u.wr 1 0 (zThree 1 i 0)).fl 1).wr 0 0 (zThree i 0 0)).fl 0) := ⟨_, rfl⟩
  have hsp : T.tv.attach = zFresh w := by
    unfold ZVs.attach; rw [hw, hi', hu]
  rw [← hw] at h5
  rw [hsp]
  obtain ⟨q1, q2, q3, q4, q5, q6, q7, q8, q9, q10⟩ := h5.2
  obtain ⟨s6, d1, d2, d3⟩ := m_noSlots K N (by omega) hK t s5 w ⟨q1, q2, q3, q4, q5, q6, q7, q8⟩
  refine wp_bv d2 (wp_let (wp_let (wp_let (wp_let ?_))))
  -- the disc's head is as it was
  have hk1 : zNk 1 u := by
    intro e he
    rw [hu, nf0] at he
    have := hi.pd0 e he
    omega
  have hk2 : zNk 1 ((u.wr 1 0 (zThree 1 i 0)).fl 1) ∧ ((u.wr 1 0 (zThree 1 i 0)).fl 1).dn 1 = u.dn 1 := by
    have step : ∀ x : ZVs, zNk 1 x → ∀ y : ZVs, (y.p.dv 0 = x.p.dv 0 ∨ ∃ m, y.p.dv 0 = (x.p.dv 0).go m) → zNk 1 y ∧ y.dn 1 = x.dn 1 := by
      intro x hx y hy
      have hst : x.dn 1 = (x.p.dv 0).st 1 := zov_notin hx
      rcases hy with hy | ⟨m, hy⟩
      · exact ⟨fun e he => by rw [hy] at he; exact hx e he, by show (y.p.dv 0).now 1 = _; rw [hy]⟩
      · refine ⟨fun e he => by rw [hy] at he; exact absurd he (List.not_mem_nil), ?_⟩
        show (y.p.dv 0).now 1 = _
        rw [hy, hst]
        show zlost m 0 (x.p.dv 0).st (x.p.dv 0).pd 1 = _
        exact zlost_notin hx
    have w1 : ∀ x : ZVs, (((x.wr 1 0 (zThree 1 i 0)).p.dv 0 = x.p.dv 0) ∨ ∃ m, (x.wr 1 0 (zThree 1 i 0)).p.dv 0 = (x.p.dv 0).go m) := by
      intro x
      cases hxu : x.p.up with
      | false =>
        left
        have e : x.wr 1 0 (zThree 1 i 0) = x := by show x.s_p (x.p.wr 1 0 (zThree 1 i 0)) = x; rw [ZPw.wr_down hxu]; rfl
        rw [e]
      | true =>
        rcases ZPw.wr_cases hxu 1 0 (zThree 1 i 0) with ⟨_, h2⟩ | ⟨_, h2⟩
        · right; exact ⟨x.p.msk, by show (x.p.wr 1 0 (zThree 1 i 0)).dv 0 = _; rw [h2]; rfl⟩
        · left; show (x.p.wr 1 0 (zThree 1 i 0)).dv 0 = _; rw [h2]; exact zu_ne x.p.dv ((x.p.dv 1).add 0 (zThree 1 i 0)) (show (0 : Nat) ≠ 1 by omega)
    have w2 : ∀ x : ZVs, (((x.fl 1).p.dv 0 = x.p.dv 0) ∨ ∃ m, (x.fl 1).p.dv 0 = (x.p.dv 0).go m) := by
      intro x
      cases hxu : x.p.up with
      | false =>
        left
        have e : x.fl 1 = x := by show x.s_p (x.p.fl 1) = x; rw [ZPw.fl_down hxu]; rfl
        rw [e]
      | true =>
        rcases ZPw.fl_cases hxu 1 with ⟨_, h2⟩ | ⟨_, h2⟩
        · right; exact ⟨x.p.msk, by show (x.p.fl 1).dv 0 = _; rw [h2]; rfl⟩
        · left; show (x.p.fl 1).dv 0 = _; rw [h2]; exact zu_ne x.p.dv (x.p.dv 1).flush (show (0 : Nat) ≠ 1 by omega)
    obtain ⟨y1, y2⟩ := step u hk1 _ (w1 u)
    obtain ⟨y3, y4⟩ := step _ y1 _ (w2 _)
    exact ⟨y3, y4.trans y2⟩
  obtain ⟨z1, z2⟩ := zNk_wr hk2.1 (b := 0) (zThree i 0 0) (by omega)
  obtain ⟨z3, z4⟩ := zNk_fl z1
  have wd1 : w.dn 1 = T.tv.dn 1 := by rw [hw, ← ud]; exact z4.trans (z2.trans hk2.2)
  have wl : w.landed = T.tv.landed := by show n32 (w.dn 1 1) = n32 (T.tv.dn 1 1); rw [wd1]
  have hL : w.dn 1 1 = iN w.landed := by rw [wl, wd1]; exact hi.hd.hL
  have h6 : zRw s6 w.p := zRw_fs h5.1 d1
  have h10 : zRw (sR (sR (sR (sR s6 31 (1 : Int32)) 33 (0 : Int32)) 34 (1 : Int32)) 35 (0 : Int32)) w.p := zRw_int (zRw_int (zRw_int (zRw_int h6 (by omega)) (by omega)) (by omega)) (by omega)
  have hlan := m_landed K N (by omega) hK t _ w.p.dv h10.1
  rw [show (w.p.dv 0).now 1 1 = iN w.landed from hL] at hlan
  have el : iN w.landed + (1 : Int32) = iN (w.landed + 1) := by rw [iL1, iN_add]
  refine wp_bi hlan ?_
  rw [el]
  refine wp_let ?_
  have h11 : zRw (sR (sR (sR (sR (sR s6 31 (1 : Int32)) 33 (0 : Int32)) 34 (1 : Int32)) 35 (0 : Int32)) 32 (iN (w.landed + 1))) w.p := zRw_int h10 (by omega)
  refine wp_bi (m_answer K N t _ w.p h11 0) ?_
  have wsz : ZSz w.sets w.ways w.eps := by rw [hw, hu]; exact hz
  refine wp_rA ⟨⟨⟨h11, ?_⟩, ?_⟩, zMm_fresh wsz (by rw [wl]; omega), ?_⟩
  · obtain ⟨r1, r2, r3, r4, r5, r6, r7, r8, r9, r10⟩ := d3
    exact ⟨r1, r2, r3, rfl, rfl, rfl, rfl, rfl, r9, r10⟩
  · have f5 : zFv s1 s5 := zFv_trans (by rw [b3]; exact zFv_sF (Or.inl rfl)) (zFv_trans k3 (zFv_trans (by rw [c3]; exact zFv_sF (Or.inl rfl)) k5))
    have hj6 : zRj s6 T := zRj_fv (zRj_fv (zRj_fv h0.2 (zFv_fm a3)) f5) (zFv_fs d1)
    obtain ⟨j1, j2, j3, j4, j5, j6⟩ := hj6
    exact ⟨j1, j2, j3, j4, j5, j6⟩
  · have f5 : zFv s1 s5 := zFv_trans (by rw [b3]; exact zFv_sF (Or.inl rfl)) (zFv_trans k3 (zFv_trans (by rw [c3]; exact zFv_sF (Or.inl rfl)) k5))
    have f6 : zFt (sR s 25 (0 : Int32)) s6 := zFt_fv (zFv_trans (zFv_fm a3) (zFv_trans f5 (zFv_fs d1)))
    exact zFu_t (zFt_trans f6 (zFt_trans (zFt_trans (zFt_trans (zFt_trans (zFt_sR (by omega)) (zFt_sR (by omega))) (zFt_sR (by omega))) (zFt_sR (by omega))) (zFt_sR (by omega))))
