/-! CHANGING THE HALVES -/
/-- tables without the open epoch -/
def zShut (se : Nat → Nat) (opn : Nat) : Nat → Nat := fun s => if se s < opn then se s else 0
theorem zShut_lt {se : Nat → Nat} {opn s : Nat} (h : 1 ≤ opn) : zShut se opn s < opn := by unfold zShut; split <;> omega
theorem zShut_eq {se : Nat → Nat} {opn s : Nat} (h : se s < opn) : zShut se opn s = se s := if_pos h
theorem zShut_pos {se : Nat → Nat} {opn s : Nat} (h : 0 < zShut se opn s) : zShut se opn s = se s := by
  unfold zShut at *; split
  · rfl
  · rename_i hx; rw [if_neg hx] at h; omega
section
theorem ZRm.vol_base {P : Nat → ZSt → Prop} {pl : Nat} {v : ZVs} (h : ZRm P pl v) : zDisc v.dn = zVol (zDisc v.dn) v.fn v.sb v.se (v.sets * v.ways) v.landed := by
  have hLo := h.fl.hLo
  funext b
  unfold zVol
  rw [zNew_none.mpr]
  intro s hs hu
  obtain ⟨u1, u2, _⟩ := zUp_eq.mp hu
  have := (h.fl.tb s hs u1 (by omega)).1
  omega
theorem ZRm.okFl {P : Nat → ZSt → Prop} {pl m H g : Nat} {v : ZVs} {sf : ZSt} (h : ZRm P pl v) (hm : ∀ V, P (v.p.na + 1) V → P m V) (h1 : n32 (v.dn 0 0) ≤ m) (h2 : v.opn ≤ m) (h3 : g ≤ m) (hf : ZFl (P m) v.sets v.ways v.eps v.dn sf (n32 (v.dn 0 0)) v.landed v.opn H g 24 v.sb (zShut v.se v.opn)) : zOK P v.sets v.ways v.eps m v.dn sf := by
  have hLo := h.fl.hLo
  exact ⟨n32 (v.dn 0 0), v.landed, h.hd, h1, by omega, hm _ (by rw [h.vol_base]; exact h.fl.vp _ (Nat.le_refl _) hLo), Or.inr (Or.inr ⟨v.opn, H, g, v.sb, zShut v.se v.opn, h2, h3, fun s _ => zShut_lt h.opn1, hf⟩)⟩
set_option linter.defProp false in
def ZRf.vol_base {P : Nat → ZSt → Prop} {v : ZVs} (h : ZRf P v) := @ZRm.vol_base P v.plc v h.toZRm
set_option linter.defProp false in
def ZRf.okFl {P : Nat → ZSt → Prop} {v : ZVs} {m H g : Nat} {sf : ZSt} (h : ZRf P v) := @ZRm.okFl P v.plc m H g v sf h.toZRm
theorem ZRm.changeHalves {P : Nat → ZSt → Prop} (hP : ∀ m m' V, m ≤ m' → P m V → P m' V) {pl : Nat} {v : ZVs} (h : ZRm P pl v) (hb : v.p.na + 300 < 2147483648) : ZOk P (fun u => ZRf P u ∧ u.cur = v.cur ∧ ZSm v u ∧ u.p.dv 0 = v.p.dv 0 ∧ u.plc ≤ 3 * (v.opn - 1 - v.landed) ∧ (∀ s, u.fn (50 + s) = v.fn (50 + s)) ∧ u.gen = v.gen + 1) v.changeHalves := by
  have hn1 := h.n1; have hn2 := h.n2; have hn3 := h.n3; have hLo := h.fl.hLo; have hE := h.fl.hE; have hH := h.fl.hH; have he8 := h.sz.e8
  unfold ZVs.changeHalves
  dsimp only
  have hmin : min 8 (v.opn - (v.landed + 1)) = v.opn - 1 - v.landed := by omega
  rw [hmin]
  have hg32 : n32 (v.fn (25 * v.half) 0) = v.gen := by rw [h.fl.hg]; exact n32_iN (by omega)
  let QH : Nat → ZSt → Prop := fun k => if k = 0 then fun sd => sd = v.dn else fun sf => (∀ b, b < 50 → ¬ (25 * (1 - v.half) + 1 ≤ b ∧ b < 25 * (1 - v.half) + 25) → sf b = v.fn b) ∧ (∀ s, s < v.n → 0 < v.se s → v.se s < v.opn → sf (50 + s) = v.fn (50 + s)) ∧ ∀ k, k < 24 → n32 (sf (25 * (1 - v.half) + 1 + k) 0) ≤ v.gen + 1 ∧ (n32 (sf (25 * (1 - v.half) + 1 + k) 0) = v.gen + 1 → v.landed < n32 (sf (25 * (1 - v.half) + 1 + k) 1) ∧ n32 (sf (25 * (1 - v.half) + 1 + k) 1) < v.opn ∧ zTrue v.n v.sb v.se (sf (25 * (1 - v.half) + 1 + k)))
  have hrec : ∀ sf, QH 1 sf → ∀ k, k < 24 → sf (25 * v.half + 1 + k) = v.fn (25 * v.half + 1 + k) := fun sf hs k hk => hs.1 _ (by omega) (by omega)
  have okH : ∀ sd sf, QH 0 sd → QH 1 sf → zOK P v.sets v.ways v.eps (v.p.na + 1) sd sf := by
    intro sd sf h0 h1
    have h0 : sd = v.dn := h0
    subst h0
    refine h.okFl (H := v.half) (g := v.gen) (fun _ q => q) hn1 hn2 hn3 ?_
    refine h.fl.build (fun _ q => q) rfl (fun s hs s1 s2 => ⟨zShut_eq s2, rfl, h1.2.1 s hs s1 s2⟩) (fun s hs s1 s2 => zShut_pos s1) hH (by rw [h1.1 _ (by omega) (by omega)]; exact h.fl.hg) h.fl.hg1 (by rw [h1.1 _ (by omega) (by omega)]; exact h.fl.hi) (by rw [h1.1 _ (by omega) (by omega)]; exact h.fl.ho) (by rw [h1.1 _ (by omega) (by omega)]; exact h.fl.hj) (fun k hk => by rw [hrec sf h1 k hk]; exact h.fl.ha k hk) h1.2.2 ?_ (Nat.le_refl _)
    intro e he1 he2
    obtain ⟨⟨k, q1, q2⟩, q3⟩ := h.fl.hc e he1 he2
    have hp := h.fl.hpl
    refine ⟨⟨k, by omega, by rw [hrec sf h1 k (by omega)]; exact q2⟩, fun s hs hse => ?_⟩
    obtain ⟨k, p1, p2⟩ := q3 s hs hse
    exact ⟨k, by omega, by rw [hrec sf h1 k (by omega)]; exact p2⟩
  have p0 : ZPh P (v.p.na + 1) QH (ZVs.mk (ZVs.p v) (ZVs.sets v) (ZVs.ways v) (ZVs.eps v) (ZVs.wf v) (ZVs.sb v) (ZVs.se v) (ZVs.mrk v) (ZVs.hd v) (ZVs.opn v) (1 - v.half) (v.gen + 1) 0) := by
    refine ⟨h.up, h.sz, Nat.le_refl _, fun s hs => ?_, fun s hs => ?_, okH⟩
    · show s = v.dn
      rw [ZDv.out_nil h.pd0 hs, ← ZDv.now_nil h.pd0]
    · obtain ⟨q1, q2⟩ := h.notin hs
      refine ⟨fun b hb _ => q1 b hb, q2, fun k hk => ?_⟩
      rw [q1 _ (by omega)]
      exact h.fl.hb k hk
  have s1 := ZPh.recsTo hP (v.opn - 1 - v.landed) (v.landed + 1) (ZVs.mk (ZVs.p v) (ZVs.sets v) (ZVs.ways v) (ZVs.eps v) (ZVs.wf v) (ZVs.sb v) (ZVs.se v) (ZVs.mrk v) (ZVs.hd v) (ZVs.opn v) (1 - v.half) (v.gen + 1) 0) p0 (by omega) (by show v.gen + 1 < _; omega) (fun e' he1 he2 => by
    have he2 : e' < v.opn := by omega
    refine ⟨h.fl.tc e' (by omega) he2, ?_, fun s hs hse => ?_⟩
    · obtain ⟨s, q1, q2⟩ := h.fl.te e' (by omega) he2
      intro hx
      have : s ∈ zDl v.se e' v.n := mem_zDl.mpr ⟨q1, q2⟩
      have hx : zDl v.se e' v.n = [] := hx
      rw [hx] at this; cases this
    · have hse : v.se s = e' := hse
      have q := h.fl.tb s hs (by omega) (by omega)
      exact ⟨q.2.1, q.2.2.1⟩) (by show 0 + _ ≤ 24; omega) (fun s p r p1 p2 p3 p4 p5 p6 => by
    have p2 : n32 (r 0) = v.gen + 1 := p2
    have p5 : zTrue v.n v.sb v.se r := p5
    show QH 1 (zu s (25 * (1 - v.half) + 1 + p) r)
    refine ⟨fun b hb' hb2 => by rw [zu_ne _ _ (by omega)]; exact p6.1 b hb' hb2, fun t ht t1 t2 => by rw [zu_ne _ _ (by omega)]; exact p6.2.1 t ht t1 t2, fun k hk => ?_⟩
    by_cases hkp : k = p
    · rw [hkp, zu_self]
      exact ⟨by omega, fun _ => ⟨by omega, by omega, p5⟩⟩
    · rw [zu_ne _ _ (by omega)]; exact p6.2.2 k hk)
  have z1 := (zfr_recsTo (v.opn - 1 - v.landed) (v.landed + 1) (ZVs.mk (ZVs.p v) (ZVs.sets v) (ZVs.ways v) (ZVs.eps v) (ZVs.wf v) (ZVs.sb v) (ZVs.se v) (ZVs.mrk v) (ZVs.hd v) (ZVs.opn v) (1 - v.half) (v.gen + 1) 0)).1
  generalize ZVs.recsTo (v.opn - 1 - v.landed) (v.landed + 1) (ZVs.mk (ZVs.p v) (ZVs.sets v) (ZVs.ways v) (ZVs.eps v) (ZVs.wf v) (ZVs.sb v) (ZVs.se v) (ZVs.mrk v) (ZVs.hd v) (ZVs.opn v) (1 - v.half) (v.gen + 1) 0) = u2 at *
  refine s1.bind (f := fun u => (((u.fl 1).wr 1 (25 * (u.fl 1).half) (zThree (u.fl 1).gen (n32 ((u.fl 1).dn 0 0)) 0)).fl 1)) (((zfr_fl _ _).trans (zfr_wr _ _ _ _)).trans (zfr_fl _ _)) (fun _ q => ?_)
  obtain ⟨q1, q2, q3, q4, q5, q6, q7, q8, q9⟩ := q
  have q3 : 0 ≤ u2.plc := q3
  have q4 : u2.plc ≤ 0 + 3 * (v.opn - 1 - v.landed) := q4
  have q5 : ∀ b, b < 25 * (1 - v.half) + 1 + 0 ∨ 25 * (1 - v.half) + 1 + u2.plc ≤ b → u2.fn b = v.fn b := q5
  have q6 : ∀ e', v.landed + 1 ≤ e' → e' < v.landed + 1 + (v.opn - 1 - v.landed) → zThere u2.fn (25 * (1 - v.half) + 1) 0 u2.plc (v.gen + 1) e' (v.dl e') ∧ zLastThere u2.fn (25 * (1 - v.half) + 1) 0 u2.plc (v.gen + 1) e' := q6
  have q8 : u2.p.dv 0 = v.p.dv 0 := q8
  have q9 : v.p.na ≤ u2.p.na := q9
  have hQ2 : QH 1 u2.fn := q1.q1 _ (ZDv.out_now _)
  have u2h : u2.half = 1 - v.half := q2.half
  have u2g : u2.gen = v.gen + 1 := q2.gen
  have u2s : u2.sets = v.sets := q2.sets
  have u2w : u2.ways = v.ways := q2.ways
  have u2e : u2.eps = v.eps := q2.eps
  -- what will count
  obtain ⟨f2, hf2⟩ : ∃ f2, f2 = zu u2.fn (25 * (1 - v.half)) (zThree (v.gen + 1) (n32 (v.dn 0 0)) 0) := ⟨_, rfl⟩
  have hHH : 1 - (1 - v.half) = v.half := by omega
  have f2r : ∀ k, k < 24 → f2 (25 * (1 - v.half) + 1 + k) = u2.fn (25 * (1 - v.half) + 1 + k) := fun k hk => by rw [hf2, zu_ne _ _ (by omega)]
  have f2o : ∀ b, b < 50 → ¬ (25 * (1 - v.half) ≤ b ∧ b < 25 * (1 - v.half) + 25) → f2 b = v.fn b := fun b hb1 hb2 => by
    rw [hf2, zu_ne _ _ (by omega)]; exact hQ2.1 b hb1 (by omega)
  have f2s : ∀ s, f2 (50 + s) = v.fn (50 + s) := fun s => by
    rw [hf2, zu_ne _ _ (by omega)]
    exact q5 _ (by omega)
  have hFl : ∀ (m : Nat) (sb' se' : Nat → Nat) (pl' : Nat), v.p.na + 1 ≤ m → u2.plc ≤ pl' → pl' ≤ 24 → (∀ s, s < v.n → 0 < v.se s → v.se s < v.opn → se' s = v.se s ∧ sb' s = v.sb s) → (∀ s, s < v.n → 0 < se' s → se' s < v.opn → se' s = v.se s) → ZFl (P m) v.sets v.ways v.eps v.dn f2 (n32 (v.dn 0 0)) v.landed v.opn (1 - v.half) (v.gen + 1) pl' sb' se' := by
    intro m sb' se' pl' hm hp1 hp2 hs1 hs2
    refine h.fl.build (fun V q => hP _ _ V hm q) rfl (fun s hs s1 s2 => ⟨(hs1 s hs s1 s2).1, (hs1 s hs s1 s2).2, f2s s⟩) hs2 (by omega) (by rw [hf2, zu_self]; rfl) (by omega) (by rw [hf2, zu_self]; rfl) ?_ ?_ ?_ ?_ ?_ hp2
    · right; rw [hHH, f2o _ (by omega) (by omega), hg32]; omega
    · rw [hHH, f2o _ (by omega) (by omega), h.fl.hi, n32_iN (by omega)]; omega
    · intro k hk
      rw [f2r k hk]
      have := hQ2.2.2 k hk
      exact ⟨this.1, fun hx => Or.inr (Or.inl ⟨(this.2 hx).2.1, (this.2 hx).2.2⟩)⟩
    · intro k hk
      rw [hHH, f2o _ (by omega) (by omega)]
      have := (h.fl.ha k hk).1
      exact ⟨by omega, fun hx => by omega⟩
    · intro e he1 he2
      obtain ⟨t1, t2⟩ := q6 e (by omega) (by omega)
      constructor
      · obtain ⟨k, _, k2, k3⟩ := t2
        exact ⟨k, by omega, by rw [f2r k (by omega)]; exact k3⟩
      · intro s hs hse
        obtain ⟨k, _, k2, k3⟩ := t1 s (mem_zDl.mpr ⟨hs, hse⟩)
        exact ⟨k, by omega, by rw [f2r k (by omega)]; exact k3⟩
  have s2 : ZOk P (fun u => ZPh P (v.p.na + 1) (zu QH 1 (· = u2.fn)) u ∧ ZKp u2 u ∧ u.plc = u2.plc ∧ u.fn = u2.fn ∧ u.p.dv 0 = v.p.dv 0 ∧ v.p.na + 1 ≤ u.p.na) (u2.fl 1) := by
    refine (q1.fl1 hP).imp (fun _ r => ?_)
    obtain ⟨r1, r2, r3, r4, r5, r6⟩ := r
    exact ⟨r1, r2.kp, r2.plc, r3, r5.trans q8, by omega⟩
  refine s2.bind (f := fun u => ((u.wr 1 (25 * u.half) (zThree u.gen (n32 (u.dn 0 0)) 0)).fl 1)) ((zfr_wr _ _ _ _).trans (zfr_fl _ _)) (fun _ r => ?_)
  generalize u2.fl 1 = u3 at *
  obtain ⟨r1, r2, r3, r4, r5, r6⟩ := r
  have u3d : u3.dn = v.dn := by show (u3.p.dv 0).now = _; rw [r5]
  have hx3 : zu u3.fn (25 * u3.half) (zThree u3.gen (n32 (u3.dn 0 0)) 0) = f2 := by rw [r4, r2.half, u2h, r2.gen, u2g, u3d, hf2]
  have p3 : ZPh P (v.p.na + 2) (zu QH 1 (fun sf => sf = u2.fn ∨ sf = f2)) u3 := by
    refine r1.re (by omega) (fun s hs => hs) (fun s hs => Or.inl hs) (fun sd sf h0 h1 => ?_)
    have h0 : sd = v.dn := h0
    rw [r2.sets, u2s, r2.ways, u2w, r2.eps, u2e]
    rcases h1 with h1 | h1
    · subst h1; exact zOK_mono hP (by omega) (okH sd u2.fn h0 hQ2)
    · subst h0; subst h1
      exact h.okFl (fun V q => hP _ _ V (by omega) q) (by omega) (by omega) (by omega) (hFl _ _ _ 24 (by omega) (by omega) (Nat.le_refl _) (fun s _ _ s2 => ⟨zShut_eq s2, rfl⟩) (fun s _ s1 _ => zShut_pos s1))
  have s3 := p3.wr1 hP (b := 25 * u3.half) (x := zThree u3.gen (n32 (u3.dn 0 0)) 0) (fun s hs => by
    have hs : s = u2.fn ∨ s = f2 := hs
    show zu s _ _ = u2.fn ∨ zu s _ _ = f2
    right
    rcases hs with hs | hs
    · rw [hs, ← r4, hx3]
    · rw [hs, ← hx3, zu_zu])
  refine s3.bind (f := fun u => u.fl 1) (zfr_fl _ _) (fun _ t => ?_)
  generalize u3.wr 1 (25 * u3.half) (zThree u3.gen (n32 (u3.dn 0 0)) 0) = u4 at *
  obtain ⟨t1, t2, t3, t4, t5⟩ := t
  refine (t1.fl1 hP).imp (fun hup y => ?_)
  generalize u4.fl 1 = w at *
  obtain ⟨y1, y2, y3, y4, y5, y6⟩ := y
  have kk : ZKp u2 w := (r2.trans t2.kp).trans y2.kp
  have ksb : w.sb = v.sb := kk.sb.trans q2.sb
  have kse : w.se = v.se := kk.se.trans q2.se
  have kmrk : w.mrk = v.mrk := kk.mrk.trans q2.mrk
  have khd : w.hd = v.hd := kk.hd.trans q2.hd
  have kopn : w.opn = v.opn := kk.opn.trans q2.opn
  have khalf : w.half = 1 - v.half := kk.half.trans u2h
  have kgen : w.gen = v.gen + 1 := kk.gen.trans u2g
  have ksets : w.sets = v.sets := kk.sets.trans u2s
  have kways : w.ways = v.ways := kk.ways.trans u2w
  have keps : w.eps = v.eps := kk.eps.trans u2e
  have kwf : w.wf = v.wf := kk.wf.trans q2.wf
  have kplc : w.plc = u2.plc := y2.plc.trans (t2.plc.trans r3)
  have kd0 : w.p.dv 0 = v.p.dv 0 := y5.trans (t4.trans r5)
  have kdn : w.dn = v.dn := by show (w.p.dv 0).now = _; rw [kd0]
  have kfn : w.fn = f2 := y3.trans (t3.trans hx3)
  have kn : w.n = v.n := by show w.sets * w.ways = _; rw [ksets, kways]
  have kL : w.landed = v.landed := by unfold ZVs.landed; rw [kdn]
  have kna : v.p.na + 1 ≤ w.p.na := by omega
  have hm : ZRm P w.plc w := by
    refine ⟨hup, by rw [kwf]; exact h.wf, by rw [ksets, kways, keps]; exact h.sz, by rw [kd0]; exact h.pd0, by rw [kdn, kL]; exact h.hd, by rw [kdn]; exact h.h0, ?_, ?_, by rw [kn, ksb, kse]; exact h.t0, by rw [kn, kse, kopn]; exact h.t1, by rw [kn, ksb, ksets, kways]; exact h.t2, by rw [kn, ksb, kse]; exact h.t3, ?_, ?_, by rw [khd, kways]; exact h.hh, by rw [kdn]; omega, by rw [kopn]; omega, by rw [kgen]; omega⟩
    · rw [ksets, kways, keps, kdn, kfn, kL, kopn, khalf, kgen, kplc, ksb, kse]
      exact hFl _ _ _ _ (by omega) (Nat.le_refl _) (by omega) (fun _ _ _ _ => ⟨rfl, rfl⟩) (fun _ _ _ _ => rfl)
    · rw [y4]; intro e he; cases he
    · rw [kn, ksb, kse, kfn, kdn]
      intro s hs s1 s2
      rw [f2s]; exact h.t4 s hs s1 s2
    · unfold ZVs.dirty ZVs.dl; rw [kn, kse, kopn]; exact h.t5
  refine ⟨⟨hm, ?_, ?_⟩, ?_, ⟨ksb, kse, kmrk, khd, kopn⟩, kd0, by omega, fun s => by rw [kfn]; exact f2s s, kgen⟩
  · intro k hk
    rw [kfn, khalf, hHH, kgen, f2o _ (by omega) (by omega)]
    have := (h.fl.ha k hk).1
    omega
  · intro k hk hx
    rw [kfn, khalf, f2r k hk] at hx ⊢
    rw [kgen] at hx
    rw [kopn]
    exact ((hQ2.2.2 k hk).2 hx).2.1
  · funext b
    unfold ZVs.cur ZVs.newest
    rw [kwf, ksb, kse, kn, kdn, kfn]
    cases zNew v.sb v.se b v.n with
    | none => rfl
    | some s => dsimp only; rw [f2s]
end
set_option linter.defProp false in
def ZRf.changeHalves {P : Nat → ZSt → Prop} {v : ZVs} (h : ZRf P v) (hP : ∀ m m' V, m ≤ m' → P m V → P m' V) := @ZRm.changeHalves P hP v.plc v h.toZRm
/-! CLOSING AN EPOCH -/
theorem ZRm.vol_cur {P : Nat → ZSt → Prop} {pl : Nat} {v : ZVs} (h : ZRm P pl v) : zVol (zDisc v.dn) v.fn v.sb v.se v.n v.opn = v.cur := by
  funext b
  unfold zVol
  rcases h.cur_cases b with ⟨s, q1, q2, q3, q4, q5⟩ | ⟨q1, q2, q3⟩
  · rw [q5]
    by_cases hs : v.se s = 0
    · rw [zNew_none.mpr]
      · dsimp only
        rw [zDisc_0 h.h0, h.t4 s q1 (by omega) hs, q2]; rfl
      · intro i hi hu
        obtain ⟨u1, u2, u3⟩ := zUp_eq.mp hu
        have := q3 i hi u3
        omega
    · have : zNew (zUp v.sb v.se v.opn) v.se b v.n = some s := by
        refine zNew_eq (fun i hi hui hse => ?_) q1 (zUp_eq.mpr ⟨by omega, h.t1 s q1, q2⟩) (fun i hi hui => ?_)
        · obtain ⟨u1, u2, u3⟩ := zUp_eq.mp hui
          exact h.t3 i s hi q1 (by omega) (by omega) (Or.inl hse)
        · obtain ⟨u1, u2, u3⟩ := zUp_eq.mp hui
          exact q3 i hi u3
      rw [this]
  · rw [q3, zNew_none.mpr]
    · dsimp only; rw [zDisc_0 h.h0]; rfl
    · intro i hi hu
      obtain ⟨u1, u2, u3⟩ := zUp_eq.mp hu
      exact q1 i hi u3
set_option linter.defProp false in
def ZRf.vol_cur {P : Nat → ZSt → Prop} {v : ZVs} (h : ZRf P v) := @ZRm.vol_cur P v.plc v h.toZRm
/-- the flash once the open epoch's records are there -/
abbrev ZFc (v : ZVs) (f : ZSt) (pl : Nat) : Prop := (v.plc ≤ pl) ∧ (pl ≤ 24) ∧ (∀ b, ¬ (25 * v.half + 1 + v.plc ≤ b ∧ b < 25 * v.half + 25) → f b = v.fn b) ∧ (∀ k, v.plc ≤ k → k < pl → n32 (f (25 * v.half + 1 + k) 0) = v.gen ∧ n32 (f (25 * v.half + 1 + k) 1) = v.opn ∧ zTrue v.n v.sb v.se (f (25 * v.half + 1 + k))) ∧ (∀ k, pl ≤ k → k < 24 → f (25 * v.half + 1 + k) = v.fn (25 * v.half + 1 + k))
theorem ZFc.le {v : ZVs} {f : ZSt} {pl : Nat} (h : ZFc v f pl) : v.plc ≤ pl := h.1
theorem ZFc.l24 {v : ZVs} {f : ZSt} {pl : Nat} (h : ZFc v f pl) : pl ≤ 24 := h.2.1
theorem ZFc.out {v : ZVs} {f : ZSt} {pl : Nat} (h : ZFc v f pl) : ∀ b, ¬ (25 * v.half + 1 + v.plc ≤ b ∧ b < 25 * v.half + 25) → f b = v.fn b := h.2.2.1
theorem ZFc.mid {v : ZVs} {f : ZSt} {pl : Nat} (h : ZFc v f pl) : ∀ k, v.plc ≤ k → k < pl → n32 (f (25 * v.half + 1 + k) 0) = v.gen ∧ n32 (f (25 * v.half + 1 + k) 1) = v.opn ∧ zTrue v.n v.sb v.se (f (25 * v.half + 1 + k)) := h.2.2.2.1
theorem ZFc.rest {v : ZVs} {f : ZSt} {pl : Nat} (h : ZFc v f pl) : ∀ k, pl ≤ k → k < 24 → f (25 * v.half + 1 + k) = v.fn (25 * v.half + 1 + k) := h.2.2.2.2
section
theorem ZRf.closed {P : Nat → ZSt → Prop} (hP : ∀ m m' V, m ≤ m' → P m V → P m' V) {v : ZVs} (h : ZRf P v) {f : ZSt} {pl pl' m : Nat} {se' : Nat → Nat} (hm : v.p.na + 1 ≤ m) (hcur : P m v.cur) (hE : v.opn - v.landed ≤ v.eps) (hd : v.dl v.opn ≠ []) (hf : ZFc v f pl) (hT : zThere f (25 * v.half + 1) v.plc pl v.gen v.opn (v.dl v.opn)) (hL : zLastThere f (25 * v.half + 1) v.plc pl v.gen v.opn) (hp : pl ≤ pl') (hp' : pl' ≤ 24) (hse : ∀ s, s < v.n → se' s = v.se s) : ZFl (P m) v.sets v.ways v.eps v.dn f (n32 (v.dn 0 0)) v.landed (v.opn + 1) v.half v.gen pl' v.sb se' := by
  have hLo := h.fl.hLo; have hH := h.fl.hH
  have hfl : ∀ k, k < 24 → (k < v.plc → f (25 * v.half + 1 + k) = v.fn (25 * v.half + 1 + k)) := fun k hk hk2 => hf.out _ (by omega)
  have hs : ∀ s, f (50 + s) = v.fn (50 + s) := fun s => hf.out _ (by omega)
  have hfo : ∀ b, b < 50 → ¬ (25 * v.half + 1 ≤ b ∧ b < 25 * v.half + 25) → f b = v.fn b := fun b hb1 hb2 => hf.out b (by omega)
  have hT' : ∀ r, zTrue v.n v.sb v.se r → zTrue v.n v.sb se' r := by
    intro r hr
    refine ⟨hr.1, fun j hj => ?_⟩
    obtain ⟨s, b, q1, q2, q3, q4, q5, q6⟩ := hr.2 j hj
    exact ⟨s, b, q1, q2, q3, q4, by rw [hse s q3]; exact q5, q6⟩
  refine ⟨hH, by rw [hfo _ (by omega) (by omega)]; exact h.fl.hg, h.fl.hg1, by rw [hfo _ (by omega) (by omega)]; exact h.fl.hi, by rw [hfo _ (by omega) (by omega)]; exact h.fl.ho, by rw [hfo _ (by omega) (by omega)]; exact h.fl.hj, by omega, by omega, ?_, ?_, ?_, hp', ?_, ?_, ?_, ?_, ?_⟩
  · intro k hk
    by_cases hk1 : v.plc ≤ k ∧ k < pl
    · have := hf.mid k hk1.1 hk1.2
      exact ⟨by omega, fun _ => Or.inr (Or.inl ⟨by omega, hT' _ this.2.2⟩)⟩
    · have hk2 : f (25 * v.half + 1 + k) = v.fn (25 * v.half + 1 + k) := by
        by_cases hk3 : k < v.plc
        · exact hfl k hk hk3
        · exact hf.rest k (by omega) hk
      rw [hk2]
      refine ⟨(h.fl.ha k hk).1, fun hg => ?_⟩
      have ho := h.oa k hk hg
      rcases (h.fl.ha k hk).2 hg with q | q | q
      · exact Or.inl q
      · exact Or.inr (Or.inl ⟨by omega, hT' _ q.2⟩)
      · omega
  · intro k hk
    rw [hfo _ (by omega) (by omega)]
    have := h.ot k hk
    exact ⟨by omega, fun hx => by omega⟩
  · intro e he1 he2
    by_cases hee : e = v.opn
    · subst hee
      constructor
      · obtain ⟨k, k1, k2, k3⟩ := hL
        exact ⟨k, by omega, k3⟩
      · intro s hs1 hs2
        rw [hse s hs1] at hs2
        obtain ⟨k, k1, k2, k3⟩ := hT s (mem_zDl.mpr ⟨hs1, hs2⟩)
        exact ⟨k, by omega, k3⟩
    · obtain ⟨⟨k, q1, q2⟩, q3⟩ := h.fl.hc e he1 (by omega)
      have hpl := h.fl.hpl; have hle := hf.le
      refine ⟨⟨k, by omega, by rw [hfl k (by omega) q1]; exact q2⟩, fun s hs1 hs2 => ?_⟩
      rw [hse s hs1] at hs2
      obtain ⟨k, p1, p2⟩ := q3 s hs1 hs2
      exact ⟨k, by omega, by rw [hfl k (by omega) p1]; exact p2⟩
  · intro s hs1 hs2 hs3
    rw [hse s hs1] at hs2 hs3 ⊢
    by_cases hee : v.se s = v.opn
    · have hb : v.sb s ≠ 0 := fun hx => by have := h.t0 s hs1 hx; omega
      have := h.t2 s hs1 hb
      exact ⟨by omega, by omega, this.1, this.2⟩
    · exact h.fl.tb s hs1 hs2 (by omega)
  · intro s s' hs1 hs1' hs2 hs3 hq hb
    rw [hse s hs1] at hs2 hs3 hq
    rw [hse s' hs1'] at hq
    have hb0 : v.sb s ≠ 0 := fun hx => by have := h.t0 s hs1 hx; omega
    exact h.t3 s s' hs1 hs1' hb0 hb (Or.inl hq)
  · intro e he1 he2
    rw [zDl_congr (se := v.se) (fun s hs1 => by rw [hse s hs1])]
    by_cases hee : e = v.opn
    · rw [hee]; exact h.t5
    · exact h.fl.tc e he1 (by omega)
  · intro e he1 he2
    by_cases hee : e = v.opn
    · obtain ⟨s, hs1⟩ := List.exists_mem_of_ne_nil _ hd
      have := mem_zDl.mp hs1
      exact ⟨s, this.1, by rw [hse s this.1, hee]; exact this.2⟩
    · obtain ⟨s, q1, q2⟩ := h.fl.te e he1 (by omega)
      exact ⟨s, q1, by rw [hse s q1]; exact q2⟩
  · intro e he1 he2
    have hv : zVol (zDisc v.dn) f v.sb se' (v.sets * v.ways) e = zVol (zDisc v.dn) v.fn v.sb v.se (v.sets * v.ways) e :=
      zVol_congr rfl (fun s hs1 => by unfold zUp; rw [hse s hs1]) (fun s hs1 _ _ => ⟨hse s hs1, hs s⟩)
    rw [hv]
    by_cases hee : e = v.opn
    · rw [hee]; have := h.vol_cur; rw [this]; exact hcur
    · exact hP _ _ _ hm (h.fl.vp e he1 (by omega))
theorem ZRf.recsEnd {P : Nat → ZSt → Prop} {v x : ZVs} {n : Nat} (goal : ZOk P (fun w => ZKp v w ∧ ZFc v w.fn n ∧ zThere w.fn (25 * v.half + 1) v.plc n v.gen v.opn (v.dl v.opn) ∧ zLastThere w.fn (25 * v.half + 1) v.plc n v.gen v.opn ∧ (w.p.dv 1).pd = [] ∧ w.p.dv 0 = v.p.dv 0 ∧ v.p.na + 1 ≤ w.p.na) x) : ZOk P (fun w => ZKp v w ∧ ZFc v w.fn w.plc ∧ zThere w.fn (25 * v.half + 1) v.plc w.plc v.gen v.opn (v.dl v.opn) ∧ zLastThere w.fn (25 * v.half + 1) v.plc w.plc v.gen v.opn ∧ (w.p.dv 1).pd = [] ∧ w.p.dv 0 = v.p.dv 0 ∧ v.p.na + 1 ≤ w.p.na) (ZVs.s_plc x n) := by
  rcases goal with ⟨g1, g2⟩ | g
  · left
    exact ⟨g1, ⟨⟨g2.1.sb, g2.1.se, g2.1.mrk, g2.1.hd, g2.1.opn⟩, g2.1.gen, g2.1.half, g2.1.sets, g2.1.ways, g2.1.eps, g2.1.wf⟩, g2.2⟩
  · right; exact g.of_p rfl ⟨rfl, rfl, rfl⟩
/-- the open epoch's records: the last alone behind a flush -/
theorem ZRf.recsCl {P : Nat → ZSt → Prop} (hP : ∀ m m' V, m ≤ m' → P m V → P m' V) {v : ZVs} (h : ZRf P v) (hb : v.p.na + 300 < 2147483648) (hcur : P (v.p.na + 1) v.cur) (hE : v.opn - v.landed ≤ v.eps) : ∀ (k : Nat) (l : List Nat) (u : ZVs) (done : List Nat),
    ZPh P (v.p.na + 1) (fun k => if k = 0 then fun sd => sd = v.dn else fun sf => (∀ b, b < 50 → ¬ (25 * v.half + 1 + v.plc ≤ b ∧ b < 25 * v.half + 25) → sf b = v.fn b) ∧ (∀ s, s < v.n → 0 < v.se s → v.se s < v.opn → sf (50 + s) = v.fn (50 + s)) ∧ ∀ k, v.plc ≤ k → k < 24 → n32 (sf (25 * v.half + 1 + k) 0) ≤ v.gen ∧ (n32 (sf (25 * v.half + 1 + k) 0) = v.gen → n32 (sf (25 * v.half + 1 + k) 1) ≤ v.landed ∨ (n32 (sf (25 * v.half + 1 + k) 1) < v.opn ∧ zTrue v.n v.sb v.se (sf (25 * v.half + 1 + k))) ∨ (v.opn ≤ n32 (sf (25 * v.half + 1 + k) 1) ∧ sf (25 * v.half + 1 + k) 2 ≠ 1))) u →
    ZKp v u → ZFc v u.fn u.plc → zThere u.fn (25 * v.half + 1) v.plc u.plc v.gen v.opn done → done ++ l = v.dl v.opn → l ≠ [] → l.length ≤ 6 * k → u.plc + (l.length + 5) / 6 ≤ 24 → u.p.dv 0 = v.p.dv 0 → v.p.na ≤ u.p.na →
    ZOk P (fun w => ZKp v w ∧ ZFc v w.fn w.plc ∧ zThere w.fn (25 * v.half + 1) v.plc w.plc v.gen v.opn (v.dl v.opn) ∧ zLastThere w.fn (25 * v.half + 1) v.plc w.plc v.gen v.opn ∧ (w.p.dv 1).pd = [] ∧ w.p.dv 0 = v.p.dv 0 ∧ v.p.na + 1 ≤ w.p.na) (ZVs.recs v.opn true k l u) := by
  have hn1 := h.n1; have hn2 := h.n2; have hn3 := h.n3; have hLo := h.fl.hLo; have hH := h.fl.hH
  have hog : v.opn < 2147483648 := by omega
  have hgg : v.gen < 2147483648 := by omega
  intro k
  induction k with
  | zero =>
    intro l u done _ _ _ _ _ hl0 hl _ _ _
    exact absurd (List.length_eq_zero_iff.mp (by omega)) hl0
  | succ k ih =>
    intro l u done hph hk hfc hth hdone hl0 hl hp hd0 hna
    have hlen : 0 < l.length := List.length_pos_iff.mpr hl0
    have hlm : ∀ s ∈ l, s < v.n ∧ v.se s = v.opn ∧ 1 ≤ v.sb s ∧ v.sb s ≤ 106 := by
      intro s hs
      have hs' : s ∈ v.dl v.opn := by rw [← hdone]; exact List.mem_append_right _ hs
      have hm := mem_zDl.mp hs'
      have hb0 : v.sb s ≠ 0 := fun hx => by have := h.t0 s hm.1 hx; omega
      have := h.t2 s hm.1 hb0
      exact ⟨hm.1, hm.2, by omega, this.1⟩
    have htk : (l.take 6).length ≤ 6 := by simp; omega
    unfold ZVs.recs
    rw [if_neg hl0]
    dsimp only
    have htrue : zTrue v.n v.sb v.se (zRec u.gen v.opn (decide (l.length ≤ 6)) (l.take 6) u.sb) := by
      rw [hk.sb]; exact zRec_true hog htk (fun s hs => hlm s (List.mem_of_mem_take hs))
    have hr0 : n32 (zRec u.gen v.opn (decide (l.length ≤ 6)) (l.take 6) u.sb 0) = v.gen := by rw [zRec_0, hk.gen]; exact n32_iN hgg
    have hr1 : n32 (zRec u.gen v.opn (decide (l.length ≤ 6)) (l.take 6) u.sb 1) = v.opn := by rw [zRec_1]; exact n32_iN hog
    have hr2 : zRec u.gen v.opn (decide (l.length ≤ 6)) (l.take 6) u.sb 2 = if decide (l.length ≤ 6) = true then 1 else 0 := zRec_2
    have hr3 : n32 (zRec u.gen v.opn (decide (l.length ≤ 6)) (l.take 6) u.sb 3) = (l.take 6).length := by rw [zRec_3]; exact n32_iN (by omega)
    have hrs : ∀ j (hj : j < (l.take 6).length), zRec u.gen v.opn (decide (l.length ≤ 6)) (l.take 6) u.sb (4 + 2 * j) = iN (l.take 6)[j] := fun j hj => zRec_slot hj
    generalize zRec u.gen v.opn (decide (l.length ≤ 6)) (l.take 6) u.sb = r at *
    rw [hk.half]
    -- what the flash is with this record
    have hfc' : ∀ f, f = zu u.fn (25 * v.half + 1 + u.plc) r → ZFc v f (u.plc + 1) ∧ zThere f (25 * v.half + 1) v.plc (u.plc + 1) v.gen v.opn (done ++ l.take 6) := by
      intro f hf
      have hle := hfc.le
      refine ⟨⟨by omega, by omega, fun b hb' => ?_, fun k' k1 k2 => ?_, fun k' k1 k2 => ?_⟩, ?_⟩
      · rw [hf, zu_ne _ _ (by omega)]; exact hfc.out b hb'
      · by_cases hkk : k' = u.plc
        · rw [hkk, hf, zu_self]; exact ⟨hr0, hr1, htrue⟩
        · rw [hf, zu_ne _ _ (by omega)]; exact hfc.mid k' k1 (by omega)
      · rw [hf, zu_ne _ _ (by omega)]; exact hfc.rest k' (by omega) k2
      · intro s hs
        rcases List.mem_append.mp hs with hs | hs
        · obtain ⟨k', p1, p2, p3⟩ := hth s hs
          exact ⟨k', p1, by omega, by rw [hf, zu_ne _ _ (by omega)]; exact p3⟩
        · obtain ⟨j, hj1, hj2⟩ := List.getElem_of_mem hs
          refine ⟨u.plc, hle, by omega, ?_⟩
          rw [hf, zu_self]
          exact ⟨hr0, hr1, j, by rw [hr3]; exact hj1, by rw [hrs j hj1, hj2]⟩
    by_cases h6 : l.length ≤ 6
    · -- the last one
      rw [decide_eq_true h6] at hr2 ⊢
      simp only [Bool.and_true, if_true] at hr2 ⊢
      have hdr : l.drop 6 = [] := List.drop_eq_nil_iff.mpr h6
      have htk6 : l.take 6 = l := List.take_of_length_le h6
      rw [hdr]
      have hrn : ∀ w : ZVs, ZVs.recs v.opn true k [] w = w := by
        intro w; cases k with
        | zero => rfl
        | succ k => unfold ZVs.recs; rw [if_pos rfl]
      rw [hrn]
      have s1 := hph.fl1 hP
      have goal : ZOk P (fun w => ZKp v w ∧ ZFc v w.fn (u.plc + 1) ∧ zThere w.fn (25 * v.half + 1) v.plc (u.plc + 1) v.gen v.opn (v.dl v.opn) ∧ zLastThere w.fn (25 * v.half + 1) v.plc (u.plc + 1) v.gen v.opn ∧ (w.p.dv 1).pd = [] ∧ w.p.dv 0 = v.p.dv 0 ∧ v.p.na + 1 ≤ w.p.na) (((u.fl 1).wr 1 (25 * v.half + 1 + u.plc) r).fl 1) := by
        refine s1.bindG (f := fun x => (x.wr 1 (25 * v.half + 1 + u.plc) r).fl 1) (fun x => (zfr_wr _ _ _ _).trans (zfr_fl _ _)) (fun u1 _ q => ?_)
        obtain ⟨q1, q2, q3, q4, q5, q6⟩ := q
        obtain ⟨f2, hf2⟩ : ∃ f2, f2 = zu u.fn (25 * v.half + 1 + u.plc) r := ⟨_, rfl⟩
        obtain ⟨c1, c2⟩ := hfc' f2 hf2
        rw [htk6, hdone] at c2
        have c3 : zLastThere f2 (25 * v.half + 1) v.plc (u.plc + 1) v.gen v.opn := by
          refine ⟨u.plc, hfc.le, by omega, ?_⟩
          rw [hf2, zu_self]; exact ⟨hr0, hr1, hr2⟩
        have hdl0 : v.dl v.opn ≠ [] := by
          rw [← hdone]; intro hx; exact hl0 (List.append_eq_nil_iff.mp hx).2
        have kk := hk.trans q2.kp
        have p1 : ZPh P (v.p.na + 2) (zu (fun k => if k = 0 then fun sd => sd = v.dn else fun _ => True) 1 (fun sf => sf = u.fn ∨ sf = f2)) u1 := by
          refine q1.re (by omega) (fun s hs => hs) (fun s hs => Or.inl hs) (fun sd sf h0 h1 => ?_)
          have h0 : sd = v.dn := h0
          rw [kk.sets, kk.ways, kk.eps]
          rcases h1 with h1 | h1
          · subst h1; subst h0
            have := hph.ok v.dn u.fn rfl (hph.q1 _ (ZDv.out_now _))
            rw [hk.sets, hk.ways, hk.eps] at this
            exact zOK_mono hP (show v.p.na + 1 ≤ v.p.na + 2 by omega) this
          · subst h0; subst h1
            have hFl := h.closed hP (f := sf) (m := v.p.na + 2) (pl' := 24) (se' := v.se) (by omega) (hP _ _ _ (by omega) hcur) hE hdl0 c1 c2 c3 c1.l24 (Nat.le_refl _) (fun _ _ => rfl)
            refine ⟨n32 (v.dn 0 0), v.landed, h.hd, by omega, by omega, hP (v.p.na + 1) _ _ (by omega) (by rw [h.vol_base]; exact h.fl.vp _ (Nat.le_refl _) hLo), Or.inr (Or.inr ⟨v.opn + 1, v.half, v.gen, v.sb, v.se, by omega, by omega, fun s hs => ?_, hFl⟩)⟩
            have := h.t1 s hs; omega
        have s2 := p1.wr1 hP (b := 25 * v.half + 1 + u.plc) (x := r) (fun s hs => by
          have hs : s = u.fn ∨ s = f2 := hs
          show zu s _ _ = u.fn ∨ zu s _ _ = f2
          right
          rcases hs with hs | hs
          · rw [hs, hf2]
          · rw [hs, hf2, zu_zu])
        refine s2.bindG (f := fun x => x.fl 1) (fun x => zfr_fl _ _) (fun u2 _ t => ?_)
        obtain ⟨t1, t2, t3, t4, t5⟩ := t
        refine (t1.fl1 hP).impG (fun w hup y => ?_)
        obtain ⟨y1, y2, y3, y4, y5, y6⟩ := y
        have wfn : w.fn = f2 := by rw [y3, t3, q3, hf2]
        rw [wfn]
        exact ⟨(kk.trans t2.kp).trans y2.kp, c1, c2, c3, y4, y5.trans (t4.trans (q5.trans hd0)), by omega⟩
      exact ZRf.recsEnd goal
    · -- one before the last
      rw [decide_eq_false h6] at hr2 ⊢
      simp only [Bool.false_and, Bool.false_eq_true, if_false] at hr2 ⊢
      have s1 := hph.wr1 hP (b := 25 * v.half + 1 + u.plc) (x := r) (fun s hs => by
        have hle := hfc.le
        refine ⟨fun b hb' hb2 => ?_, fun t ht t1 t2 => ?_, fun k' k1 k2 => ?_⟩
        · rw [zu_ne _ _ (by omega)]; exact hs.1 b hb' hb2
        · rw [zu_ne _ _ (by omega)]; exact hs.2.1 t ht t1 t2
        · by_cases hkk : k' = u.plc
          · rw [hkk, zu_self]
            refine ⟨by omega, fun _ => Or.inr (Or.inr ⟨by omega, ?_⟩)⟩
            rw [hr2]; decide
          · rw [zu_ne _ _ (by omega)]; exact hs.2.2 k' k1 k2)
      refine s1.bindG (f := fun x => ZVs.recs v.opn true k (l.drop 6) (ZVs.s_plc x (u.plc + 1))) (c := 3 * k) (fun x => zfr_recs_plc _ _ _ _ _ _) (fun u1 hup q => ?_)
      · obtain ⟨q1, q2, q3, q4, q5⟩ := q
        have hdl : (l.drop 6).length = l.length - 6 := by simp
        have kk := hk.trans q2.kp
        obtain ⟨c1, c2⟩ := hfc' u1.fn q3
        refine ih (l.drop 6) (ZVs.s_plc u1 (u.plc + 1)) (done ++ l.take 6) ⟨q1.up, q1.sz, q1.na, q1.q0, q1.q1, q1.ok⟩ ⟨⟨kk.sb, kk.se, kk.mrk, kk.hd, kk.opn⟩, kk.gen, kk.half, kk.sets, kk.ways, kk.eps, kk.wf⟩ c1 c2 ?_ ?_ (by omega) (by show u.plc + 1 + _ ≤ 24; omega) (q4.trans hd0) (Nat.le_trans hna q5)
        · rw [List.append_assoc, List.take_append_drop]; exact hdone
        · intro hx; have := congrArg List.length hx; simp at this; omega
end
