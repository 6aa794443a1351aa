theorem zcur_same {v w : ZVs} (h1 : w.wf = v.wf) (h2 : w.sb = v.sb) (h3 : w.se = v.se) (h4 : w.n = v.n) (h5 : w.dn = v.dn) (h6 : ∀ s, w.fn (50 + s) = v.fn (50 + s)) : w.cur = v.cur := by
  funext b
  unfold ZVs.cur ZVs.newest
  rw [h1, h2, h3, h4, h5]
  cases zNew v.sb v.se b v.n with
  | none => rfl
  | some s => dsimp only; rw [h6]
section
/-- the closing records, and the next epoch -/
theorem ZRf.shut {P : Nat → ZSt → Prop} (hP : ∀ m m' V, m ≤ m' → P m V → P m' V) {v : ZVs} (h : ZRf P v) (hb : v.p.na + 300 < 2147483648) (hcur : P (v.p.na + 1) v.cur) (hE : v.opn - v.landed ≤ v.eps) (hd : v.dl v.opn ≠ []) (hpl : v.plc + ((v.dl v.opn).length + 5) / 6 ≤ 24) : ZOk P (fun u => ZRf P u ∧ u.cur = v.cur ∧ u.opn = v.opn + 1 ∧ u.sb = v.sb ∧ u.se = v.se ∧ u.p.dv 0 = v.p.dv 0 ∧ u.dirty u.opn = 0) (ZVs.s_opn (ZVs.recsAll v.opn true v) ((ZVs.recsAll v.opn true v).opn + 1)) := by
  have hn1 := h.n1; have hn2 := h.n2; have hn3 := h.n3; have hLo := h.fl.hLo; have hH := h.fl.hH; have hp24 := h.fl.hpl
  have hlen : (v.dl v.opn).length ≤ 16 := h.t5
  have s1 := ZRf.recsCl hP h hb hcur hE 11 (v.dl v.opn) v [] ?_ (ZKp.refl v) ⟨Nat.le_refl _, h.fl.hpl, fun _ _ => rfl, fun k k1 k2 => by omega, fun _ _ _ => rfl⟩ (fun s hs => by cases hs) rfl hd (by omega) hpl rfl (Nat.le_refl _)
  · have z := zfr_recsAll v.opn true v
    unfold ZVs.recsAll at z ⊢
    generalize ZVs.recs v.opn true 11 (v.dl v.opn) v = w at *
    rcases s1 with ⟨hup, k, fc, th, la, pd, d0, na⟩ | s1
    · left
      have wdn : w.dn = v.dn := by show (w.p.dv 0).now = _; rw [d0]
      have wn : w.n = v.n := by show w.sets * w.ways = _; rw [k.sets, k.ways]
      have wL : w.landed = v.landed := by unfold ZVs.landed; rw [wdn]
      have hs50 : ∀ s, w.fn (50 + s) = v.fn (50 + s) := fun s => fc.out _ (by omega)
      refine ⟨hup, ⟨⟨hup, by show w.wf = true; rw [k.wf]; exact h.wf, by show ZSz w.sets w.ways w.eps; rw [k.sets, k.ways, k.eps]; exact h.sz, by show (w.p.dv 0).pd = []; rw [d0]; exact h.pd0, ?_, ?_, ?_, ?_, ?_, ?_, ?_, ?_, ?_, ?_, ?_, ?_, ?_, ?_⟩, ?_, ?_⟩, ?_, ?_, k.sb, k.se, d0, ?_⟩
      · show ZHead w.dn (n32 (w.dn 0 0)) w.landed
        rw [wdn, wL]; exact h.hd
      · show w.dn 1 0 ≠ 1
        rw [wdn]; exact h.h0
      · show ZFl (P (w.p.na + 1)) w.sets w.ways w.eps w.dn w.fn (n32 (w.dn 0 0)) w.landed (w.opn + 1) w.half w.gen w.plc w.sb w.se
        rw [k.sets, k.ways, k.eps, wdn, wL, k.opn, k.half, k.gen, k.sb]
        exact h.closed hP (by omega) (hP _ _ _ (by omega) hcur) hE hd fc th la (Nat.le_refl _) fc.l24 (fun s _ => by rw [k.se])
      · show ∀ e ∈ (w.p.dv 1).pd, _
        rw [pd]; intro e he; cases he
      · show ∀ s, s < w.n → w.sb s = 0 → w.se s = 0
        rw [wn, k.sb, k.se]; exact h.t0
      · show ∀ s, s < w.n → w.se s ≤ w.opn + 1
        rw [wn, k.se, k.opn]; intro s hs; have := h.t1 s hs; omega
      · show ∀ s, s < w.n → w.sb s ≠ 0 → w.sb s ≤ 106 ∧ s / w.ways = (w.sb s - 1) % w.sets
        rw [wn, k.sb, k.sets, k.ways]; exact h.t2
      · show ∀ s s', s < w.n → s' < w.n → w.sb s ≠ 0 → w.sb s = w.sb s' → w.se s = w.se s' ∨ w.se s = 0 → s = s'
        rw [wn, k.sb, k.se]; exact h.t3
      · show ∀ s, s < w.n → w.sb s ≠ 0 → w.se s = 0 → w.fn (50 + s) = w.dn (19 + (w.sb s - 1))
        rw [wn, k.sb, k.se, wdn]
        intro s hs s1 s2
        rw [hs50]; exact h.t4 s hs s1 s2
      · show (zDl w.se (w.opn + 1) w.n).length ≤ 16
        have : zDl w.se (w.opn + 1) w.n = [] := by
          rw [List.eq_nil_iff_forall_not_mem]
          intro s hs
          have := mem_zDl.mp hs
          rw [wn, k.se, k.opn] at this
          have := h.t1 s this.1
          omega
        rw [this]; simp
      · show ∀ set, w.hd set < w.ways
        rw [k.hd, k.ways]; exact h.hh
      · show n32 (w.dn 0 0) ≤ w.p.na + 1
        rw [wdn]; omega
      · show w.opn + 1 ≤ w.p.na + 1
        rw [k.opn]; omega
      · show w.gen ≤ w.p.na + 1
        rw [k.gen]; omega
      · show ∀ k, k < 24 → n32 (w.fn (25 * (1 - w.half) + 1 + k) 0) ≤ w.gen
        rw [k.half, k.gen]
        intro j hj
        rw [fc.out _ (by omega)]; exact h.ot j hj
      · show ∀ k, k < 24 → n32 (w.fn (25 * w.half + 1 + k) 0) = w.gen → n32 (w.fn (25 * w.half + 1 + k) 1) < w.opn + 1
        rw [k.half, k.gen, k.opn]
        intro j hj hx
        by_cases hj1 : v.plc ≤ j ∧ j < w.plc
        · have := fc.mid j hj1.1 hj1.2; omega
        · have hj2 : w.fn (25 * v.half + 1 + j) = v.fn (25 * v.half + 1 + j) := by
            by_cases hj3 : j < v.plc
            · exact fc.out _ (by omega)
            · exact fc.rest j (by omega) hj
          rw [hj2] at hx ⊢
          have := h.oa j hj hx; omega
      · exact zcur_same (v := v) k.wf k.sb k.se wn wdn hs50
      · show w.opn + 1 = v.opn + 1
        rw [k.opn]
      · show (zDl w.se (w.opn + 1) w.n).length = 0
        have : zDl w.se (w.opn + 1) w.n = [] := by
          rw [List.eq_nil_iff_forall_not_mem]
          intro s hs
          have := mem_zDl.mp hs
          rw [wn, k.se, k.opn] at this
          have := h.t1 s this.1
          omega
        rw [this]; rfl
    · right; exact s1.of_p rfl ⟨rfl, rfl, rfl⟩
  · refine ⟨h.up, h.sz, Nat.le_refl _, fun s hs => ?_, fun s hs => ?_, fun sd sf h0 h1 => ?_⟩
    · show s = v.dn
      rw [ZDv.out_nil h.pd0 hs, ← ZDv.now_nil h.pd0]
    · obtain ⟨q1, q2⟩ := h.notin hs
      refine ⟨fun b hb _ => q1 b hb, q2, fun k k1 k2 => ?_⟩
      rw [q1 _ (by omega)]
      exact h.fl.ha k k2
    · have h0 : sd = v.dn := h0
      subst h0
      obtain ⟨c1, c2, c3⟩ := h1
      have hlo : ∀ k, k < v.plc → sf (25 * v.half + 1 + k) = v.fn (25 * v.half + 1 + k) := fun k hk => c1 _ (by omega) (by omega)
      refine h.okFl (H := v.half) (g := v.gen) (fun _ q => q) hn1 hn2 hn3 ?_
      refine h.fl.build (fun _ q => q) rfl (fun s hs s1 s2 => ⟨zShut_eq s2, rfl, c2 s hs s1 s2⟩) (fun s hs s1 s2 => zShut_pos s1) hH (by rw [c1 _ (by omega) (by omega)]; exact h.fl.hg) h.fl.hg1 (by rw [c1 _ (by omega) (by omega)]; exact h.fl.hi) (by rw [c1 _ (by omega) (by omega)]; exact h.fl.ho) (by rw [c1 _ (by omega) (by omega)]; exact h.fl.hj) (fun k hk => ?_) (fun k hk => by rw [c1 _ (by omega) (by omega)]; exact h.fl.hb k hk) ?_ (Nat.le_refl _)
      · by_cases hk1 : k < v.plc
        · rw [hlo k hk1]; exact h.fl.ha k hk
        · exact c3 k (by omega) hk
      · intro e he1 he2
        obtain ⟨⟨k, q1, q2⟩, q3⟩ := h.fl.hc e he1 he2
        refine ⟨⟨k, by omega, by rw [hlo k q1]; exact q2⟩, fun s hs hse => ?_⟩
        obtain ⟨k, p1, p2⟩ := q3 s hs hse
        exact ⟨k, by omega, by rw [hlo k p1]; exact p2⟩
theorem ZRf.close {P : Nat → ZSt → Prop} (hP : ∀ m m' V, m ≤ m' → P m V → P m' V) {v : ZVs} (h : ZRf P v) (hcur : P (v.p.na + 1) v.cur) (hb : v.p.na + 1000 < 2147483648) : ZOk P (fun u => ZRf P u ∧ u.cur = v.cur ∧ u.dirty u.opn = 0 ∧ (v.dirty v.opn ≠ 0 → u.opn = v.opn + 1) ∧ (v.dirty v.opn = 0 → u = v) ∧ (∀ s, s < v.n → v.se s = v.opn → u.se s = v.opn) ∧ v.landed ≤ u.landed) v.close := by
  have he1 := h.sz.e1
  have he8 := h.sz.e8
  unfold ZVs.close
  split
  · rename_i hd0
    exact Or.inl ⟨h.up, h, rfl, hd0, fun hx => absurd hd0 hx, fun _ => rfl, fun _ _ hx => hx, Nat.le_refl _⟩
  · rename_i hd0
    dsimp only
    -- landing first
    have s1 : ZOk P (fun u => ZRf P u ∧ u.cur = v.cur ∧ u.opn = v.opn ∧ u.n = v.n ∧ u.eps = v.eps ∧ (∀ s, s < v.n → (v.se s = v.opn ↔ u.se s = v.opn)) ∧ v.opn - u.landed ≤ v.eps ∧ v.landed ≤ u.landed) v.landIf := by
      unfold ZVs.landIf
      have hE := h.fl.hE
      have hLo := h.fl.hLo
      split
      · rename_i hc
        unfold ZVs.land1
        rw [if_pos (by omega)]
        have hz := zfr_landOf (v.landed + 1) v h.sz
        refine (h.landOf hP (by omega) (by omega)).imp (fun _ q => ?_)
        obtain ⟨q1, q2, q3, q4, q5, q6, q7, q8, q9⟩ := q
        refine ⟨q1, q2, q4, ?_, hz.1.e, fun s hs => ?_, ?_, ?_⟩
        · show (ZVs.landOf (v.landed + 1) v).sets * (ZVs.landOf (v.landed + 1) v).ways = _
          rw [hz.1.s, hz.1.w]
        · rw [q8 s hs]; unfold zOff
          split
          · constructor <;> intro hx <;> omega
          · exact Iff.rfl
        · rw [q3]; omega
        · rw [q3]; omega
      · rename_i hc
        have : ¬ v.eps ≤ v.opn - 1 - v.landed := fun hx => hc ⟨h.up, hx⟩
        exact Or.inl ⟨h.up, h, rfl, rfl, rfl, rfl, fun _ _ => Iff.rfl, by omega, Nat.le_refl _⟩
    have z1 := (zfr_landIf v h.sz).1
    generalize v.landIf = v1 at *
    rcases s1 with ⟨hup, q1, q2, q3, q4, q5, q6, q7, q8⟩ | s1
    · rw [if_neg (by rw [hup]; exact Bool.noConfusion)]
      have hdl : v1.dl v1.opn = v.dl v.opn := by
        unfold ZVs.dl; rw [q3, q4]
        exact zDl_congr (fun s hs => (q6 s hs).symm)
      have hdne : v.dl v.opn ≠ [] := fun hx => hd0 (by unfold ZVs.dirty; rw [hx]; rfl)
      have hlen : (v.dl v.opn).length ≤ 16 := h.t5
      have hz1 := z1.n2
      have s2 : ZOk P (fun u => ZRf P u ∧ u.cur = v.cur ∧ u.opn = v.opn ∧ u.n = v.n ∧ u.eps = v.eps ∧ u.se = v1.se ∧ u.landed = v1.landed ∧ u.plc + ((v.dl v.opn).length + 5) / 6 ≤ 24 ∧ v1.p.na ≤ u.p.na) (if 24 - v1.plc < (v.dirty v.opn + 5) / 6 then v1.changeHalves else v1) := by
        have hplc := q1.fl.hpl
        split
        · have hz := zfr_changeHalves v1
          refine (q1.changeHalves hP (by omega)).imp (fun _ r => ?_)
          obtain ⟨r1, r2, r3, r4, r5, r6, r7⟩ := r
          refine ⟨r1, r2.trans q2, r3.opn.trans q3, ?_, hz.1.e.trans q5, r3.se, ?_, ?_, hz.1.n1⟩
          · show v1.changeHalves.sets * v1.changeHalves.ways = _
            rw [hz.1.s, hz.1.w]; exact q4
          · unfold ZVs.landed ZVs.dn; rw [r4]
          · have := q1.fl.hLo; omega
        · rename_i hx
          unfold ZVs.dirty at hx
          exact Or.inl ⟨hup, q1, q2, q3, q4, q5, rfl, rfl, by omega, Nat.le_refl _⟩
      have z2 : ZFr 267 v1 (if 24 - v1.plc < (v.dirty v.opn + 5) / 6 then v1.changeHalves else v1) := by
        split
        · exact (zfr_changeHalves v1).1
        · exact (ZFr.refl v1).mono (by omega)
      generalize (if 24 - v1.plc < (v.dirty v.opn + 5) / 6 then v1.changeHalves else v1) = v2 at *
      refine s2.bind (f := fun u => (ZVs.s_opn (ZVs.recsAll u.opn true u) ((ZVs.recsAll u.opn true u).opn + 1))) (c := 33) ?_ (fun _ r => ?_)
      · have z := (zfr_recsAll v2.opn true v2).1
        exact ⟨z.s, z.w, z.e, z.wf, z.dn, z.n1, z.n2⟩
      · obtain ⟨r1, r2, r3, r4, r5, r6, r7, r8, r9⟩ := r
        have hdl2 : v2.dl v2.opn = v.dl v.opn := by
          rw [← hdl]; unfold ZVs.dl; rw [r6, r3, r4, q3, q4]
        have hz2 := z2.n2
        have h1 := z1.n1
        refine (r1.shut hP (by omega) (by rw [r2]; exact hP _ _ _ (by omega) hcur) (by rw [r3, r5, r7]; exact q7) (by rw [hdl2]; exact hdne) (by rw [hdl2]; exact r8)).imp (fun _ t => ?_)
        obtain ⟨t1, t2, t3, t4, t5, t6, t7⟩ := t
        refine ⟨t1, t2.trans r2, t7, fun _ => by rw [t3, r3], fun hx => absurd hx hd0, fun s hs hx => ?_, ?_⟩
        · rw [t5, r6]; exact (q6 s hs).mp hx
        · have : ((ZVs.s_opn (ZVs.recsAll v2.opn true v2) ((ZVs.recsAll v2.opn true v2).opn + 1)) : ZVs).landed = v2.landed := by unfold ZVs.landed ZVs.dn; rw [t6]
          rw [this, r7]; exact q8
    · rw [if_pos s1.up]
      exact Or.inr s1
end
/-- what a claimed slot is -/
def ZCl (v : ZVs) (b i : Nat) : Prop := i < v.n ∧ i / v.ways = b % v.sets ∧ v.se i = 0 ∧ (v.sb i = b + 1 ∨ (v.sb i = 0 ∧ ∀ s, s < v.n → v.sb s = b + 1 → v.se s ≠ 0))
/-- ready to claim a slot for a block -/
abbrev ZJb (P : Nat → ZSt → Prop) (b : Nat) (C : ZSt) (v : ZVs) : Prop := ZRf P v ∧ (∀ s, s < v.n → v.sb s = b + 1 → v.se s ≠ v.opn) ∧ (v.dirty v.opn < 16) ∧ (v.cur = C)
theorem ZJb.toZRf {P : Nat → ZSt → Prop} {b : Nat} {C : ZSt} {v : ZVs} (h : ZJb P b C v) : ZRf P v := h.1
theorem ZJb.nb {P : Nat → ZSt → Prop} {b : Nat} {C : ZSt} {v : ZVs} (h : ZJb P b C v) : ∀ s, s < v.n → v.sb s = b + 1 → v.se s ≠ v.opn := h.2.1
theorem ZJb.nd {P : Nat → ZSt → Prop} {b : Nat} {C : ZSt} {v : ZVs} (h : ZJb P b C v) : v.dirty v.opn < 16 := h.2.2.1
theorem ZJb.cu {P : Nat → ZSt → Prop} {b : Nat} {C : ZSt} {v : ZVs} (h : ZJb P b C v) : v.cur = C := h.2.2.2
theorem ZJb.toZRm {P : Nat → ZSt → Prop} {b : Nat} {C : ZSt} {v : ZVs} (h : ZJb P b C v) : ZRm P v.plc v := h.1.toZRm
theorem ZJb.ot {P : Nat → ZSt → Prop} {b : Nat} {C : ZSt} {v : ZVs} (h : ZJb P b C v) : ∀ k, k < 24 → n32 (v.fn (25 * (1 - v.half) + 1 + k) 0) ≤ v.gen := h.1.ot
theorem ZJb.oa {P : Nat → ZSt → Prop} {b : Nat} {C : ZSt} {v : ZVs} (h : ZJb P b C v) : ∀ k, k < 24 → n32 (v.fn (25 * v.half + 1 + k) 0) = v.gen → n32 (v.fn (25 * v.half + 1 + k) 1) < v.opn := h.1.oa
theorem ZJb.up {P : Nat → ZSt → Prop} {b : Nat} {C : ZSt} {v : ZVs} (h : ZJb P b C v) : v.p.up = true := h.1.up
theorem ZJb.wf {P : Nat → ZSt → Prop} {b : Nat} {C : ZSt} {v : ZVs} (h : ZJb P b C v) : v.wf = true := h.1.wf
theorem ZJb.sz {P : Nat → ZSt → Prop} {b : Nat} {C : ZSt} {v : ZVs} (h : ZJb P b C v) : ZSz v.sets v.ways v.eps := h.1.sz
theorem ZJb.pd0 {P : Nat → ZSt → Prop} {b : Nat} {C : ZSt} {v : ZVs} (h : ZJb P b C v) : (v.p.dv 0).pd = [] := h.1.pd0
theorem ZJb.hd {P : Nat → ZSt → Prop} {b : Nat} {C : ZSt} {v : ZVs} (h : ZJb P b C v) : ZHead v.dn (n32 (v.dn 0 0)) v.landed := h.1.hd
theorem ZJb.h0 {P : Nat → ZSt → Prop} {b : Nat} {C : ZSt} {v : ZVs} (h : ZJb P b C v) : v.dn 1 0 ≠ 1 := h.1.h0
theorem ZJb.fl {P : Nat → ZSt → Prop} {b : Nat} {C : ZSt} {v : ZVs} (h : ZJb P b C v) : ZFl (P (v.p.na + 1)) v.sets v.ways v.eps v.dn v.fn (n32 (v.dn 0 0)) v.landed v.opn v.half v.gen v.plc v.sb v.se := h.1.fl
theorem ZJb.pdf {P : Nat → ZSt → Prop} {b : Nat} {C : ZSt} {v : ZVs} (h : ZJb P b C v) : ∀ e ∈ (v.p.dv 1).pd, ∃ s, s < v.n ∧ e.1 = 50 + s ∧ ¬ (0 < v.se s ∧ v.se s < v.opn) := h.1.pdf
theorem ZJb.t0 {P : Nat → ZSt → Prop} {b : Nat} {C : ZSt} {v : ZVs} (h : ZJb P b C v) : ∀ s, s < v.n → v.sb s = 0 → v.se s = 0 := h.1.t0
theorem ZJb.t1 {P : Nat → ZSt → Prop} {b : Nat} {C : ZSt} {v : ZVs} (h : ZJb P b C v) : ∀ s, s < v.n → v.se s ≤ v.opn := h.1.t1
theorem ZJb.t2 {P : Nat → ZSt → Prop} {b : Nat} {C : ZSt} {v : ZVs} (h : ZJb P b C v) : ∀ s, s < v.n → v.sb s ≠ 0 → v.sb s ≤ 106 ∧ s / v.ways = (v.sb s - 1) % v.sets := h.1.t2
theorem ZJb.t3 {P : Nat → ZSt → Prop} {b : Nat} {C : ZSt} {v : ZVs} (h : ZJb P b C v) : ∀ s s', s < v.n → s' < v.n → v.sb s ≠ 0 → v.sb s = v.sb s' → v.se s = v.se s' ∨ v.se s = 0 → s = s' := h.1.t3
theorem ZJb.t4 {P : Nat → ZSt → Prop} {b : Nat} {C : ZSt} {v : ZVs} (h : ZJb P b C v) : ∀ s, s < v.n → v.sb s ≠ 0 → v.se s = 0 → v.fn (50 + s) = v.dn (19 + (v.sb s - 1)) := h.1.t4
theorem ZJb.t5 {P : Nat → ZSt → Prop} {b : Nat} {C : ZSt} {v : ZVs} (h : ZJb P b C v) : v.dirty v.opn ≤ 16 := h.1.t5
theorem ZJb.hh {P : Nat → ZSt → Prop} {b : Nat} {C : ZSt} {v : ZVs} (h : ZJb P b C v) : ∀ set, v.hd set < v.ways := h.1.hh
theorem ZJb.n1 {P : Nat → ZSt → Prop} {b : Nat} {C : ZSt} {v : ZVs} (h : ZJb P b C v) : n32 (v.dn 0 0) ≤ v.p.na + 1 := h.1.n1
theorem ZJb.n2 {P : Nat → ZSt → Prop} {b : Nat} {C : ZSt} {v : ZVs} (h : ZJb P b C v) : v.opn ≤ v.p.na + 1 := h.1.n2
theorem ZJb.n3 {P : Nat → ZSt → Prop} {b : Nat} {C : ZSt} {v : ZVs} (h : ZJb P b C v) : v.gen ≤ v.p.na + 1 := h.1.n3
set_option linter.defProp false in
def ZJb.opn1 {P : Nat → ZSt → Prop} {b : Nat} {C : ZSt} {v : ZVs} (h : ZJb P b C v) := h.toZRf.opn1
set_option linter.defProp false in
def ZJb.cur_cases {P : Nat → ZSt → Prop} {bb : Nat} {C : ZSt} {v : ZVs} (h : ZJb P bb C v) := @ZRm.cur_cases P v.plc v h.toZRm
section
theorem ZRf.find {P : Nat → ZSt → Prop} (hP : ∀ m m' V, m ≤ m' → P m V → P m' V) {v : ZVs} (h : ZRf P v) {set : Nat} (hs : set < v.sets) : ZRf P (ZVs.find set (2 * v.ways) v).2 := by
  obtain ⟨f1, f2, f3, f4, f5, f6, f7⟩ := zfr_find set (2 * v.ways) v
  have hm := (h.toZRm.find hP hs).1
  generalize (ZVs.find set (2 * v.ways) v).2 = u at *
  have hfn : u.fn = v.fn := by show (u.p.dv 1).now = _; rw [f2]
  exact ⟨by rw [f6]; exact hm, by rw [hfn, f4, f5]; exact h.ot, by rw [hfn, f4, f5, f3]; exact h.oa⟩
theorem ZJb.claim {P : Nat → ZSt → Prop} (hP : ∀ m m' V, m ≤ m' → P m V → P m' V) {b : Nat} {C : ZSt} {v : ZVs} (h : ZJb P b C v) : ZJb P b C (v.claim b).2 ∧ (∀ i, (v.claim b).1 = some i → ZCl (v.claim b).2 b i) ∧ ((v.claim b).1 = none → ∀ w, w < v.ways → 0 < v.se (b % v.sets * v.ways + w)) := by
  have hset : b % v.sets < v.sets := Nat.mod_lt _ h.sz.s1
  unfold ZVs.claim
  cases hc : zClean v.sb v.se b v.n with
  | some i =>
    obtain ⟨c1, c2, c3⟩ := zClean_some hc
    refine ⟨h, fun j hj => ?_, fun hx => (by cases hx)⟩
    cases hj
    have := h.t2 i c1 (by omega)
    exact ⟨c1, by rw [this.2, c2]; rfl, c3, Or.inl c2⟩
  | none =>
    dsimp only
    have hcl := zClean_none hc
    obtain ⟨f1, f2, f3, f4, f5, f6, f7⟩ := zfr_find (b % v.sets) (2 * v.ways) v
    obtain ⟨m1, m2, m3, m4⟩ := h.toZRm.find hP hset
    have hr := h.toZRf.find hP hset
    obtain ⟨g1, g2, g3⟩ := find_spec (b % v.sets) (2 * v.ways) v (h.hh _)
    generalize hrr : ZVs.find (b % v.sets) (2 * v.ways) v = r at *
    obtain ⟨o, u⟩ := r
    dsimp only at *
    have un : u.n = v.n := by show u.sets * u.ways = _; rw [f1.s, f1.w]
    have usb : ∀ s, u.sb s ≠ 0 → u.sb s = v.sb s := by
      intro s hs
      cases o with
      | none => rw [g2 rfl]
      | some i =>
        have := (g3 i rfl).2.2
        rw [this] at hs ⊢
        by_cases hsi : s = i
        · rw [hsi, zu_self] at hs; exact absurd rfl hs
        · exact zu_ne _ _ hsi
    refine ⟨⟨hr, fun s hs hb => ?_, ?_, m2.trans h.cu⟩, fun i hi => ?_, m3⟩
    · rw [un] at hs
      rw [f7, f3]
      exact h.nb s hs (by rw [← usb s (by omega)]; exact hb)
    · unfold ZVs.dirty ZVs.dl; rw [f7, f3, un]; exact h.nd
    · obtain ⟨p1, p2, p3, p4⟩ := m4 i hi
      refine ⟨by rw [un]; exact p1, by rw [f1.w, f1.s]; exact p2, by rw [f7]; exact p3, Or.inr ⟨by rw [p4, zu_self], fun s hs hb => ?_⟩⟩
      rw [un] at hs
      rw [f7]
      exact hcl s hs (by rw [← usb s (by omega)]; exact hb)
theorem ZJb.land {P : Nat → ZSt → Prop} (hP : ∀ m m' V, m ≤ m' → P m V → P m' V) {b : Nat} {C : ZSt} {v : ZVs} (h : ZJb P b C v) (hL : v.landed + 1 < v.opn) (hb : v.p.na + 1 < 2147483648) : ZOk P (fun u => ZJb P b C u ∧ u.landed = v.landed + 1 ∧ u.opn = v.opn ∧ u.n = v.n ∧ u.sets = v.sets ∧ u.ways = v.ways ∧ (∀ s, s < v.n → u.se s = zOff v.se (v.landed + 1) s)) (ZVs.landOf (v.landed + 1) v) := by
  have hz := zfr_landOf (v.landed + 1) v h.sz
  have hLo := h.fl.hLo
  have hlsb : ∀ s, s < v.n → ((ZVs.landOf (v.landed + 1) v).sb s = v.sb s ∨ (ZVs.landOf (v.landed + 1) v).sb s = 0) ∨ True := fun _ _ => Or.inr trivial
  refine (h.toZRf.landOf hP hL hb).imp (fun _ q => ?_)
  obtain ⟨q1, q2, q3, q4, q5, q6, q7, q8, q9, q10⟩ := q
  have un : (ZVs.landOf (v.landed + 1) v).n = v.n := by
    show (ZVs.landOf (v.landed + 1) v).sets * (ZVs.landOf (v.landed + 1) v).ways = _
    rw [hz.1.s, hz.1.w]
  refine ⟨⟨q1, fun s hs hx => ?_, ?_, q2.trans h.cu⟩, q3, q4, un, hz.1.s, hz.1.w, q8⟩
  · rw [un] at hs
    rw [q8 s hs, q4]
    unfold zOff
    split
    · omega
    · rename_i hne
      exact h.nb s hs (by rw [← q9 s hs hne]; exact hx)
  · unfold ZVs.dirty ZVs.dl
    rw [un, q4, zDl_congr (se := v.se) (fun s hs => ?_)]
    · exact h.nd
    · rw [q8 s hs]; unfold zOff
      split
      · constructor <;> intro hx <;> omega
      · exact Iff.rfl
/-- while a closed epoch has slots in the set -/
theorem ZJb.loop1 {P : Nat → ZSt → Prop} (hP : ∀ m m' V, m ≤ m' → P m V → P m' V) {b : Nat} {C : ZSt} : ∀ (k : Nat) (v : ZVs), ZJb P b C v → (∀ w, w < v.ways → 0 < v.se (b % v.sets * v.ways + w)) → v.hasClosed (b % v.sets) → v.opn - 1 - v.landed ≤ k → v.p.na + 600 * k + 600 < 2147483648 →
    ZOk P (fun u => ZJb P b C u ∧ ∃ i, (ZVs.claimLoop b k (none, v)).1 = some i ∧ ZCl u b i) (ZVs.claimLoop b k (none, v)).2 := by
  intro k
  induction k with
  | zero =>
    intro v h hall hc hk
    exfalso
    obtain ⟨w, hw1, hw2, hw3⟩ := hc
    have hset : b % v.sets < v.sets := Nat.mod_lt _ h.sz.s1
    have hl := zset_lt (v := v) hset hw1
    have := (h.fl.tb _ hl.1 hw2 hw3).1
    have := h.fl.hLo
    omega
  | succ k ih =>
    intro v h hall hc hk hb
    have hset : b % v.sets < v.sets := Nat.mod_lt _ h.sz.s1
    unfold ZVs.claimLoop
    rw [if_neg (by rw [h.up]; exact Bool.noConfusion)]
    dsimp only
    rw [if_pos hc]
    have hL : v.landed + 1 < v.opn := by
      obtain ⟨w, hw1, hw2, hw3⟩ := hc
      have hl := zset_lt (v := v) hset hw1
      have := (h.fl.tb _ hl.1 hw2 hw3).1
      omega
    have hl1 : v.land1.2 = ZVs.landOf (v.landed + 1) v := by unfold ZVs.land1; rw [if_pos hL]
    rw [hl1]
    have hz := zfr_landOf (v.landed + 1) v h.sz
    have s1 := h.land hP hL (by omega)
    generalize ZVs.landOf (v.landed + 1) v = u at *
    have hzn := hz.1.n2
    rcases s1 with ⟨hup, q1, q2, q3, q4, q5, q6, q7⟩ | s1
    · obtain ⟨c1, c2, c3⟩ := q1.claim hP
      have hzc := zfr_claim u b
      generalize hr : u.claim b = r at *
      obtain ⟨o, w⟩ := r
      dsimp only at *
      cases o with
      | some i =>
        have hcl : ZVs.claimLoop b k (some i, w) = (some i, w) := by cases k <;> rfl
        rw [hcl]
        exact Or.inl ⟨c1.up, c1, i, rfl, c2 i rfl⟩
      | none =>
        have hall' := c3 rfl
        have wse : w.se = u.se := hzc.2.2.2.2.2.2
        have wopn : w.opn = u.opn := hzc.2.2.1
        have wL : w.landed = u.landed := by unfold ZVs.landed ZVs.dn; rw [hzc.2.1]
        have wna : w.p.na = u.p.na := by rw [hzc.2.1]
        refine ih w c1 (by rw [hzc.1.w, hzc.1.s, wse]; exact hall') ?_ (by rw [wopn, wL, q2, q3]; omega) (by rw [wna]; omega)
        -- none of the set's slots has landed
        obtain ⟨x, hx1, hx2, hx3⟩ := hc
        have hl := zset_lt (v := v) hset hx1
        refine ⟨x, by rw [hzc.1.w, q6]; exact hx1, ?_, ?_⟩
        · rw [hzc.1.w, hzc.1.s, wse]
          exact hall' x (by rw [q6]; exact hx1)
        · rw [hzc.1.w, hzc.1.s, wse, wopn, q5, q6, q3]
          have := hall' x (by rw [q6]; exact hx1)
          rw [q5, q6] at this
          rw [q7 _ hl.1] at this ⊢
          unfold zOff at this ⊢
          split
          · omega
          · exact hx3
    · have hzc := zfr_claim u b
      refine Or.inr ?_
      have := s1.of_p hzc.2.1 ⟨hzc.1.s, hzc.1.w, hzc.1.e⟩
      exact ((zfr_claimLoop b k (u.claim b).1 (u.claim b).2 this.sz).dnn this)
theorem ZJb.loop {P : Nat → ZSt → Prop} (hP : ∀ m m' V, m ≤ m' → P m V → P m' V) {b : Nat} {C : ZSt} {v : ZVs} {o : Option Nat} (h : ZJb P b C v) (hC : P (v.p.na + 1) C) (ho : ∀ i, o = some i → ZCl v b i) (hn : o = none → ∀ w, w < v.ways → 0 < v.se (b % v.sets * v.ways + w)) (hb : v.p.na + 9000 < 2147483648) :
    ZOk P (fun u => ZJb P b C u ∧ ∃ i, (ZVs.claimLoop b 12 (o, v)).1 = some i ∧ ZCl u b i) (ZVs.claimLoop b 12 (o, v)).2 := by
  have hset : b % v.sets < v.sets := Nat.mod_lt _ h.sz.s1
  have he8 := h.sz.e8
  cases o with
  | some i => exact Or.inl ⟨h.up, h, i, rfl, ho i rfl⟩
  | none =>
    have hall := hn rfl
    by_cases hc : v.hasClosed (b % v.sets)
    · have := h.fl.hE
      exact ZJb.loop1 hP 12 v h hall hc (by omega) (by omega)
    · unfold ZVs.claimLoop
      rw [if_neg (by rw [h.up]; exact Bool.noConfusion)]
      dsimp only
      rw [if_neg hc]
      -- all the set's slots are of the open epoch
      have hw0 : 0 < v.ways := h.sz.w1
      have hl0 := zset_lt (v := v) hset hw0
      have hopn : ∀ w, w < v.ways → v.se (b % v.sets * v.ways + w) = v.opn := by
        intro w hw
        have h1 := hall w hw
        have h2 := h.t1 _ (zset_lt (v := v) hset hw).1
        by_cases h3 : v.se (b % v.sets * v.ways + w) < v.opn
        · exact absurd ⟨w, hw, h1, h3⟩ hc
        · omega
      have hd : v.dirty v.opn ≠ 0 := by
        intro hx
        have : b % v.sets * v.ways + 0 ∈ zDl v.se v.opn v.n := mem_zDl.mpr ⟨hl0.1, hopn 0 hw0⟩
        have hx : (zDl v.se v.opn v.n).length = 0 := hx
        rw [List.length_eq_zero_iff.mp hx] at this
        cases this
      have hz := zfr_close v h.sz
      have s1 := h.toZRf.close hP (by rw [h.cu]; exact hC) (by omega)
      generalize v.close = v1 at *
      rcases s1 with ⟨hup, q1, q2, q3, q4, q5, q6, q7⟩ | s1
      · have un : v1.n = v.n := by show v1.sets * v1.ways = _; rw [hz.s, hz.w]
        have hop := q4 hd
        have hz2 := hz.n2
        have hz1 := hz.n1
        have hj1 : ZJb P b C v1 := by
          refine ⟨q1, fun s hs hx => ?_, by rw [q3]; omega, q2.trans h.cu⟩
          intro hy
          have : s ∈ zDl v1.se v1.opn v1.n := mem_zDl.mpr ⟨hs, hy⟩
          have hx : (zDl v1.se v1.opn v1.n).length = 0 := q3
          rw [List.length_eq_zero_iff.mp hx] at this
          cases this
        have hLo := h.fl.hLo
        have hL : v1.landed + 1 < v1.opn := by
          have : v1.se (b % v.sets * v.ways + 0) = v.opn := q6 _ hl0.1 (hopn 0 hw0)
          have := (q1.fl.tb _ (by rw [hz.s, hz.w]; exact hl0.1) (by omega) (by omega)).1
          omega
        have hl1 : v1.land1.2 = ZVs.landOf (v1.landed + 1) v1 := by unfold ZVs.land1; rw [if_pos hL]
        rw [hl1]
        have hz' := zfr_landOf (v1.landed + 1) v1 q1.sz
        have s2 := hj1.land hP hL (by omega)
        generalize ZVs.landOf (v1.landed + 1) v1 = u at *
        have hzn := hz'.1.n2
        rcases s2 with ⟨hup2, r1, r2, r3, r4, r5, r6, r7⟩ | s2
        · obtain ⟨c1, c2, c3⟩ := r1.claim hP
          have hzc := zfr_claim u b
          generalize hr : u.claim b = r at *
          obtain ⟨o, w⟩ := r
          dsimp only at *
          cases o with
          | some i =>
            have hcl : ZVs.claimLoop b 11 (some i, w) = (some i, w) := rfl
            rw [hcl]
            exact Or.inl ⟨c1.up, c1, i, rfl, c2 i rfl⟩
          | none =>
            have hall' := c3 rfl
            have wse : w.se = u.se := hzc.2.2.2.2.2.2
            have wopn : w.opn = u.opn := hzc.2.2.1
            have wL : w.landed = u.landed := by unfold ZVs.landed ZVs.dn; rw [hzc.2.1]
            have wna : w.p.na = u.p.na := by rw [hzc.2.1]
            have hE1 := c1.fl.hE
            have he1 := c1.sz.e8
            refine ZJb.loop1 hP 11 w c1 (by rw [hzc.1.w, hzc.1.s, wse]; exact hall') ?_ (by omega) (by rw [wna]; omega)
            refine ⟨0, by rw [hzc.1.w, r6, hz.w]; exact hw0, ?_, ?_⟩
            · rw [hzc.1.w, hzc.1.s, wse]
              exact hall' 0 (by rw [r6, hz.w]; exact hw0)
            · rw [hzc.1.w, hzc.1.s, wse, wopn, r5, r6, r3, hz.s, hz.w]
              rw [r7 _ (by rw [un]; exact hl0.1)]
              unfold zOff
              split
              · omega
              · rw [q6 _ hl0.1 (hopn 0 hw0)]; omega
        · have hzc := zfr_claim u b
          refine Or.inr ?_
          have := s2.of_p hzc.2.1 ⟨hzc.1.s, hzc.1.w, hzc.1.e⟩
          exact ((zfr_claimLoop b 11 (u.claim b).1 (u.claim b).2 this.sz).dnn this)
      · refine Or.inr ?_
        have s2 := (zfr_land1 v1 s1.sz).1.dnn s1
        have hzc := zfr_claim v1.land1.2 b
        have := s2.of_p hzc.2.1 ⟨hzc.1.s, hzc.1.w, hzc.1.e⟩
        exact ((zfr_claimLoop b 11 (v1.land1.2.claim b).1 (v1.land1.2.claim b).2 this.sz).dnn this)
theorem zDl_add {se : Nat → Nat} {e n i : Nat} (hi : i < n) : (zDl (zu se i e) e n).length ≤ (zDl se e n).length + 1 := by
  unfold zDl
  induction n with
  | zero => omega
  | succ n ih =>
    rw [List.range_succ, List.filter_append, List.filter_append, List.length_append, List.length_append]
    by_cases hin : i = n
    · subst hin
      have h1 : (List.range i).filter (fun j => zu se i e j == e) = (List.range i).filter (fun j => se j == e) := by
        apply List.filter_congr
        intro j hj
        have := List.mem_range.mp hj
        show (zu se i e j == e) = (se j == e)
        rw [zu_ne _ _ (by omega)]
      rw [h1]
      have : (List.filter (fun j => zu se i e j == e) [i]).length ≤ 1 := Nat.le_trans (List.length_filter_le _ _) (by simp)
      omega
    · have := ih (by omega)
      have h2 : List.filter (fun j => zu se i e j == e) [n] = List.filter (fun j => se j == e) [n] := by
        apply List.filter_congr
        intro j hj
        have := List.mem_singleton.mp hj
        show (zu se i e j == e) = (se j == e)
        rw [zu_ne _ _ (by omega)]
      rw [h2]; omega
/-- a claimed slot is made the block's dirty one, and written -/
theorem ZJb.take {P : Nat → ZSt → Prop} (hP : ∀ m m' V, m ≤ m' → P m V → P m' V) {b i : Nat} {C : ZSt} {v : ZVs} (h : ZJb P b C v) (hc : ZCl v b i) (hb : b < 106) (x : ZBk) : ZOk P (fun u => ZRf P u ∧ u.cur = zu C b x ∧ v.p.na + 1 ≤ u.p.na) (((ZVs.mk (ZVs.p v) (ZVs.sets v) (ZVs.ways v) (ZVs.eps v) (ZVs.wf v) (zu v.sb i (b + 1)) (zu v.se i v.opn) (zu v.mrk i true) (ZVs.hd v) (ZVs.opn v) (ZVs.half v) (ZVs.gen v) (ZVs.plc v)) : ZVs).wr 1 (50 + i) x) := by
  obtain ⟨c1, c2, c3, c4⟩ := hc
  have ho := h.opn1
  have hsbi : ∀ s, s < v.n → s ≠ i → v.sb s = b + 1 → v.se s ≠ 0 := by
    intro s hs hsi hx
    rcases c4 with c4 | c4
    · intro hy; exact hsi (h.t3 s i hs c1 (by omega) (by omega) (Or.inr hy))
    · exact c4.2 s hs hx
  have hm : ZRm P v.plc ((ZVs.mk (ZVs.p v) (ZVs.sets v) (ZVs.ways v) (ZVs.eps v) (ZVs.wf v) (zu v.sb i (b + 1)) (zu v.se i v.opn) (zu v.mrk i true) (ZVs.hd v) (ZVs.opn v) (ZVs.half v) (ZVs.gen v) (ZVs.plc v)) : ZVs) := by
    refine h.toZRm.alt hP ⟨rfl, rfl, rfl, rfl, rfl, rfl, rfl⟩ h.up (Nat.le_refl _) rfl (fun _ _ => rfl) ?_ ?_ ?_ ?_ ?_ ?_ ?_ ?_ ?_ h.hh
    · intro s hs s1 s2
      have hsi : s ≠ i := fun hx => by subst hx; omega
      exact ⟨zu_ne _ _ hsi, zu_ne _ _ hsi, rfl⟩
    · intro s hs s1 s2
      have hsi : s ≠ i := by
        intro hx; subst hx
        have s2 : zu v.se s v.opn s < v.opn := s2
        rw [zu_self] at s2; omega
      exact zu_ne _ _ hsi
    · intro e he
      obtain ⟨s, q1, q2, q3⟩ := h.pdf e he
      refine ⟨s, q1, q2, ?_⟩
      show ¬ (0 < zu v.se i v.opn s ∧ zu v.se i v.opn s < v.opn)
      by_cases hsi : s = i
      · rw [hsi, zu_self]; omega
      · rw [zu_ne _ _ hsi]; exact q3
    · intro s hs hx
      have hx : zu v.sb i (b + 1) s = 0 := hx
      show zu v.se i v.opn s = 0
      by_cases hsi : s = i
      · rw [hsi, zu_self] at hx; omega
      · rw [zu_ne _ _ hsi] at hx ⊢; exact h.t0 s hs hx
    · intro s hs
      show zu v.se i v.opn s ≤ v.opn
      by_cases hsi : s = i
      · rw [hsi, zu_self]; omega
      · rw [zu_ne _ _ hsi]; exact h.t1 s hs
    · intro s hs hx
      have hx : zu v.sb i (b + 1) s ≠ 0 := hx
      show zu v.sb i (b + 1) s ≤ 106 ∧ s / v.ways = (zu v.sb i (b + 1) s - 1) % v.sets
      by_cases hsi : s = i
      · rw [hsi, zu_self]; exact ⟨by omega, c2⟩
      · rw [zu_ne _ _ hsi] at hx ⊢; exact h.t2 s hs hx
    · intro s s' hs hs' hx hxx hd
      have hx : zu v.sb i (b + 1) s ≠ 0 := hx
      have hxx : zu v.sb i (b + 1) s = zu v.sb i (b + 1) s' := hxx
      have hd : zu v.se i v.opn s = zu v.se i v.opn s' ∨ zu v.se i v.opn s = 0 := hd
      by_cases hsi : s = i
      · by_cases hsi' : s' = i
        · omega
        · exfalso
          rw [hsi, zu_self, zu_ne _ _ hsi'] at hxx hd
          have := h.nb s' hs' hxx.symm
          omega
      · by_cases hsi' : s' = i
        · exfalso
          rw [zu_ne _ _ hsi, hsi', zu_self] at hxx hd
          rcases hd with hd | hd
          · exact h.nb s hs hxx hd
          · exact hsbi s hs hsi hxx hd
        · rw [zu_ne _ _ hsi, zu_ne _ _ hsi'] at hxx hd
          rw [zu_ne _ _ hsi] at hx
          exact h.t3 s s' hs hs' hx hxx hd
    · intro s hs hx hd
      have hx : zu v.sb i (b + 1) s ≠ 0 := hx
      have hd : zu v.se i v.opn s = 0 := hd
      show v.fn (50 + s) = v.dn (19 + (zu v.sb i (b + 1) s - 1))
      by_cases hsi : s = i
      · rw [hsi, zu_self] at hd; omega
      · rw [zu_ne _ _ hsi] at hx hd ⊢; exact h.t4 s hs hx hd
    · show (zDl (zu v.se i v.opn) v.opn v.n).length ≤ 16
      have := zDl_add (se := v.se) (e := v.opn) c1
      have hnd : (zDl v.se v.opn v.n).length < 16 := h.nd
      omega
  refine (hm.wrSlot hP (s := i) c1 (Or.inr (by show zu v.se i v.opn i = v.opn; exact zu_self _ _ _)) x).imp (fun _ q => ?_)
  generalize ((ZVs.mk (ZVs.p v) (ZVs.sets v) (ZVs.ways v) (ZVs.eps v) (ZVs.wf v) (zu v.sb i (b + 1)) (zu v.se i v.opn) (zu v.mrk i true) (ZVs.hd v) (ZVs.opn v) (ZVs.half v) (ZVs.gen v) (ZVs.plc v)) : ZVs).wr 1 (50 + i) x = u at *
  obtain ⟨q1, q2, q3, q4, q5⟩ := q
  have ufn : u.fn = zu v.fn (50 + i) x := q3
  have uplc : u.plc = v.plc := q2.plc
  have un : u.n = v.n := by show u.sets * u.ways = _; rw [q2.sets, q2.ways]; rfl
  have usb : u.sb = zu v.sb i (b + 1) := q2.sb
  have use : u.se = zu v.se i v.opn := q2.se
  have udn : u.dn = v.dn := by show (u.p.dv 0).now = _; rw [q4]; rfl
  refine ⟨⟨by rw [uplc]; exact q1, ?_, ?_⟩, ?_, q5⟩
  · have e1 : u.half = v.half := q2.half
    have e2 : u.gen = v.gen := q2.gen
    have hH := h.fl.hH
    rw [ufn, e1, e2]
    intro k hk
    rw [zu_ne _ _ (by omega)]; exact h.ot k hk
  · have e1 : u.half = v.half := q2.half
    have e2 : u.gen = v.gen := q2.gen
    have e3 : u.opn = v.opn := q2.opn
    have hH := h.fl.hH
    rw [ufn, e1, e2, e3]
    intro k hk
    rw [zu_ne _ _ (by omega)]; exact h.oa k hk
  · funext b'
    by_cases hbb : b' = b
    · subst hbb
      rw [zu_self, (q1.cur_of (s := i) (by rw [un]; exact c1) (by rw [usb, zu_self]) ?_).2, ufn, zu_self]
      intro j hj _
      rw [un] at hj
      rw [use, zu_self]
      by_cases hji : j = i
      · rw [hji, zu_self]; omega
      · rw [zu_ne _ _ hji]; exact h.t1 j hj
    · rw [zu_ne _ _ hbb, ← h.cu]
      rcases h.cur_cases b' with ⟨s, r1, r2, r3, r4, r5⟩ | ⟨r1, r2, r3⟩
      · by_cases hsi : s = i
        · exfalso
          subst hsi
          rcases c4 with c4 | c4 <;> omega
        · rw [r5, (q1.cur_of (s := s) (by rw [un]; exact r1) (by rw [usb, zu_ne _ _ hsi]; exact r2) ?_).2, ufn, zu_ne _ _ (by omega)]
          intro j hj hjb
          rw [un] at hj
          rw [usb] at hjb
          have hji : j ≠ i := by
            intro hx; rw [hx, zu_self] at hjb; omega
          rw [zu_ne _ _ hji] at hjb
          rw [use, zu_ne _ _ hji, zu_ne _ _ hsi]
          exact r3 j hj hjb
      · rw [r3, (q1.cur_no (b := b') ?_).2, udn]
        intro j hj hjb
        rw [un] at hj
        rw [usb] at hjb
        by_cases hji : j = i
        · rw [hji, zu_self] at hjb; omega
        · rw [zu_ne _ _ hji] at hjb; exact r1 j hj hjb
end
