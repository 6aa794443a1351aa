/-! PHASES: what a crash may leave on each device lies in Q. -/
abbrev ZPh (P : Nat → ZSt → Prop) (m : Nat) (Q : Nat → ZSt → Prop) (v : ZVs) : Prop := (v.p.up = true) ∧ (ZSz v.sets v.ways v.eps) ∧ (m ≤ v.p.na + 1) ∧ (∀ s, (v.p.dv 0).out s → Q 0 s) ∧ (∀ s, (v.p.dv 1).out s → Q 1 s) ∧ (∀ sd sf, Q 0 sd → Q 1 sf → zOK P v.sets v.ways v.eps m sd sf)
theorem ZPh.up {P : Nat → ZSt → Prop} {m : Nat} {Q : Nat → ZSt → Prop} {v : ZVs} (h : ZPh P m Q v) : v.p.up = true := h.1
theorem ZPh.sz {P : Nat → ZSt → Prop} {m : Nat} {Q : Nat → ZSt → Prop} {v : ZVs} (h : ZPh P m Q v) : ZSz v.sets v.ways v.eps := h.2.1
theorem ZPh.na {P : Nat → ZSt → Prop} {m : Nat} {Q : Nat → ZSt → Prop} {v : ZVs} (h : ZPh P m Q v) : m ≤ v.p.na + 1 := h.2.2.1
theorem ZPh.q0 {P : Nat → ZSt → Prop} {m : Nat} {Q : Nat → ZSt → Prop} {v : ZVs} (h : ZPh P m Q v) : ∀ s, (v.p.dv 0).out s → Q 0 s := h.2.2.2.1
theorem ZPh.q1 {P : Nat → ZSt → Prop} {m : Nat} {Q : Nat → ZSt → Prop} {v : ZVs} (h : ZPh P m Q v) : ∀ s, (v.p.dv 1).out s → Q 1 s := h.2.2.2.2.1
theorem ZPh.ok {P : Nat → ZSt → Prop} {m : Nat} {Q : Nat → ZSt → Prop} {v : ZVs} (h : ZPh P m Q v) : ∀ sd sf, Q 0 sd → Q 1 sf → zOK P v.sets v.ways v.eps m sd sf := h.2.2.2.2.2
/-- all but the power and the devices is the same -/
abbrev ZKeep (v u : ZVs) : Prop := ZSame v u ∧ (u.sets = v.sets) ∧ (u.ways = v.ways) ∧ (u.eps = v.eps) ∧ (u.wf = v.wf)
theorem ZKeep.toZSame {v u : ZVs} (h : ZKeep v u) : ZSame v u := h.1
theorem ZKeep.sets {v u : ZVs} (h : ZKeep v u) : u.sets = v.sets := h.2.1
theorem ZKeep.ways {v u : ZVs} (h : ZKeep v u) : u.ways = v.ways := h.2.2.1
theorem ZKeep.eps {v u : ZVs} (h : ZKeep v u) : u.eps = v.eps := h.2.2.2.1
theorem ZKeep.wf {v u : ZVs} (h : ZKeep v u) : u.wf = v.wf := h.2.2.2.2
theorem ZKeep.toZSm {v u : ZVs} (h : ZKeep v u) : ZSm v u := h.1.toZSm
theorem ZKeep.gen {v u : ZVs} (h : ZKeep v u) : u.gen = v.gen := h.1.gen
theorem ZKeep.half {v u : ZVs} (h : ZKeep v u) : u.half = v.half := h.1.half
theorem ZKeep.plc {v u : ZVs} (h : ZKeep v u) : u.plc = v.plc := h.1.plc
theorem ZKeep.sb {v u : ZVs} (h : ZKeep v u) : u.sb = v.sb := h.1.sb
theorem ZKeep.se {v u : ZVs} (h : ZKeep v u) : u.se = v.se := h.1.se
theorem ZKeep.mrk {v u : ZVs} (h : ZKeep v u) : u.mrk = v.mrk := h.1.mrk
theorem ZKeep.hd {v u : ZVs} (h : ZKeep v u) : u.hd = v.hd := h.1.hd
theorem ZKeep.opn {v u : ZVs} (h : ZKeep v u) : u.opn = v.opn := h.1.opn
theorem ZKeep.refl (v : ZVs) : ZKeep v v := ⟨ZSame.refl v, rfl, rfl, rfl, rfl⟩
theorem ZKeep.trans {v u w : ZVs} (h1 : ZKeep v u) (h2 : ZKeep u w) : ZKeep v w := ⟨h1.toZSame.trans h2.toZSame, h2.sets.trans h1.sets, h2.ways.trans h1.ways, h2.eps.trans h1.eps, h2.wf.trans h1.wf⟩
theorem ZOk.imp {P : Nat → ZSt → Prop} {A B : ZVs → Prop} {v : ZVs} (h : ZOk P A v) (hi : v.p.up = true → A v → B v) : ZOk P B v := by
  rcases h with ⟨h1, h2⟩ | h
  · exact Or.inl ⟨h1, hi h1 h2⟩
  · exact Or.inr h
theorem ZOk.bind {P : Nat → ZSt → Prop} {A B : ZVs → Prop} {v : ZVs} {f : ZVs → ZVs} {c : Nat} (h : ZOk P A v) (hf : ZFr c v (f v)) (hi : v.p.up = true → A v → ZOk P B (f v)) : ZOk P B (f v) := by
  rcases h with ⟨h1, h2⟩ | h
  · exact hi h1 h2
  · exact Or.inr (hf.dnn h)
theorem ZOk.impG {P : Nat → ZSt → Prop} {A B : ZVs → Prop} {v : ZVs} (h : ZOk P A v) (hi : ∀ u, u.p.up = true → A u → B u) : ZOk P B v := h.imp (hi v)
theorem ZOk.bindG {P : Nat → ZSt → Prop} {A B : ZVs → Prop} {v : ZVs} {f : ZVs → ZVs} {c : Nat} (h : ZOk P A v) (hf : ∀ u, ZFr c u (f u)) (hi : ∀ u, u.p.up = true → A u → ZOk P B (f u)) : ZOk P B (f v) := h.bind (hf v) (hi v)
section
theorem ZPh.cr {P : Nat → ZSt → Prop} (hP : ∀ m m' V, m ≤ m' → P m V → P m' V) {m : Nat} {Q : Nat → ZSt → Prop} {v : ZVs} (h : ZPh P m Q v) : ZCr P v := ⟨h.up, h.sz, fun sd sf h0 h1 => zOK_mono hP h.na (h.ok sd sf (h.q0 sd h0) (h.q1 sf h1))⟩
theorem ZPh.wr0 {P : Nat → ZSt → Prop} (hP : ∀ m m' V, m ≤ m' → P m V → P m' V) {m : Nat} {Q : Nat → ZSt → Prop} {v : ZVs} (h : ZPh P m Q v) {b : Nat} {x : ZBk} (hq : ∀ s, Q 0 s → Q 0 (zu s b x)) : ZOk P (fun u => ZPh P m Q u ∧ ZKeep v u ∧ u.dn = zu v.dn b x ∧ u.p.dv 1 = v.p.dv 1 ∧ v.p.na ≤ u.p.na) (v.wr 0 b x) := by
  rcases (h.cr hP).wr hP 0 b x with ⟨_, h2⟩ | h2
  · left
    rw [h2]
    refine ⟨h.up, ⟨h.up, h.sz, by have := h.na; show m ≤ v.p.na + 1 + 1; omega, ?_, ?_, h.ok⟩, ⟨⟨⟨rfl, rfl, rfl, rfl, rfl⟩, rfl, rfl, rfl⟩, rfl, rfl, rfl, rfl⟩, ?_, ?_, by show v.p.na ≤ v.p.na + 1; omega⟩
    · intro s hs
      have hs : ((v.p.dv 0).add b x).out s := hs
      rcases ZDv.out_add hs with hs | ⟨s', hs', rfl⟩
      · exact h.q0 s hs
      · exact hq _ (h.q0 _ hs')
    · intro s hs
      have hs : (v.p.dv 1).out s := hs
      exact h.q1 s hs
    · show (zu v.p.dv 0 ((v.p.dv 0).add b x) 0).now = _
      rw [zu_self, ZDv.now_add]
    · show zu v.p.dv 0 ((v.p.dv 0).add b x) 1 = _
      rw [zu_ne _ _ (by omega)]
  · exact Or.inr h2
theorem ZPh.wr1 {P : Nat → ZSt → Prop} (hP : ∀ m m' V, m ≤ m' → P m V → P m' V) {m : Nat} {Q : Nat → ZSt → Prop} {v : ZVs} (h : ZPh P m Q v) {b : Nat} {x : ZBk} (hq : ∀ s, Q 1 s → Q 1 (zu s b x)) : ZOk P (fun u => ZPh P m Q u ∧ ZKeep v u ∧ u.fn = zu v.fn b x ∧ u.p.dv 0 = v.p.dv 0 ∧ v.p.na ≤ u.p.na) (v.wr 1 b x) := by
  rcases (h.cr hP).wr hP 1 b x with ⟨_, h2⟩ | h2
  · left
    rw [h2]
    refine ⟨h.up, ⟨h.up, h.sz, by have := h.na; show m ≤ v.p.na + 1 + 1; omega, ?_, ?_, h.ok⟩, ⟨⟨⟨rfl, rfl, rfl, rfl, rfl⟩, rfl, rfl, rfl⟩, rfl, rfl, rfl, rfl⟩, ?_, ?_, by show v.p.na ≤ v.p.na + 1; omega⟩
    · intro s hs
      have hs : (v.p.dv 0).out s := hs
      exact h.q0 s hs
    · intro s hs
      have hs : ((v.p.dv 1).add b x).out s := hs
      rcases ZDv.out_add hs with hs | ⟨s', hs', rfl⟩
      · exact h.q1 s hs
      · exact hq _ (h.q1 _ hs')
    · show (zu v.p.dv 1 ((v.p.dv 1).add b x) 1).now = _
      rw [zu_self, ZDv.now_add]
    · show zu v.p.dv 1 ((v.p.dv 1).add b x) 0 = _
      rw [zu_ne _ _ (by omega)]
  · exact Or.inr h2
theorem ZPh.fl0 {P : Nat → ZSt → Prop} (hP : ∀ m m' V, m ≤ m' → P m V → P m' V) {m : Nat} {Q : Nat → ZSt → Prop} {v : ZVs} (h : ZPh P m Q v) : ZOk P (fun u => ZPh P m (zu Q 0 (· = v.dn)) u ∧ ZKeep v u ∧ u.dn = v.dn ∧ (u.p.dv 0).pd = [] ∧ u.p.dv 1 = v.p.dv 1 ∧ v.p.na + 1 ≤ u.p.na) (v.fl 0) := by
  rcases (h.cr hP).fl hP 0 with ⟨_, h2⟩ | h2
  · left
    rw [h2]
    refine ⟨h.up, ⟨h.up, h.sz, by have := h.na; show m ≤ v.p.na + 1 + 1; omega, ?_, ?_, ?_⟩, ⟨⟨⟨rfl, rfl, rfl, rfl, rfl⟩, rfl, rfl, rfl⟩, rfl, rfl, rfl, rfl⟩, ?_, ?_, ?_, by show v.p.na + 1 ≤ v.p.na + 1; omega⟩
    · intro s hs
      have hs : ((v.p.dv 0).flush).out s := hs
      exact ZDv.out_flush hs
    · intro s hs
      have hs : (v.p.dv 1).out s := hs
      exact h.q1 s hs
    · intro sd sf h0 h1
      have h0 : sd = v.dn := h0
      subst h0
      exact h.ok _ _ (h.q0 _ (ZDv.out_now _)) h1
    · show (zu v.p.dv 0 ((v.p.dv 0).flush) 0).now = _
      rw [zu_self, ZDv.now_flush]
    · show (zu v.p.dv 0 ((v.p.dv 0).flush) 0).pd = _
      rw [zu_self]; rfl
    · show zu v.p.dv 0 ((v.p.dv 0).flush) 1 = _
      rw [zu_ne _ _ (by omega)]
  · exact Or.inr h2
theorem ZPh.fl1 {P : Nat → ZSt → Prop} (hP : ∀ m m' V, m ≤ m' → P m V → P m' V) {m : Nat} {Q : Nat → ZSt → Prop} {v : ZVs} (h : ZPh P m Q v) : ZOk P (fun u => ZPh P m (zu Q 1 (· = v.fn)) u ∧ ZKeep v u ∧ u.fn = v.fn ∧ (u.p.dv 1).pd = [] ∧ u.p.dv 0 = v.p.dv 0 ∧ v.p.na + 1 ≤ u.p.na) (v.fl 1) := by
  rcases (h.cr hP).fl hP 1 with ⟨_, h2⟩ | h2
  · left
    rw [h2]
    refine ⟨h.up, ⟨h.up, h.sz, by have := h.na; show m ≤ v.p.na + 1 + 1; omega, ?_, ?_, ?_⟩, ⟨⟨⟨rfl, rfl, rfl, rfl, rfl⟩, rfl, rfl, rfl⟩, rfl, rfl, rfl, rfl⟩, ?_, ?_, ?_, by show v.p.na + 1 ≤ v.p.na + 1; omega⟩
    · intro s hs
      have hs : (v.p.dv 0).out s := hs
      exact h.q0 s hs
    · intro s hs
      have hs : ((v.p.dv 1).flush).out s := hs
      exact ZDv.out_flush hs
    · intro sd sf h0 h1
      have h1 : sf = v.fn := h1
      subst h1
      exact h.ok _ _ h0 (h.q1 _ (ZDv.out_now _))
    · show (zu v.p.dv 1 ((v.p.dv 1).flush) 1).now = _
      rw [zu_self, ZDv.now_flush]
    · show (zu v.p.dv 1 ((v.p.dv 1).flush) 1).pd = _
      rw [zu_self]; rfl
    · show zu v.p.dv 1 ((v.p.dv 1).flush) 0 = _
      rw [zu_ne _ _ (by omega)]
  · exact Or.inr h2
theorem ZPh.re {P : Nat → ZSt → Prop} {m m' : Nat} {Q Q' : Nat → ZSt → Prop} {v : ZVs} (h : ZPh P m Q v) (hm : m' ≤ v.p.na + 1) (h0 : ∀ s, Q 0 s → Q' 0 s) (h1 : ∀ s, Q 1 s → Q' 1 s) (hk : ∀ sd sf, Q' 0 sd → Q' 1 sf → zOK P v.sets v.ways v.eps m' sd sf) : ZPh P m' Q' v := ⟨h.up, h.sz, hm, fun s hs => h0 s (h.q0 s hs), fun s hs => h1 s (h.q1 s hs), hk⟩
/-- slots that are not of a closed epoch may be written -/
theorem ZRm.alt {P : Nat → ZSt → Prop} (hP : ∀ m m' V, m ≤ m' → P m V → P m' V) {pl : Nat} {v u : ZVs} (h : ZRm P pl v) (hk : u.sets = v.sets ∧ u.ways = v.ways ∧ u.eps = v.eps ∧ u.wf = v.wf ∧ u.opn = v.opn ∧ u.half = v.half ∧ u.gen = v.gen) (up : u.p.up = true) (hna : v.p.na ≤ u.p.na) (h0 : u.p.dv 0 = v.p.dv 0)
    (hf : ∀ b, b < 50 → u.fn b = v.fn b) (hc : ∀ s, s < v.n → 0 < v.se s → v.se s < v.opn → u.se s = v.se s ∧ u.sb s = v.sb s ∧ u.fn (50 + s) = v.fn (50 + s)) (hc2 : ∀ s, s < v.n → 0 < u.se s → u.se s < v.opn → u.se s = v.se s)
    (pdf : ∀ e ∈ (u.p.dv 1).pd, ∃ s, s < v.n ∧ e.1 = 50 + s ∧ ¬ (0 < u.se s ∧ u.se s < v.opn))
    (t0 : ∀ s, s < v.n → u.sb s = 0 → u.se s = 0) (t1 : ∀ s, s < v.n → u.se s ≤ v.opn)
    (t2 : ∀ s, s < v.n → u.sb s ≠ 0 → u.sb s ≤ 106 ∧ s / v.ways = (u.sb s - 1) % v.sets)
    (t3 : ∀ s s', s < v.n → s' < v.n → u.sb s ≠ 0 → u.sb s = u.sb s' → u.se s = u.se s' ∨ u.se s = 0 → s = s')
    (t4 : ∀ s, s < v.n → u.sb s ≠ 0 → u.se s = 0 → u.fn (50 + s) = v.dn (19 + (u.sb s - 1)))
    (t5 : (zDl u.se v.opn v.n).length ≤ 16) (hh : ∀ set, u.hd set < v.ways) : ZRm P pl u := by
  obtain ⟨k1, k2, k3, k4, k5, k6, k7⟩ := hk
  have hdn : u.dn = v.dn := by show (u.p.dv 0).now = _; rw [h0]
  have hl : u.landed = v.landed := by unfold ZVs.landed; rw [hdn]
  have hn : u.n = v.n := by show u.sets * u.ways = _; rw [k1, k2]
  have hn1 := h.n1; have hn2 := h.n2; have hn3 := h.n3
  refine ⟨up, by rw [k4]; exact h.wf, by rw [k1, k2, k3]; exact h.sz, by rw [h0]; exact h.pd0, by rw [hdn, hl]; exact h.hd, by rw [hdn]; exact h.h0, ?_, ?_, ?_, ?_, ?_, ?_, ?_, ?_, ?_, ?_, ?_, ?_⟩
  · rw [k1, k2, k3, hdn, hl, k5, k6, k7]
    exact h.fl.congr (fun V q => hP _ _ V (by omega) q) (Nat.le_refl _) h.fl.hpl rfl hf hc hc2
  · rw [hn, k5]; exact pdf
  · rw [hn]; exact t0
  · rw [hn, k5]; exact t1
  · rw [hn, k1, k2]; exact t2
  · rw [hn]; exact t3
  · rw [hn, hdn]; exact t4
  · unfold ZVs.dirty ZVs.dl; rw [hn, k5]; exact t5
  · rw [k2]; exact hh
  · rw [hdn]; omega
  · rw [k5]; omega
  · rw [k7]; omega
end
theorem ZRm.fnlt {P : Nat → ZSt → Prop} {pl : Nat} {v : ZVs} (h : ZRm P pl v) {s : Nat} (hs : s < v.n) (he : v.sb s = 0 ∨ v.se s = v.opn) : ¬ (0 < v.se s ∧ v.se s < v.opn) := by
  rcases he with he | he
  · have := h.t0 s hs he; omega
  · omega
set_option linter.defProp false in
def ZRf.fnlt {P : Nat → ZSt → Prop} {v : ZVs} (h : ZRf P v) := @ZRm.fnlt P v.plc v h.toZRm
/-! what is read -/
theorem ZVs.cur_some {v : ZVs} {b s : Nat} (hw : v.wf = true) (h : v.newest b = some s) : v.cur b = v.fn (50 + s) := by
  unfold ZVs.cur; rw [if_pos hw, h]
theorem ZVs.cur_none {v : ZVs} {b : Nat} (hw : v.wf = true) (h : v.newest b = none) : v.cur b = v.dn (19 + b) := by
  unfold ZVs.cur; rw [if_pos hw, h]
section
theorem ZRm.wrSlot {P : Nat → ZSt → Prop} (hP : ∀ m m' V, m ≤ m' → P m V → P m' V) {pl : Nat} {v : ZVs} (h : ZRm P pl v) {s : Nat} (hs : s < v.n) (he : v.sb s = 0 ∨ v.se s = v.opn) (x : ZBk) : ZOk P (fun u => ZRm P pl u ∧ ZKeep v u ∧ u.fn = zu v.fn (50 + s) x ∧ u.p.dv 0 = v.p.dv 0 ∧ v.p.na + 1 ≤ u.p.na) (v.wr 1 (50 + s) x) := by
  rcases h.cr.wr hP 1 (50 + s) x with ⟨_, h2⟩ | h2
  · left
    rw [h2]
    have hnc := h.fnlt hs he
    have hfn : (zu v.p.dv 1 ((v.p.dv 1).add (50 + s) x) 1).now = zu v.fn (50 + s) x := by rw [zu_self, ZDv.now_add]
    have h0 : zu v.p.dv 1 ((v.p.dv 1).add (50 + s) x) 0 = v.p.dv 0 := zu_ne _ _ (by omega)
    refine ⟨h.up, ?_, ⟨⟨⟨rfl, rfl, rfl, rfl, rfl⟩, rfl, rfl, rfl⟩, rfl, rfl, rfl, rfl⟩, hfn, h0, by show v.p.na + 1 ≤ v.p.na + 1; omega⟩
    refine h.alt hP ⟨rfl, rfl, rfl, rfl, rfl, rfl, rfl⟩ h.up (by show v.p.na ≤ v.p.na + 1; omega) h0 ?_ ?_ (fun _ _ _ _ => rfl) ?_ h.t0 h.t1 h.t2 h.t3 ?_ h.t5 h.hh
    · intro b hb
      show (zu v.p.dv 1 ((v.p.dv 1).add (50 + s) x) 1).now b = _
      rw [hfn, zu_ne _ _ (by omega)]
    · intro s' hs' h1 h3
      refine ⟨rfl, rfl, ?_⟩
      show (zu v.p.dv 1 ((v.p.dv 1).add (50 + s) x) 1).now (50 + s') = _
      rw [hfn, zu_ne]
      intro hh
      have : s' = s := by omega
      subst this
      exact hnc ⟨h1, h3⟩
    · intro e he
      have he : e ∈ ((v.p.dv 1).add (50 + s) x).pd := he
      rcases ZDv.mem_add he with he | he
      · exact h.pdf e he
      · subst he; exact ⟨s, hs, rfl, hnc⟩
    · intro s' hs' h1 h3
      show (zu v.p.dv 1 ((v.p.dv 1).add (50 + s) x) 1).now (50 + s') = _
      rw [hfn, zu_ne]
      · exact h.t4 s' hs' h1 h3
      · intro hh
        have : s' = s := by omega
        subst this
        have := h.opn1
        rcases he with he | he
        · exact h1 he
        · have h3 : v.se s' = 0 := h3; omega
  · exact Or.inr h2
end
/-! FINDING A SLOT -/
theorem find_spec (set : Nat) : ∀ (k : Nat) (v : ZVs), v.hd set < v.ways → (∀ st, (ZVs.find set k v).2.hd st = v.hd st ∨ (ZVs.find set k v).2.hd st < v.ways) ∧ ((ZVs.find set k v).1 = none → (ZVs.find set k v).2.sb = v.sb) ∧ ∀ i, (ZVs.find set k v).1 = some i → (∃ w, w < v.ways ∧ i = set * v.ways + w) ∧ v.se i = 0 ∧ (ZVs.find set k v).2.sb = zu v.sb i 0 := by
  intro k
  induction k with
  | zero => intro v hv; exact ⟨fun st => Or.inl rfl, fun _ => rfl, fun i hi => by cases hi⟩
  | succ k ih =>
    intro v hv
    have hm : (v.hd set + 1) % v.ways < v.ways := Nat.mod_lt _ (by omega)
    have hz : ∀ st, zu v.hd set ((v.hd set + 1) % v.ways) st = v.hd st ∨ zu v.hd set ((v.hd set + 1) % v.ways) st < v.ways := by
      intro st
      by_cases hst : st = set
      · right; rw [hst, zu_self]; exact hm
      · left; exact zu_ne _ _ hst
    unfold ZVs.find
    split
    · obtain ⟨h1, h2, h3⟩ := ih (ZVs.s_hd v (zu v.hd set ((v.hd set + 1) % v.ways))) (by show zu v.hd set _ set < _; rw [zu_self]; exact hm)
      refine ⟨fun st => ?_, h2, h3⟩
      rcases h1 st with h | h
      · rcases hz st with h' | h'
        · exact Or.inl (h.trans h')
        · right; rw [h]; exact h'
      · exact Or.inr h
    · rename_i hse
      split
      · refine ⟨hz, fun h => (by cases h), fun i hi => ?_⟩
        cases hi
        exact ⟨⟨v.hd set, hv, rfl⟩, by omega, rfl⟩
      · obtain ⟨h1, h2, h3⟩ := ih (ZVs.mk (ZVs.p v) (ZVs.sets v) (ZVs.ways v) (ZVs.eps v) (ZVs.wf v) (ZVs.sb v) (ZVs.se v) (zu v.mrk (set * v.ways + v.hd set) false) (zu v.hd set ((v.hd set + 1) % v.ways)) (ZVs.opn v) (ZVs.half v) (ZVs.gen v) (ZVs.plc v)) (by show zu v.hd set _ set < _; rw [zu_self]; exact hm)
        refine ⟨fun st => ?_, h2, h3⟩
        rcases h1 st with h | h
        · rcases hz st with h' | h'
          · exact Or.inl (h.trans h')
          · right; rw [h]; exact h'
        · exact Or.inr h
theorem step_mod {h w d : Nat} : ((h + 1) % w + d) % w = (h + (d + 1)) % w := by
  rw [Nat.mod_add_mod]; congr 1; omega
theorem find_hit (set : Nat) : ∀ (d k : Nat) (v : ZVs), d < k → v.hd set < v.ways → v.se (set * v.ways + (v.hd set + d) % v.ways) = 0 → (v.sb (set * v.ways + (v.hd set + d) % v.ways) = 0 ∨ v.mrk (set * v.ways + (v.hd set + d) % v.ways) = false) → (ZVs.find set k v).1 ≠ none := by
  intro d
  induction d with
  | zero =>
    intro k v hk hv he hm
    obtain ⟨k, rfl⟩ : ∃ k', k = k' + 1 := ⟨k - 1, by omega⟩
    have : (v.hd set + 0) % v.ways = v.hd set := Nat.mod_eq_of_lt hv
    rw [this] at he hm
    unfold ZVs.find
    rw [if_neg (by omega), if_pos hm]
    exact fun h => by cases h
  | succ d ih =>
    intro k v hk hv he hm
    obtain ⟨k, rfl⟩ : ∃ k', k = k' + 1 := ⟨k - 1, by omega⟩
    have hw : (v.hd set + 1) % v.ways < v.ways := Nat.mod_lt _ (by omega)
    unfold ZVs.find
    split
    · refine ih k _ (by omega) (by show zu v.hd set _ set < _; rw [zu_self]; exact hw) ?_ ?_
      · show v.se (set * v.ways + (zu v.hd set _ set + d) % v.ways) = 0
        rw [zu_self, step_mod]; exact he
      · show v.sb (set * v.ways + (zu v.hd set _ set + d) % v.ways) = 0 ∨ v.mrk (set * v.ways + (zu v.hd set _ set + d) % v.ways) = false
        rw [zu_self, step_mod]; exact hm
    · split
      · exact fun h => by cases h
      · refine ih k _ (by omega) (by show zu v.hd set _ set < _; rw [zu_self]; exact hw) ?_ ?_
        · show v.se (set * v.ways + (zu v.hd set _ set + d) % v.ways) = 0
          rw [zu_self, step_mod]; exact he
        · show v.sb (set * v.ways + (zu v.hd set _ set + d) % v.ways) = 0 ∨ zu v.mrk _ false (set * v.ways + (zu v.hd set _ set + d) % v.ways) = false
          rw [zu_self, step_mod]
          rcases hm with hm | hm
          · exact Or.inl hm
          · right
            unfold zu; split
            · rfl
            · exact hm
theorem find_hit2 (set : Nat) : ∀ (d k : Nat) (v : ZVs), d < v.ways → d + 1 + v.ways ≤ k → v.hd set < v.ways → v.se (set * v.ways + (v.hd set + d) % v.ways) = 0 → (ZVs.find set k v).1 ≠ none := by
  intro d
  induction d with
  | zero =>
    intro k v hd hk hv he
    obtain ⟨k, rfl⟩ : ∃ k', k = k' + 1 := ⟨k - 1, by omega⟩
    have h0 : (v.hd set + 0) % v.ways = v.hd set := Nat.mod_eq_of_lt hv
    have hw : (v.hd set + 1) % v.ways < v.ways := Nat.mod_lt _ (by omega)
    rw [h0] at he
    unfold ZVs.find
    rw [if_neg (by omega)]
    split
    · exact fun h => by cases h
    · have h1 : ((v.hd set + 1) % v.ways + (v.ways - 1)) % v.ways = v.hd set := by
        rw [step_mod]
        have : v.hd set + (v.ways - 1 + 1) = v.hd set + v.ways := by omega
        rw [this, Nat.add_mod_right, Nat.mod_eq_of_lt hv]
      refine find_hit set (v.ways - 1) k _ (by omega) (by show zu v.hd set _ set < _; rw [zu_self]; exact hw) ?_ ?_
      · show v.se (set * v.ways + (zu v.hd set _ set + (v.ways - 1)) % v.ways) = 0
        rw [zu_self, h1]; exact he
      · right
        show zu v.mrk _ false (set * v.ways + (zu v.hd set _ set + (v.ways - 1)) % v.ways) = false
        rw [zu_self, h1, zu_self]
  | succ d ih =>
    intro k v hd hk hv he
    obtain ⟨k, rfl⟩ : ∃ k', k = k' + 1 := ⟨k - 1, by omega⟩
    have hw : (v.hd set + 1) % v.ways < v.ways := Nat.mod_lt _ (by omega)
    unfold ZVs.find
    split
    · refine ih k _ (by show d < v.ways; omega) (by show d + 1 + v.ways ≤ k; omega) (by show zu v.hd set _ set < _; rw [zu_self]; exact hw) ?_
      show v.se (set * v.ways + (zu v.hd set _ set + d) % v.ways) = 0
      rw [zu_self, step_mod]; exact he
    · split
      · exact fun h => by cases h
      · refine ih k _ (by show d < v.ways; omega) (by show d + 1 + v.ways ≤ k; omega) (by show zu v.hd set _ set < _; rw [zu_self]; exact hw) ?_
        show v.se (set * v.ways + (zu v.hd set _ set + d) % v.ways) = 0
        rw [zu_self, step_mod]; exact he
theorem find_none {set : Nat} {v : ZVs} (hv : v.hd set < v.ways) (h : (ZVs.find set (2 * v.ways) v).1 = none) : ∀ w, w < v.ways → 0 < v.se (set * v.ways + w) := by
  intro w hw
  by_cases hz : 0 < v.se (set * v.ways + w)
  · exact hz
  exfalso
  -- the distance from the hand to w
  have hd : ∃ d, d < v.ways ∧ (v.hd set + d) % v.ways = w := by
    by_cases hc : v.hd set ≤ w
    · exact ⟨w - v.hd set, by omega, by rw [Nat.add_sub_cancel' hc]; exact Nat.mod_eq_of_lt hw⟩
    · refine ⟨w + v.ways - v.hd set, by omega, ?_⟩
      have : v.hd set + (w + v.ways - v.hd set) = w + v.ways := by omega
      rw [this, Nat.add_mod_right, Nat.mod_eq_of_lt hw]
  obtain ⟨d, hd1, hd2⟩ := hd
  exact find_hit2 set d (2 * v.ways) v hd1 (by omega) hv (by rw [hd2]; omega) h
theorem zClean_some {sb se : Nat → Nat} {b : Nat} : ∀ {n i : Nat}, zClean sb se b n = some i → i < n ∧ sb i = b + 1 ∧ se i = 0 := by
  intro n
  induction n with
  | zero => intro i h; cases h
  | succ n ih =>
    intro i h
    unfold zClean at h
    split at h
    · rename_i hs; cases h; exact ⟨by omega, hs.1, hs.2⟩
    · obtain ⟨h1, h2⟩ := ih h; exact ⟨by omega, h2⟩
theorem zClean_none {sb se : Nat → Nat} {b : Nat} : ∀ {n : Nat}, zClean sb se b n = none → ∀ i, i < n → sb i = b + 1 → se i ≠ 0 := by
  intro n
  induction n with
  | zero => intro h i hi; omega
  | succ n ih =>
    intro h i hi hb he
    unfold zClean at h
    split at h
    · cases h
    · rename_i hs
      by_cases hin : i = n
      · subst hin; exact hs ⟨hb, he⟩
      · exact ih h i (by omega) hb he
/-! what is read, by the tables -/
theorem ZRm.cur_of {P : Nat → ZSt → Prop} {pl : Nat} {v : ZVs} (h : ZRm P pl v) {b s : Nat} (hs : s < v.n) (hb : v.sb s = b + 1) (hm : ∀ i, i < v.n → v.sb i = b + 1 → v.se i ≤ v.se s) : v.newest b = some s ∧ v.cur b = v.fn (50 + s) := by
  have h1 : v.newest b = some s := zNew_eq (fun i hi hib he => h.t3 i s hi hs (by omega) (by omega) (Or.inl he)) hs hb hm
  exact ⟨h1, ZVs.cur_some h.wf h1⟩
theorem ZRm.cur_no {P : Nat → ZSt → Prop} {pl : Nat} {v : ZVs} (h : ZRm P pl v) {b : Nat} (hm : ∀ i, i < v.n → v.sb i ≠ b + 1) : v.newest b = none ∧ v.cur b = v.dn (19 + b) := by
  have h1 : v.newest b = none := zNew_none.mpr hm
  exact ⟨h1, ZVs.cur_none h.wf h1⟩
theorem ZRm.cur_cases {P : Nat → ZSt → Prop} {pl : Nat} {v : ZVs} (h : ZRm P pl v) (b : Nat) : (∃ s, s < v.n ∧ v.sb s = b + 1 ∧ (∀ i, i < v.n → v.sb i = b + 1 → v.se i ≤ v.se s) ∧ v.newest b = some s ∧ v.cur b = v.fn (50 + s)) ∨ ((∀ i, i < v.n → v.sb i ≠ b + 1) ∧ v.newest b = none ∧ v.cur b = v.dn (19 + b)) := by
  cases hn : v.newest b with
  | none =>
    right
    have := zNew_none.mp hn
    exact ⟨this, rfl, (h.cur_no this).2⟩
  | some s =>
    left
    obtain ⟨h1, h2, h3⟩ := zNew_some hn
    exact ⟨s, h1, h2, h3, rfl, (h.cur_of h1 h2 h3).2⟩
set_option linter.defProp false in
def ZRf.cur_of {P : Nat → ZSt → Prop} {v : ZVs} (h : ZRf P v) := @ZRm.cur_of P v.plc v h.toZRm
set_option linter.defProp false in
def ZRf.cur_no {P : Nat → ZSt → Prop} {v : ZVs} (h : ZRf P v) := @ZRm.cur_no P v.plc v h.toZRm
set_option linter.defProp false in
def ZRf.cur_cases {P : Nat → ZSt → Prop} {v : ZVs} (h : ZRf P v) := @ZRm.cur_cases P v.plc v h.toZRm
/-- only a clean or free slot's block is forgotten -/
theorem ZRm.forget {P : Nat → ZSt → Prop} (hP : ∀ m m' V, m ≤ m' → P m V → P m' V) {pl : Nat} {v u : ZVs} (h : ZRm P pl v) (hk : u.sets = v.sets ∧ u.ways = v.ways ∧ u.eps = v.eps ∧ u.wf = v.wf ∧ u.opn = v.opn ∧ u.half = v.half ∧ u.gen = v.gen) (hp : u.p = v.p) (hse : u.se = v.se) (hh : ∀ set, u.hd set < v.ways) {i : Nat} (hi : i < v.n) (he : v.se i = 0) (hsb : u.sb = zu v.sb i 0) : ZRm P pl u ∧ u.cur = v.cur := by
  have hfn : u.fn = v.fn := by show (u.p.dv 1).now = _; rw [hp]
  have hdn : u.dn = v.dn := by show (u.p.dv 0).now = _; rw [hp]
  have hn : u.n = v.n := by show u.sets * u.ways = _; rw [hk.1, hk.2.1]
  have hz : ∀ s, u.sb s ≠ 0 → u.sb s = v.sb s ∧ s ≠ i := by
    intro s hs
    by_cases hsi : s = i
    · rw [hsb, hsi, zu_self] at hs; exact absurd rfl hs
    · exact ⟨by rw [hsb, zu_ne _ _ hsi], hsi⟩
  have hu : ZRm P pl u := by
    refine h.alt hP hk (by rw [hp]; exact h.up) (by rw [hp]; omega) (by rw [hp]) (fun b _ => by rw [hfn]) ?_ (fun s _ _ _ => by rw [hse]) ?_ ?_ (by rw [hse]; exact h.t1) ?_ ?_ ?_ (by rw [hse]; exact h.t5) hh
    · intro s hs h1 h2
      refine ⟨by rw [hse], ?_, by rw [hfn]⟩
      rw [hsb, zu_ne]
      intro hh; subst hh; omega
    · rw [hp, hse]; exact h.pdf
    · intro s hs h1
      rw [hse]
      by_cases hsi : s = i
      · rw [hsi]; exact he
      · rw [hsb, zu_ne _ _ hsi] at h1; exact h.t0 s hs h1
    · intro s hs h1
      rw [(hz s h1).1]; rw [(hz s h1).1] at h1
      exact h.t2 s hs h1
    · intro s s' hs hs' h1 h2 h3
      have h1' : u.sb s' ≠ 0 := by rw [← h2]; exact h1
      rw [(hz s h1).1, (hz s' h1').1] at h2
      rw [hse] at h3
      exact h.t3 s s' hs hs' (by rw [← (hz s h1).1]; exact h1) h2 h3
    · intro s hs h1 h2
      rw [hfn, (hz s h1).1]
      rw [hse] at h2
      exact h.t4 s hs (by rw [← (hz s h1).1]; exact h1) h2
  refine ⟨hu, ?_⟩
  funext b
  rcases h.cur_cases b with ⟨s, h1, h2, h3, h4, h5⟩ | ⟨h1, h2, h3⟩
  · by_cases hsi : s = i
    · -- it was the clean one: the only one
      subst hsi
      rw [h5, h.t4 s h1 (by omega) he, h2]
      have hno : ∀ j, j < u.n → u.sb j ≠ b + 1 := by
        intro j hj hb
        have hjz := hz j (by omega)
        rw [hjz.1] at hb
        exact hjz.2 (h.t3 s j h1 (by rw [← hn]; exact hj) (by omega) (by omega) (Or.inr he)).symm
      rw [(hu.cur_no hno).2, hdn]; rfl
    · rw [h5, (hu.cur_of (by rw [hn]; exact h1) (b := b) (s := s) (by rw [hsb, zu_ne _ _ hsi]; exact h2) ?_).2, hfn]
      intro j hj hb
      rw [hse]
      exact h3 j (by rw [← hn]; exact hj) (by rw [← (hz j (by omega)).1]; exact hb)
  · rw [h3, (hu.cur_no (b := b) ?_).2, hdn]
    intro j hj hb
    exact h1 j (by rw [← hn]; exact hj) (by rw [← (hz j (by omega)).1]; exact hb)
theorem zset_lt {v : ZVs} {set w : Nat} (hs : set < v.sets) (hw : w < v.ways) : set * v.ways + w < v.n ∧ (set * v.ways + w) / v.ways = set := by
  constructor
  · have : (set + 1) * v.ways ≤ v.sets * v.ways := Nat.mul_le_mul_right _ hs
    rw [Nat.add_mul] at this
    show _ < v.sets * v.ways
    omega
  · rw [Nat.mul_comm, Nat.mul_add_div (by omega), Nat.div_eq_of_lt hw]; omega
/-- what is free and marks no more, found -/
theorem ZRm.find {P : Nat → ZSt → Prop} (hP : ∀ m m' V, m ≤ m' → P m V → P m' V) {pl : Nat} {v : ZVs} (h : ZRm P pl v) {set : Nat} (hs : set < v.sets) : ZRm P pl (ZVs.find set (2 * v.ways) v).2 ∧ (ZVs.find set (2 * v.ways) v).2.cur = v.cur ∧ ((ZVs.find set (2 * v.ways) v).1 = none → (∀ w, w < v.ways → 0 < v.se (set * v.ways + w))) ∧ ∀ i, (ZVs.find set (2 * v.ways) v).1 = some i → i < v.n ∧ i / v.ways = set ∧ v.se i = 0 ∧ (ZVs.find set (2 * v.ways) v).2.sb = zu v.sb i 0 := by
  obtain ⟨f1, f2, f3, f4, f5, f6, f7⟩ := zfr_find set (2 * v.ways) v
  obtain ⟨g1, g2, g3⟩ := find_spec set (2 * v.ways) v (h.hh set)
  have hh : ∀ st, (ZVs.find set (2 * v.ways) v).2.hd st < v.ways := by
    intro st
    rcases g1 st with q | q
    · rw [q]; exact h.hh st
    · exact q
  have hk : (ZVs.find set (2 * v.ways) v).2.sets = v.sets ∧ (ZVs.find set (2 * v.ways) v).2.ways = v.ways ∧ (ZVs.find set (2 * v.ways) v).2.eps = v.eps ∧ (ZVs.find set (2 * v.ways) v).2.wf = v.wf ∧ (ZVs.find set (2 * v.ways) v).2.opn = v.opn ∧ (ZVs.find set (2 * v.ways) v).2.half = v.half ∧ (ZVs.find set (2 * v.ways) v).2.gen = v.gen := ⟨f1.s, f1.w, f1.e, f1.wf, f3, f4, f5⟩
  have hd := find_none (set := set) (v := v) (h.hh set)
  generalize hr : ZVs.find set (2 * v.ways) v = r at *
  obtain ⟨o, u⟩ := r
  dsimp only at *
  cases o with
  | none =>
    have hsb := g2 rfl
    have hfn : u.fn = v.fn := by show (u.p.dv 1).now = _; rw [f2]
    have hdn : u.dn = v.dn := by show (u.p.dv 0).now = _; rw [f2]
    refine ⟨?_, ?_, fun _ => hd rfl, fun i hi => by cases hi⟩
    · refine h.alt hP hk (by rw [f2]; exact h.up) (by rw [f2]; omega) (by rw [f2]) (fun b _ => by rw [hfn]) (fun s _ _ _ => ⟨by rw [f7], by rw [hsb], by rw [hfn]⟩) (fun s _ _ _ => by rw [f7]) (by rw [f2, f7]; exact h.pdf) (by rw [hsb, f7]; exact h.t0) (by rw [f7]; exact h.t1) (by rw [hsb]; exact h.t2) (by rw [hsb, f7]; exact h.t3) (by rw [hsb, f7, hfn]; exact h.t4) (by rw [f7]; exact h.t5) hh
    · funext b
      unfold ZVs.cur ZVs.newest
      rw [f1.wf, hsb, f7, hfn, hdn]
      show (if _ then (match zNew v.sb v.se b (u.sets * u.ways) with | some s => _ | none => _) else _) = _
      rw [f1.s, f1.w]; rfl
  | some i =>
    obtain ⟨⟨w, hw, hiw⟩, q2, q3⟩ := g3 i rfl
    have hl := zset_lt hs hw
    rw [← hiw] at hl
    obtain ⟨r1, r2⟩ := h.forget hP hk f2 f7 hh hl.1 q2 q3
    refine ⟨r1, r2, fun hx => (by cases hx), fun j hj => ?_⟩
    cases hj
    exact ⟨hl.1, hl.2, q2, q3⟩
/-! LANDING -/
theorem zov_all {p : List (Nat × ZBk)} {b : Nat} {x : ZBk} : ∀ {s : ZSt}, (∀ e ∈ p, e.1 = b → e.2 = x) → (s b = x ∨ ∃ e ∈ p, e.1 = b) → zov s p b = x := by
  induction p with
  | nil =>
    intro s _ h2
    rcases h2 with h2 | ⟨e, he, _⟩
    · exact h2
    · cases he
  | cons e p ih =>
    intro s h1 h2
    refine ih (s := zu s e.1 e.2) (fun e' he' => h1 e' (List.mem_cons_of_mem _ he')) ?_
    by_cases hb : e.1 = b
    · left; rw [← hb, zu_self]; exact h1 e (List.mem_cons_self) hb
    · rcases h2 with h2 | ⟨e', he', hb'⟩
      · left; rw [zu_ne _ _ (fun h => hb h.symm)]; exact h2
      · rcases List.mem_cons.mp he' with rfl | he'
        · exact absurd hb' hb
        · exact Or.inr ⟨e', he', hb'⟩
theorem mem_zIns {sb : Nat → Nat} {s t : Nat} {l : List Nat} : t ∈ zIns sb s l ↔ t = s ∨ t ∈ l := by
  induction l with
  | nil => simp [zIns]
  | cons a l ih =>
    unfold zIns
    split
    · simp
    · simp only [List.mem_cons, ih]
      constructor
      · rintro (h | h | h)
        · exact Or.inr (Or.inl h)
        · exact Or.inl h
        · exact Or.inr (Or.inr h)
      · rintro (h | h | h)
        · exact Or.inr (Or.inl h)
        · exact Or.inl h
        · exact Or.inr (Or.inr h)
theorem mem_zSort {sb : Nat → Nat} {t : Nat} {l : List Nat} : t ∈ zSort sb l ↔ t ∈ l := by
  induction l with
  | nil => simp [zSort]
  | cons a l ih => unfold zSort; rw [mem_zIns, ih]; simp
/-- what the flash must keep -/
def ZQf (v : ZVs) (sf : ZSt) : Prop := (∀ b, b < 50 → sf b = v.fn b) ∧ ∀ s, s < v.n → 0 < v.se s → v.se s < v.opn → sf (50 + s) = v.fn (50 + s)
theorem ZRm.ok_of {P : Nat → ZSt → Prop} {pl : Nat} {v : ZVs} (h : ZRm P pl v) {sd sf : ZSt} (hh : ZHead sd (n32 (v.dn 0 0)) v.landed) (hz : zDisc sd = zDisc v.dn) (hq : ZQf v sf) : zOK P v.sets v.ways v.eps (v.p.na + 1) sd sf := by
  obtain ⟨q1, q2⟩ := hq
  have hn2 := h.n2; have hn3 := h.n3; have hLo := h.fl.hLo
  have hz' : zDisc v.dn = zVol (zDisc v.dn) v.fn v.sb v.se (v.sets * v.ways) v.landed := by
    funext b
    unfold zVol
    rw [zNew_none.mpr]
    intro s hs hu
    obtain ⟨u1, u2, _⟩ := zUp_eq.mp hu
    have := (h.fl.tb s hs u1 (by omega)).1
    omega
  refine ⟨n32 (v.dn 0 0), v.landed, hh, h.n1, by omega, by rw [hz, hz']; exact h.fl.vp _ (Nat.le_refl _) h.fl.hLo, Or.inr (Or.inr ⟨v.opn, v.half, v.gen, v.sb, fun s => if v.se s < v.opn then v.se s else 0, hn2, hn3, fun s hs => ?_, ?_⟩)⟩
  · dsimp only; split
    · assumption
    · exact h.opn1
  · refine h.fl.congr (fun _ q => q) h.fl.hpl (Nat.le_refl _) hz q1 (fun s hs s1 s2 => ⟨if_pos s2, rfl, q2 s hs s1 s2⟩) (fun s hs s1 s2 => ?_)
    split
    · rfl
    · rename_i hx; rw [if_neg hx] at s1; omega
set_option linter.defProp false in
def ZRf.ok_of {P : Nat → ZSt → Prop} {v : ZVs} (h : ZRf P v) := @ZRm.ok_of P v.plc v h.toZRm
/-- the tables once the oldest epoch has landed -/
def zOff (se : Nat → Nat) (e : Nat) : Nat → Nat := fun s => if se s = e then 0 else se s
theorem zVol_land {base sf : ZSt} {sb se : Nat → Nat} {n L e : Nat} (hL : ∀ s, s < n → 0 < se s → se s ≤ e → L < se s) (hu : ∀ s s', s < n → s' < n → 0 < se s → se s ≤ e → se s = se s' → sb s = sb s' → s = s') (he : L + 1 ≤ e) :
    zVol (zVol base sf sb se n (L + 1)) sf sb (zOff se (L + 1)) n e = zVol base sf sb se n e := by
  funext b
  have hoff : ∀ s, s < n → (0 < zOff se (L + 1) s ∧ zOff se (L + 1) s ≤ e ↔ 0 < se s ∧ se s ≤ e ∧ se s ≠ L + 1) := by
    intro s hs; unfold zOff; split <;> omega
  have heq : ∀ s, 0 < zOff se (L + 1) s → zOff se (L + 1) s = se s := by
    intro s hs; unfold zOff at *; split at hs
    · omega
    · rename_i hx; rw [if_neg hx]
  cases h1 : zNew (zUp sb se e) se b n with
  | none =>
    have h1' := zNew_none.mp h1
    have h2 : zNew (zUp sb (zOff se (L + 1)) e) (zOff se (L + 1)) b n = none := by
      refine zNew_none.mpr (fun s hs hu => ?_)
      obtain ⟨u1, u2, u3⟩ := zUp_eq.mp hu
      have := (hoff s hs).mp ⟨u1, u2⟩
      exact h1' s hs (zUp_eq.mpr ⟨this.1, this.2.1, u3⟩)
    have h3 : zNew (zUp sb se (L + 1)) se b n = none := by
      refine zNew_none.mpr (fun s hs hu => ?_)
      obtain ⟨u1, u2, u3⟩ := zUp_eq.mp hu
      exact h1' s hs (zUp_eq.mpr ⟨u1, by omega, u3⟩)
    unfold zVol; rw [h1, h2]; dsimp only; rw [h3]
  | some s =>
    obtain ⟨q1, q2, q3⟩ := zNew_some h1
    obtain ⟨u1, u2, u3⟩ := zUp_eq.mp q2
    by_cases hs : se s = L + 1
    · have h2 : zNew (zUp sb (zOff se (L + 1)) e) (zOff se (L + 1)) b n = none := by
        refine zNew_none.mpr (fun i hi hui => ?_)
        obtain ⟨p1, p2, p3⟩ := zUp_eq.mp hui
        have p4 := (hoff i hi).mp ⟨p1, p2⟩
        have p5 := q3 i hi (zUp_eq.mpr ⟨p4.1, p4.2.1, p3⟩)
        have p6 := hL i hi p4.1 p4.2.1
        omega
      have h3 : zNew (zUp sb se (L + 1)) se b n = some s := by
        refine zNew_eq (fun i hi hui hse => ?_) q1 (zUp_eq.mpr ⟨u1, by omega, u3⟩) (fun i hi hui => ?_)
        · obtain ⟨p1, p2, p3⟩ := zUp_eq.mp hui
          exact hu i s hi q1 p1 (by omega) hse (by omega)
        · obtain ⟨p1, p2, p3⟩ := zUp_eq.mp hui; omega
      unfold zVol; rw [h1, h2]; dsimp only; rw [h3]
    · have h2 : zNew (zUp sb (zOff se (L + 1)) e) (zOff se (L + 1)) b n = some s := by
        have hs' := (hoff s q1).mpr ⟨u1, u2, hs⟩
        refine zNew_eq (fun i hi hui hse => ?_) q1 (zUp_eq.mpr ⟨hs'.1, hs'.2, u3⟩) (fun i hi hui => ?_)
        · obtain ⟨p1, p2, p3⟩ := zUp_eq.mp hui
          have p4 := (hoff i hi).mp ⟨p1, p2⟩
          rw [heq i p1, heq s hs'.1] at hse
          exact hu i s hi q1 p4.1 p4.2.1 hse (by omega)
        · obtain ⟨p1, p2, p3⟩ := zUp_eq.mp hui
          have p4 := (hoff i hi).mp ⟨p1, p2⟩
          rw [heq i p1, heq s hs'.1]
          exact q3 i hi (zUp_eq.mpr ⟨p4.1, p4.2.1, p3⟩)
      unfold zVol; rw [h1, h2]
theorem ZFl.land {P : ZSt → Prop} {sets ways eps : Nat} {sd sf sd' : ZSt} {id L opn H g pl : Nat} {sb se : Nat → Nat} (h : ZFl P sets ways eps sd sf id L opn H g pl sb se) (hot : ∀ k, k < 24 → n32 (sf (25 * (1 - H) + 1 + k) 0) ≤ g) (hL : L + 1 < opn) (hd : zDisc sd' = zVol (zDisc sd) sf sb se (sets * ways) (L + 1)) : ZFl P sets ways eps sd' sf id (L + 1) opn H g pl sb (zOff se (L + 1)) := by
  have hE := h.hE
  have heq : ∀ s, 0 < zOff se (L + 1) s → zOff se (L + 1) s = se s ∧ se s ≠ L + 1 := by
    intro s hs; unfold zOff at *; split at hs
    · omega
    · rename_i hx; rw [if_neg hx]; exact ⟨rfl, hx⟩
  have hne : ∀ s, se s ≠ L + 1 → zOff se (L + 1) s = se s := fun s hs => if_neg hs
  refine ⟨h.hH, h.hg, h.hg1, h.hi, h.ho, h.hj, hL, by omega, ?_, ?_, ?_, h.hpl, ?_, ?_, ?_, ?_, ?_⟩
  · intro k hk
    refine ⟨(h.ha k hk).1, fun hg => ?_⟩
    rcases (h.ha k hk).2 hg with q | q | q
    · left; omega
    · by_cases he : n32 (sf (25 * H + 1 + k) 1) ≤ L + 1
      · exact Or.inl he
      · refine Or.inr (Or.inl ⟨q.1, q.2.1, fun j hj => ?_⟩)
        obtain ⟨s, b, p1, p2, p3, p4, p5, p6⟩ := q.2.2 j hj
        exact ⟨s, b, p1, p2, p3, p4, by rw [hne s (by omega)]; exact p5, p6⟩
    · exact Or.inr (Or.inr q)
  · intro k hk
    have := hot k hk
    exact ⟨by omega, fun hh => by omega⟩
  · intro e he1 he2
    obtain ⟨q1, q2⟩ := h.hc e (by omega) he2
    refine ⟨q1, fun s hs hse => q2 s hs ?_⟩
    rw [← (heq s (by omega)).1]; exact hse
  · intro s hs s1 s2
    have := heq s s1
    rw [this.1] at s2 ⊢
    have q := h.tb s hs (by omega) s2
    exact ⟨by omega, q.2⟩
  · intro s s' hs hs' s1 s2 hse hsb
    have e1 := heq s s1
    have e2 := heq s' (by omega)
    exact h.tu s s' hs hs' (by omega) (by omega) (by omega) hsb
  · intro e he1 he2
    by_cases he : e = L + 1
    · have : zDl (zOff se (L + 1)) e (sets * ways) = [] := by
        rw [List.eq_nil_iff_forall_not_mem]
        intro s hs
        have := mem_zDl.mp hs
        have h2 := heq s (by omega)
        omega
      rw [this]; simp
    · rw [zDl_congr (se := se) (fun s hs => ⟨fun q => ?_, fun q => ?_⟩)]
      · exact h.tc e he1 he2
      · rw [← (heq s (by omega)).1]; exact q
      · rw [hne s (by omega)]; exact q
  · intro e he1 he2
    obtain ⟨s, q1, q2⟩ := h.te e (by omega) he2
    exact ⟨s, q1, by rw [hne s (by omega)]; exact q2⟩
  · intro e he1 he2
    rw [hd, zVol_land ?_ ?_ he1]
    · exact h.vp e (by omega) he2
    · intro s hs s1 s2; exact (h.tb s hs s1 (by omega)).1
    · intro s s' hs hs' s1 s2 s3 s4; exact h.tu s s' hs hs' s1 (by omega) s3 s4
theorem ZRf.ok_land {P : Nat → ZSt → Prop} {v : ZVs} (h : ZRf P v) (hL : v.landed + 1 < v.opn) {sd sf : ZSt} (hh : ZHead sd (n32 (v.dn 0 0)) (v.landed + 1)) (hz : zDisc sd = zVol (zDisc v.dn) v.fn v.sb v.se v.n (v.landed + 1)) (hq : ZQf v sf) : zOK P v.sets v.ways v.eps (v.p.na + 1) sd sf := by
  obtain ⟨q1, q2⟩ := hq
  have hn2 := h.n2; have hn3 := h.n3; have hLo := h.fl.hLo
  have hl := h.fl.land (sd' := sd) h.ot hL hz
  refine ⟨n32 (v.dn 0 0), v.landed + 1, hh, h.n1, by omega, by rw [hz]; exact h.fl.vp _ (by omega) hL, Or.inr (Or.inr ⟨v.opn, v.half, v.gen, v.sb, fun s => if zOff v.se (v.landed + 1) s < v.opn then zOff v.se (v.landed + 1) s else 0, hn2, hn3, fun s hs => ?_, ?_⟩)⟩
  · dsimp only; split
    · assumption
    · exact h.opn1
  · have heq : ∀ s, 0 < zOff v.se (v.landed + 1) s → zOff v.se (v.landed + 1) s = v.se s := by
      intro s hs; unfold zOff at *; split at hs
      · omega
      · rename_i hx; rw [if_neg hx]
    refine hl.congr (fun _ q => q) h.fl.hpl (Nat.le_refl _) rfl q1 (fun s hs s1 s2 => ⟨if_pos s2, rfl, q2 s hs ?_ ?_⟩) (fun s hs s1 s2 => ?_)
    · rw [← heq s s1]; exact s1
    · rw [← heq s s1]; exact s2
    · split
      · rfl
      · rename_i hx; rw [if_neg hx] at s1; omega
/-! the writes of a landing -/
def zCp (f : ZSt) : List Nat → Nat → List (Nat × ZBk)
  | [], _ => []
  | s :: l, j => (3 + j, f (50 + s)) :: zCp f l (j + 1)
def zHm (f : ZSt) (sb : Nat → Nat) (l : List Nat) : List (Nat × ZBk) := l.map fun s => (19 + (sb s - 1), f (50 + s))
theorem zCp_key {f : ZSt} : ∀ {l : List Nat} {j : Nat} {e : Nat × ZBk}, e ∈ zCp f l j → 3 + j ≤ e.1 ∧ e.1 < 3 + j + l.length := by
  intro l
  induction l with
  | nil => intro j e h; cases h
  | cons s l ih =>
    intro j e h
    rcases List.mem_cons.mp h with rfl | h
    · simp
    · have := ih h; simp; omega
theorem zCp_at {f : ZSt} : ∀ {l : List Nat} {j : Nat} {d : ZSt} {i : Nat} (hi : i < l.length), zov d (zCp f l j) (3 + j + i) = f (50 + l[i]) := by
  intro l
  induction l with
  | nil => intro j d i hi; simp at hi
  | cons s l ih =>
    intro j d i hi
    show zov (zu d (3 + j) (f (50 + s))) (zCp f l (j + 1)) (3 + j + i) = _
    cases i with
    | zero =>
      rw [zov_notin]
      · show zu d (3 + j) (f (50 + s)) (3 + j + 0) = f (50 + s)
        exact zu_self _ _ _
      · intro e he hh; have := zCp_key he; omega
    | succ i =>
      have : 3 + j + (i + 1) = 3 + (j + 1) + i := by omega
      rw [this, ih (by simp at hi; omega)]
      simp
section
theorem ZPh.copies {P : Nat → ZSt → Prop} (hP : ∀ m m' V, m ≤ m' → P m V → P m' V) {m : Nat} {Q : Nat → ZSt → Prop} (hq : ∀ s b x, 2 ≤ b → b ≤ 18 → Q 0 s → Q 0 (zu s b x)) : ∀ (l : List Nat) (j : Nat) (v : ZVs), ZPh P m Q v → j + l.length ≤ 16 → ZOk P (fun u => ZPh P m Q u ∧ ZKeep v u ∧ u.dn = zov v.dn (zCp v.fn l j) ∧ u.p.dv 1 = v.p.dv 1 ∧ v.p.na ≤ u.p.na) (ZVs.wrCopies l j v) := by
  intro l
  induction l with
  | nil => intro j v h _; exact Or.inl ⟨h.up, h, ZKeep.refl v, rfl, rfl, Nat.le_refl _⟩
  | cons s l ih =>
    intro j v h hj
    have hj : j + (l.length + 1) ≤ 16 := hj
    have h1 := h.wr0 hP (b := 3 + j) (x := v.fn (50 + s)) (fun s' hs' => hq s' _ _ (by omega) (by omega) hs')
    refine h1.bind (f := ZVs.wrCopies l (j + 1)) (zfr_wrCopies l (j + 1) _).1 (fun _ h2 => ?_)
    obtain ⟨h2, h3, h4, h5, h6⟩ := h2
    refine (ih (j + 1) _ h2 (by omega)).imp (fun _ h7 => ?_)
    obtain ⟨g1, g2, g3, g4, g5⟩ := h7
    have hfn : (v.wr 0 (3 + j) (v.fn (50 + s))).fn = v.fn := by show ((v.wr 0 (3 + j) (v.fn (50 + s))).p.dv 1).now = _; rw [h5]
    refine ⟨g1, h3.trans g2, ?_, g4.trans h5, Nat.le_trans h6 g5⟩
    rw [g3, h4, hfn]; rfl
theorem ZPh.homes {P : Nat → ZSt → Prop} (hP : ∀ m m' V, m ≤ m' → P m V → P m' V) {m : Nat} {Q : Nat → ZSt → Prop} : ∀ (l : List Nat) (v : ZVs), ZPh P m Q v → (∀ s, s ∈ l → ∀ d x, Q 0 d → Q 0 (zu d (19 + (v.sb s - 1)) x)) → ZOk P (fun u => ZPh P m Q u ∧ ZKeep v u ∧ u.dn = zov v.dn (zHm v.fn v.sb l) ∧ u.p.dv 1 = v.p.dv 1 ∧ v.p.na ≤ u.p.na) (ZVs.wrHomes l v) := by
  intro l
  induction l with
  | nil => intro v h _; exact Or.inl ⟨h.up, h, ZKeep.refl v, rfl, rfl, Nat.le_refl _⟩
  | cons s l ih =>
    intro v h hq
    have h1 := h.wr0 hP (b := 19 + (v.sb s - 1)) (x := v.fn (50 + s)) (fun s' hs' => hq s (List.mem_cons_self) s' _ hs')
    refine h1.bind (f := ZVs.wrHomes l) (zfr_wrHomes l _).1 (fun _ h2 => ?_)
    obtain ⟨h2, h3, h4, h5, h6⟩ := h2
    refine (ih _ h2 (fun s' hs' d x hd => by rw [h3.sb]; exact hq s' (List.mem_cons_of_mem _ hs') d x hd)).imp (fun _ h7 => ?_)
    obtain ⟨g1, g2, g3, g4, g5⟩ := h7
    have hfn : (v.wr 0 (19 + (v.sb s - 1)) (v.fn (50 + s))).fn = v.fn := by show ((v.wr 0 (19 + (v.sb s - 1)) (v.fn (50 + s))).p.dv 1).now = _; rw [h5]
    refine ⟨g1, h3.trans g2, ?_, g4.trans h5, Nat.le_trans h6 g5⟩
    rw [g3, h4, hfn, h3.sb]; rfl
end
/-! the slots of the landed epoch -/
noncomputable def zLsb (sb se : Nat → Nat) (n e : Nat) : Nat → Nat := fun s => @ite _ (se s = e ∧ ∃ j, j < n ∧ j ≠ s ∧ sb j = sb s) (Classical.propDecidable _) 0 (sb s)
theorem setLanded_spec {e : Nat} {v : ZVs} (he : 0 < e) (h0 : ∀ s, s < v.n → v.sb s = 0 → v.se s = 0) (h3 : ∀ s s', s < v.n → s' < v.n → v.sb s ≠ 0 → v.sb s = v.sb s' → v.se s = v.se s' ∨ v.se s = 0 → s = s') : ∀ i, i ≤ v.n → ∀ s, ((ZVs.setLanded e i v).se s = if s < i then zOff v.se e s else v.se s) ∧ ((ZVs.setLanded e i v).sb s = if s < i then zLsb v.sb v.se v.n e s else v.sb s) := by
  intro i
  induction i with
  | zero => intro _ s; exact ⟨rfl, rfl⟩
  | succ i ih =>
    intro hi s
    have ih := ih (by omega)
    have hfr := zfr_setLanded e i v
    unfold ZVs.setLanded
    dsimp only
    generalize ZVs.setLanded e i v = u at *
    have hn : u.n = v.n := by show u.sets * u.ways = _; rw [hfr.1.s, hfr.1.w]
    have hei : u.se i = v.se i := by rw [(ih i).1, if_neg (by omega)]
    have hbi : u.sb i = v.sb i := by rw [(ih i).2, if_neg (by omega)]
    by_cases hie : v.se i = e
    · rw [if_pos (by rw [hei]; exact hie)]
      have hb0 : v.sb i ≠ 0 := fun h => by have := h0 i (by omega) h; omega
      -- what the new tables say of s, whichever way
      have hA : ∀ t, zu u.se i 0 t = if t < i + 1 then zOff v.se e t else v.se t := by
        intro t
        by_cases hti : t = i
        · subst hti; rw [zu_self, if_pos (by omega)]; unfold zOff; rw [if_pos hie]
        · rw [zu_ne _ _ hti, (ih t).1]
          by_cases hlt : t < i
          · rw [if_pos hlt, if_pos (by omega)]
          · rw [if_neg hlt, if_neg (by omega)]
      by_cases hex : ∃ j, j < v.n ∧ j ≠ i ∧ v.sb j = v.sb i
      · obtain ⟨j, hj1, hj2, hj3⟩ := hex
        have hje : v.se j ≠ e := fun h => hj2 (h3 i j (by omega) hj1 hb0 hj3.symm (Or.inl (by omega))).symm
        have hj0 : v.se j ≠ 0 := fun h => hj2 (h3 j i hj1 (by omega) (by omega) hj3 (Or.inr h))
        have hjse : zu u.se i 0 j = v.se j := by
          rw [hA j]; split
          · unfold zOff; rw [if_neg hje]
          · rfl
        have hjsb : u.sb j = v.sb j := by
          rw [(ih j).2]; split
          · unfold zLsb; rw [if_neg (fun h => hje h.1)]
          · rfl
        have hnew : ∃ k, ((ZVs.s_se u (zu u.se i 0)) : ZVs).newest (u.sb i - 1) = some k ∧ 0 < zu u.se i 0 k := by
          cases hk : ((ZVs.s_se u (zu u.se i 0)) : ZVs).newest (u.sb i - 1) with
          | none =>
            exact absurd (show u.sb j = u.sb i - 1 + 1 by omega) (zNew_none.mp hk j (by show j < u.n; omega))
          | some k =>
            obtain ⟨_, _, hm⟩ := zNew_some hk
            have := hm j (by show j < u.n; omega) (show u.sb j = u.sb i - 1 + 1 by omega)
            refine ⟨k, rfl, ?_⟩
            have h5 : zu u.se i 0 j ≤ zu u.se i 0 k := this
            omega
        obtain ⟨k, hk1, hk2⟩ := hnew
        rw [hk1]; dsimp only
        rw [if_pos (show 0 < ((ZVs.s_se u (zu u.se i 0)) : ZVs).se k from hk2)]
        refine ⟨hA s, ?_⟩
        show zu u.sb i 0 s = _
        by_cases hsi : s = i
        · subst hsi
          rw [zu_self, if_pos (by omega)]
          unfold zLsb; rw [if_pos ⟨hie, j, hj1, hj2, hj3⟩]
        · rw [zu_ne _ _ hsi, (ih s).2]
          by_cases hlt : s < i
          · rw [if_pos hlt, if_pos (by omega)]
          · rw [if_neg hlt, if_neg (by omega)]
      · have hsb : ∀ t, u.sb t = if t < i + 1 then zLsb v.sb v.se v.n e t else v.sb t := by
          intro t
          by_cases hti : t = i
          · subst hti; rw [hbi, if_pos (by omega)]; unfold zLsb; rw [if_neg (fun h => hex h.2)]
          · rw [(ih t).2]
            by_cases hlt : t < i
            · rw [if_pos hlt, if_pos (by omega)]
            · rw [if_neg hlt, if_neg (by omega)]
        split
        · exact ⟨hA s, hsb s⟩
        · rename_i k hk
          obtain ⟨hk1, hk2, _⟩ := zNew_some hk
          have hk1 : k < u.n := hk1
          have hk2 : u.sb k = u.sb i - 1 + 1 := hk2
          have hki : k = i := by
            by_cases hki : k = i
            · exact hki
            exfalso
            have hkb : v.sb k = v.sb i := by
              have h5 := (ih k).2
              by_cases hlt : k < i
              · rw [if_pos hlt] at h5
                unfold zLsb at h5
                split at h5
                · omega
                · omega
              · rw [if_neg hlt] at h5; omega
            exact hex ⟨k, by omega, hki, hkb⟩
          subst hki
          rw [if_neg (by show ¬ 0 < zu u.se k 0 k; rw [zu_self]; omega)]
          exact ⟨hA s, hsb s⟩
    · rw [if_neg (by rw [hei]; exact hie)]
      by_cases hsi : s = i
      · subst hsi
        rw [hei, hbi, if_pos (by omega), if_pos (by omega)]
        unfold zOff zLsb
        rw [if_neg hie, if_neg (fun h => hie h.1)]
        exact ⟨rfl, rfl⟩
      · rw [(ih s).1, (ih s).2]
        by_cases hlt : s < i
        · rw [if_pos hlt, if_pos hlt, if_pos (by omega), if_pos (by omega)]; exact ⟨rfl, rfl⟩
        · rw [if_neg hlt, if_neg hlt, if_neg (by omega), if_neg (by omega)]; exact ⟨rfl, rfl⟩
theorem zThree_0 (a b c : Nat) : zThree a b c 0 = iN a := rfl
theorem zThree_1 (a b c : Nat) : zThree a b c 1 = iN b := rfl
theorem zThree_2 (a b c : Nat) : zThree a b c 2 = iN c := rfl
theorem zDisc_0 {sd : ZSt} (h : sd 1 0 ≠ 1) : zDisc sd = zHome sd := if_neg h
/-- writes whose blocks all come again do not show -/
theorem zov_agree {p : List (Nat × ZBk)} {s s' : ZSt} {b : Nat} (h : (∀ e ∈ p, e.1 ≠ b) → s b = s' b) : zov s p b = zov s' p b := by
  induction p generalizing s s' with
  | nil => exact h (fun e he => by cases he)
  | cons e p ih =>
    refine ih (s := zu s e.1 e.2) (s' := zu s' e.1 e.2) (fun hn => ?_)
    by_cases hb : b = e.1
    · rw [hb, zu_self, zu_self]
    · rw [zu_ne _ _ hb, zu_ne _ _ hb]
      refine h (fun e' he' => ?_)
      rcases List.mem_cons.mp he' with rfl | he'
      · exact fun hh => hb hh.symm
      · exact hn e' he'
theorem zov_home {d : ZSt} {p : List (Nat × ZBk)} {b : Nat} : ∀ {s : ZSt}, (∀ b, s b = d (19 + b)) → zov d (p.map fun e => (19 + e.1, e.2)) (19 + b) = zov s p b := by
  induction p generalizing d with
  | nil => intro s h; exact (h b).symm
  | cons e p ih =>
    intro s h
    refine ih (d := zu d (19 + e.1) e.2) (s := zu s e.1 e.2) (fun b' => ?_)
    by_cases hb : b' = e.1
    · rw [hb, zu_self, zu_self]
    · rw [zu_ne _ _ hb, zu_ne _ _ (by omega)]; exact h b'
