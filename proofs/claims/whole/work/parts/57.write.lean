/-- a flash with nothing on it but an identity -/
def zFq (sf : ZSt) (i : Nat) : Prop := sf 0 0 = 1 ∧ sf 0 1 = iN i ∧ sf 25 1 = 0 ∧ ∀ k, k < 24 → sf (1 + k) 0 = 0 ∧ sf (26 + k) 0 = 0
theorem zFq_fl {P : ZSt → Prop} {sets ways eps id L : Nat} {sd sf : ZSt} (h : zFq sf id) (hid : 1 ≤ id) (hid2 : id < 2147483648) (hp : P (zDisc sd)) : ZFl P sets ways eps sd sf id L (L + 1) 0 1 0 (fun _ => 0) (fun _ => 0) := by
  have h0 : n32 (0 : Int32) = 0 := rfl
  obtain ⟨q1, q2, q3, q4⟩ := h
  refine ⟨by omega, q1, by omega, q2, ?_, by show n32 (sf 25 1) ≤ id; rw [q3, h0]; omega, by omega, by omega, ?_, ?_, ?_, by omega, ?_, ?_, ?_, ?_, ?_⟩
  · left
    show sf 25 1 ≠ iN id
    rw [q3]
    intro hx
    have := congrArg n32 hx
    rw [n32_iN hid2, h0] at this
    omega
  · intro k hk
    have := (q4 k hk).1
    have e : 25 * 0 + 1 + k = 1 + k := by omega
    rw [e, this, h0]
    exact ⟨by omega, fun hx => by omega⟩
  · intro k hk
    have := (q4 k hk).2
    have e : 25 * (1 - 0) + 1 + k = 26 + k := by omega
    rw [e, this, h0]
    exact ⟨by omega, fun hx => by omega⟩
  · intro e he1 he2; omega
  · intro s _ hx; exact absurd hx (Nat.lt_irrefl 0)
  · intro s s' _ _ hx; exact absurd hx (Nat.lt_irrefl 0)
  · intro e he1 he2
    have : zDl (fun _ => 0) e (sets * ways) = [] := by
      rw [List.eq_nil_iff_forall_not_mem]
      intro s hs
      have := mem_zDl.mp hs
      omega
    rw [this]; simp
  · intro e he1 he2; omega
  · intro e he1 he2
    have : zVol (zDisc sd) sf (fun _ => 0) (fun _ => 0) (sets * ways) e = zDisc sd := by
      funext b
      unfold zVol
      rw [zNew_none.mpr]
      intro s hs hu
      have := zUp_eq.mp hu
      omega
    rw [this]; exact hp
/-- it runs on the disc alone -/
abbrev ZRd (P : Nat → ZSt → Prop) (Q : ZSt → Prop) (v : ZVs) : Prop := (v.p.up = true) ∧ (v.wf = false) ∧ (ZSz v.sets v.ways v.eps) ∧ ((v.p.dv 1).pd = []) ∧ (∀ e ∈ (v.p.dv 0).pd, 19 ≤ e.1) ∧ (ZHead v.dn (n32 (v.dn 0 0)) v.landed) ∧ (v.dn 1 0 ≠ 1) ∧ (∀ s, (v.p.dv 0).out s → Q (zHome s)) ∧ (∀ V, Q V → P (v.p.na + 1) V) ∧ (zF0 (v.p.dv 1).st (n32 (v.dn 0 0)) ∨ zFq (v.p.dv 1).st (n32 (v.dn 0 0))) ∧ (n32 (v.dn 0 0) ≤ v.p.na + 1) ∧ (v.landed ≤ v.p.na)
theorem ZRd.up {P : Nat → ZSt → Prop} {Q : ZSt → Prop} {v : ZVs} (h : ZRd P Q v) : v.p.up = true := h.1
theorem ZRd.wf {P : Nat → ZSt → Prop} {Q : ZSt → Prop} {v : ZVs} (h : ZRd P Q v) : v.wf = false := h.2.1
theorem ZRd.sz {P : Nat → ZSt → Prop} {Q : ZSt → Prop} {v : ZVs} (h : ZRd P Q v) : ZSz v.sets v.ways v.eps := h.2.2.1
theorem ZRd.pd1 {P : Nat → ZSt → Prop} {Q : ZSt → Prop} {v : ZVs} (h : ZRd P Q v) : (v.p.dv 1).pd = [] := h.2.2.2.1
theorem ZRd.pd0 {P : Nat → ZSt → Prop} {Q : ZSt → Prop} {v : ZVs} (h : ZRd P Q v) : ∀ e ∈ (v.p.dv 0).pd, 19 ≤ e.1 := h.2.2.2.2.1
theorem ZRd.hd {P : Nat → ZSt → Prop} {Q : ZSt → Prop} {v : ZVs} (h : ZRd P Q v) : ZHead v.dn (n32 (v.dn 0 0)) v.landed := h.2.2.2.2.2.1
theorem ZRd.h0 {P : Nat → ZSt → Prop} {Q : ZSt → Prop} {v : ZVs} (h : ZRd P Q v) : v.dn 1 0 ≠ 1 := h.2.2.2.2.2.2.1
theorem ZRd.q {P : Nat → ZSt → Prop} {Q : ZSt → Prop} {v : ZVs} (h : ZRd P Q v) : ∀ s, (v.p.dv 0).out s → Q (zHome s) := h.2.2.2.2.2.2.2.1
theorem ZRd.qp {P : Nat → ZSt → Prop} {Q : ZSt → Prop} {v : ZVs} (h : ZRd P Q v) : ∀ V, Q V → P (v.p.na + 1) V := h.2.2.2.2.2.2.2.2.1
theorem ZRd.fs {P : Nat → ZSt → Prop} {Q : ZSt → Prop} {v : ZVs} (h : ZRd P Q v) : zF0 (v.p.dv 1).st (n32 (v.dn 0 0)) ∨ zFq (v.p.dv 1).st (n32 (v.dn 0 0)) := h.2.2.2.2.2.2.2.2.2.1
theorem ZRd.n1 {P : Nat → ZSt → Prop} {Q : ZSt → Prop} {v : ZVs} (h : ZRd P Q v) : n32 (v.dn 0 0) ≤ v.p.na + 1 := h.2.2.2.2.2.2.2.2.2.2.1
theorem ZRd.n2 {P : Nat → ZSt → Prop} {Q : ZSt → Prop} {v : ZVs} (h : ZRd P Q v) : v.landed ≤ v.p.na := h.2.2.2.2.2.2.2.2.2.2.2
/-- it runs: what may come of this phase's writes lies in Q -/
def ZIv (P : Nat → ZSt → Prop) (Q : ZSt → Prop) (v : ZVs) : Prop := (ZRf P v ∧ Q v.cur ∧ ∀ V, Q V → P (v.p.na + 1) V) ∨ ZRd P Q v
theorem ZRd.lo {P : Nat → ZSt → Prop} {Q : ZSt → Prop} {v : ZVs} (h : ZRd P Q v) {s : ZSt} (ho : (v.p.dv 0).out s) {b : Nat} (hb : b < 19) : s b = v.dn b := ZDv.out_notin ho (fun e he => by have := h.pd0 e he; omega)
theorem zOK_disc {P : Nat → ZSt → Prop} {sets ways eps m id L : Nat} {sd sf : ZSt} (hh : ZHead sd id L) (h1 : id ≤ m) (h1' : id < 2147483648) (h2 : L < m) (h3 : P m (zDisc sd)) (hf : zF0 sf id ∨ zFq sf id) : zOK P sets ways eps m sd sf := by
  have := hh.hid1
  refine ⟨id, L, hh, h1, h2, h3, ?_⟩
  rcases hf with hf | hf
  · exact Or.inl hf
  · refine Or.inr (Or.inr ⟨L + 1, 0, 1, fun _ => 0, fun _ => 0, by omega, by omega, fun s _ => Nat.succ_pos L, ?_⟩)
    exact (zFq_fl hf hh.hid1 h1' h3).congr (fun _ q => q) (by omega) (Nat.le_refl _) rfl (fun _ _ => rfl) (fun s _ hx => absurd hx (Nat.lt_irrefl 0)) (fun s _ hx => absurd hx (Nat.lt_irrefl 0))
theorem ZRd.ok {P : Nat → ZSt → Prop} {Q : ZSt → Prop} {v : ZVs} (h : ZRd P Q v) {sd sf : ZSt} (h0 : (v.p.dv 0).out sd) (hf : zF0 sf (n32 (v.dn 0 0)) ∨ zFq sf (n32 (v.dn 0 0))) : zOK P v.sets v.ways v.eps (v.p.na + 1) sd sf := by
  have hn2 := h.n2
  refine zOK_disc (id := n32 (v.dn 0 0)) (L := v.landed) ⟨by rw [h.lo h0 (by omega)]; exact h.hd.hid, h.hd.hid1, by rw [h.lo h0 (by omega)]; exact h.hd.hL, fun hx => ?_⟩ h.n1 (n32_lt _) (by omega) ?_ hf
  · rw [h.lo h0 (by omega)] at hx; exact absurd hx h.h0
  · rw [zDisc_0 (by rw [h.lo h0 (by omega)]; exact h.h0)]
    exact h.qp _ (h.q _ h0)
theorem ZRd.cr {P : Nat → ZSt → Prop} {Q : ZSt → Prop} {v : ZVs} (h : ZRd P Q v) : ZCr P v := by
  refine ⟨h.up, h.sz, fun sd sf h0 h1 => h.ok h0 ?_⟩
  rw [ZDv.out_nil h.pd1 h1]; exact h.fs
theorem ZIv.cr {P : Nat → ZSt → Prop} {Q : ZSt → Prop} {v : ZVs} (h : ZIv P Q v) : ZCr P v := by
  rcases h with h | h
  · exact h.1.cr
  · exact h.cr
theorem ZIv.up {P : Nat → ZSt → Prop} {Q : ZSt → Prop} {v : ZVs} (h : ZIv P Q v) : v.p.up = true := h.cr.up
theorem ZIv.sz {P : Nat → ZSt → Prop} {Q : ZSt → Prop} {v : ZVs} (h : ZIv P Q v) : ZSz v.sets v.ways v.eps := h.cr.sz
theorem ZRd.cur {P : Nat → ZSt → Prop} {Q : ZSt → Prop} {v : ZVs} (h : ZRd P Q v) : v.cur = zHome v.dn := by
  funext b; unfold ZVs.cur; rw [h.wf]; rfl
theorem ZIv.q {P : Nat → ZSt → Prop} {Q : ZSt → Prop} {v : ZVs} (h : ZIv P Q v) : Q v.cur := by
  rcases h with h | h
  · exact h.2.1
  · rw [h.cur]; exact h.q _ (ZDv.out_now _)
theorem ZIv.qp {P : Nat → ZSt → Prop} {Q : ZSt → Prop} {v : ZVs} (h : ZIv P Q v) : ∀ V, Q V → P (v.p.na + 1) V := by
  rcases h with h | h
  · exact h.2.2
  · exact h.qp
theorem ZIv.re {P : Nat → ZSt → Prop} {Q Q' : ZSt → Prop} {v : ZVs} (h : ZIv P Q v) (h1 : ∀ V, Q V → Q' V) (h2 : ∀ V, Q' V → P (v.p.na + 1) V) : ZIv P Q' v := by
  rcases h with h | h
  · exact Or.inl ⟨h.1, h1 _ h.2.1, h2⟩
  · exact Or.inr ⟨h.up, h.wf, h.sz, h.pd1, h.pd0, h.hd, h.h0, fun s hs => h1 _ (h.q s hs), h2, h.fs, h.n1, h.n2⟩
section
theorem ZRd.wrH {P : Nat → ZSt → Prop} (hP : ∀ m m' V, m ≤ m' → P m V → P m' V) {Q : ZSt → Prop} {v : ZVs} (h : ZRd P Q v) {b : Nat} {x : ZBk} (hq : ∀ V, Q V → Q (zu V b x)) : ZOk P (fun u => ZRd P Q u ∧ u.cur = zu v.cur b x ∧ v.p.na + 1 ≤ u.p.na) (v.wr 0 (19 + b) x) := by
  rcases h.cr.wr hP 0 (19 + b) x with ⟨_, h2⟩ | h2
  · left
    have hup := h.up
    rw [h2]
    have hdn : (zu v.p.dv 0 ((v.p.dv 0).add (19 + b) x) 0).now = zu v.dn (19 + b) x := by rw [zu_self, ZDv.now_add]
    have h1 : zu v.p.dv 0 ((v.p.dv 0).add (19 + b) x) 1 = v.p.dv 1 := zu_ne _ _ (by omega)
    have e0 : zu v.dn (19 + b) x 0 = v.dn 0 := zu_ne _ _ (by omega)
    have e1 : zu v.dn (19 + b) x 1 = v.dn 1 := zu_ne _ _ (by omega)
    have hn1 := h.n1; have hn2 := h.n2
    have hq' : ZRd P Q (ZVs.s_p v (ZPw.mk (zu v.p.dv 0 ((v.p.dv 0).add (19 + b) x)) (ZPw.up v.p) (v.p.lim - 1) (ZPw.msk v.p) (v.p.na + 1))) := by
      refine ⟨hup, h.wf, h.sz, ?_, ?_, ?_, ?_, ?_, ?_, ?_, ?_, ?_⟩
      · show (zu v.p.dv 0 ((v.p.dv 0).add (19 + b) x) 1).pd = []
        rw [h1]; exact h.pd1
      · show ∀ e ∈ (zu v.p.dv 0 ((v.p.dv 0).add (19 + b) x) 0).pd, 19 ≤ e.1
        rw [zu_self]
        intro e he
        rcases ZDv.mem_add he with he | he
        · exact h.pd0 e he
        · subst he; show 19 ≤ 19 + b; omega
      · unfold ZVs.landed ZVs.dn
        show ZHead (zu v.p.dv 0 ((v.p.dv 0).add (19 + b) x) 0).now (n32 ((zu v.p.dv 0 ((v.p.dv 0).add (19 + b) x) 0).now 0 0)) (n32 ((zu v.p.dv 0 ((v.p.dv 0).add (19 + b) x) 0).now 1 1))
        rw [hdn, e0, e1]
        refine ⟨by rw [e0]; exact h.hd.hid, h.hd.hid1, by rw [e1]; exact h.hd.hL, fun hx => ?_⟩
        rw [e1] at hx; exact absurd hx h.h0
      · show (zu v.p.dv 0 ((v.p.dv 0).add (19 + b) x) 0).now 1 0 ≠ 1
        rw [hdn, e1]; exact h.h0
      · intro s hs
        have hs : ((v.p.dv 0).add (19 + b) x).out s := hs
        rcases ZDv.out_add hs with hs | ⟨s', hs', rfl⟩
        · exact h.q s hs
        · have : zHome (zu s' (19 + b) x) = zu (zHome s') b x := by
            funext b'
            show zu s' (19 + b) x (19 + b') = _
            by_cases hb : b' = b
            · rw [hb, zu_self, zu_self]
            · rw [zu_ne _ _ hb, zu_ne _ _ (by omega)]; rfl
          rw [this]; exact hq _ (h.q s' hs')
      · intro V hV; exact hP _ _ V (show v.p.na + 1 ≤ v.p.na + 1 + 1 by omega) (h.qp V hV)
      · show zF0 (zu v.p.dv 0 ((v.p.dv 0).add (19 + b) x) 1).st (n32 ((zu v.p.dv 0 ((v.p.dv 0).add (19 + b) x) 0).now 0 0)) ∨ zFq (zu v.p.dv 0 ((v.p.dv 0).add (19 + b) x) 1).st (n32 ((zu v.p.dv 0 ((v.p.dv 0).add (19 + b) x) 0).now 0 0))
        rw [h1, hdn, e0]; exact h.fs
      · show n32 ((zu v.p.dv 0 ((v.p.dv 0).add (19 + b) x) 0).now 0 0) ≤ v.p.na + 1 + 1
        rw [hdn, e0]; omega
      · show n32 ((zu v.p.dv 0 ((v.p.dv 0).add (19 + b) x) 0).now 1 1) ≤ v.p.na + 1
        rw [hdn, e1]; show v.landed ≤ _; omega
    refine ⟨hup, hq', ?_, Nat.le_refl _⟩
    rw [hq'.cur, h.cur]
    funext b'
    show (zu v.p.dv 0 ((v.p.dv 0).add (19 + b) x) 0).now (19 + b') = _
    rw [hdn]
    by_cases hb : b' = b
    · rw [hb, zu_self, zu_self]
    · rw [zu_ne _ _ hb, zu_ne _ _ (by omega)]; rfl
  · exact Or.inr h2
theorem ZRd.flH {P : Nat → ZSt → Prop} (hP : ∀ m m' V, m ≤ m' → P m V → P m' V) {Q : ZSt → Prop} {v : ZVs} (h : ZRd P Q v) : ZOk P (fun u => ZRd P (· = v.cur) u ∧ u.cur = v.cur) (v.fl 0) := by
  rcases h.cr.fl hP 0 with ⟨_, h2⟩ | h2
  · left
    have hup := h.up
    rw [h2]
    have hdn : (zu v.p.dv 0 ((v.p.dv 0).flush) 0).now = v.dn := by rw [zu_self, ZDv.now_flush]
    have h1 : zu v.p.dv 0 ((v.p.dv 0).flush) 1 = v.p.dv 1 := zu_ne _ _ (by omega)
    have hn1 := h.n1; have hn2 := h.n2
    have hq' : ZRd P (· = v.cur) (ZVs.s_p v (ZPw.mk (zu v.p.dv 0 ((v.p.dv 0).flush)) (ZPw.up v.p) (v.p.lim - 1) (ZPw.msk v.p) (v.p.na + 1))) := by
      refine ⟨hup, h.wf, h.sz, ?_, ?_, ?_, ?_, ?_, ?_, ?_, ?_, ?_⟩
      · show (zu v.p.dv 0 ((v.p.dv 0).flush) 1).pd = []
        rw [h1]; exact h.pd1
      · show ∀ e ∈ (zu v.p.dv 0 ((v.p.dv 0).flush) 0).pd, 19 ≤ e.1
        rw [zu_self]; intro e he; cases he
      · unfold ZVs.landed ZVs.dn
        show ZHead (zu v.p.dv 0 ((v.p.dv 0).flush) 0).now (n32 ((zu v.p.dv 0 ((v.p.dv 0).flush) 0).now 0 0)) (n32 ((zu v.p.dv 0 ((v.p.dv 0).flush) 0).now 1 1))
        rw [hdn]; exact h.hd
      · show (zu v.p.dv 0 ((v.p.dv 0).flush) 0).now 1 0 ≠ 1
        rw [hdn]; exact h.h0
      · intro s hs
        have hs : ((v.p.dv 0).flush).out s := hs
        rw [ZDv.out_flush hs, h.cur]
      · intro V hV
        subst hV
        refine hP _ _ _ (show v.p.na + 1 ≤ v.p.na + 1 + 1 by omega) (h.qp _ ?_)
        rw [h.cur]; exact h.q _ (ZDv.out_now _)
      · show zF0 (zu v.p.dv 0 ((v.p.dv 0).flush) 1).st (n32 ((zu v.p.dv 0 ((v.p.dv 0).flush) 0).now 0 0)) ∨ zFq (zu v.p.dv 0 ((v.p.dv 0).flush) 1).st (n32 ((zu v.p.dv 0 ((v.p.dv 0).flush) 0).now 0 0))
        rw [h1, hdn]; exact h.fs
      · show n32 ((zu v.p.dv 0 ((v.p.dv 0).flush) 0).now 0 0) ≤ v.p.na + 1 + 1
        rw [hdn]; omega
      · show n32 ((zu v.p.dv 0 ((v.p.dv 0).flush) 0).now 1 1) ≤ v.p.na + 1
        rw [hdn]; show v.landed ≤ _; omega
    refine ⟨hup, hq', ?_⟩
    rw [hq'.cur, h.cur]
    funext b'
    show (zu v.p.dv 0 ((v.p.dv 0).flush) 0).now (19 + b') = _
    rw [hdn]; rfl
  · exact Or.inr h2
/-- a write of a block -/
theorem ZRf.wrv {P : Nat → ZSt → Prop} (hP : ∀ m m' V, m ≤ m' → P m V → P m' V) {v : ZVs} (h : ZRf P v) (hc : P (v.p.na + 1) v.cur) {b : Nat} (hb : b < 106) (x : ZBk) (hn : v.p.na + 10000 < 2147483648) : ZOk P (fun u => ZRf P u ∧ u.cur = zu v.cur b x ∧ v.p.na + 1 ≤ u.p.na) (v.wrv b x) := by
  unfold ZVs.wrv
  rw [if_neg (by rw [h.wf]; exact Bool.noConfusion)]
  -- a new slot
  have key : (∀ s, s < v.n → v.sb s = b + 1 → v.se s ≠ v.opn) → ZOk P (fun u => ZRf P u ∧ u.cur = zu v.cur b x ∧ v.p.na + 1 ≤ u.p.na) (ZVs.wrNew v b x) := by
    intro hnb
    unfold ZVs.wrNew
    dsimp only
    have s1 : ZOk P (fun u => ZJb P b v.cur u) (if v.dirty v.opn = 16 then v.close else v) := by
      split
      · rename_i hd
        have hz := zfr_close v h.sz
        refine (h.close hP hc (by omega)).imp (fun _ q => ?_)
        obtain ⟨q1, q2, q3, q4, q5, q6, q7⟩ := q
        refine ⟨q1, fun s hs hx hy => ?_, by rw [q3]; omega, q2⟩
        have : s ∈ zDl v.close.se v.close.opn v.close.n := mem_zDl.mpr ⟨hs, hy⟩
        have hx : (zDl v.close.se v.close.opn v.close.n).length = 0 := q3
        rw [List.length_eq_zero_iff.mp hx] at this
        cases this
      · rename_i hd
        have := h.t5
        exact Or.inl ⟨h.up, h, hnb, by omega, rfl⟩
    have z1 : ZFr 435 v (if v.dirty v.opn = 16 then v.close else v) := by
      split
      · exact zfr_close v h.sz
      · exact (ZFr.refl v).mono (by omega)
    generalize (if v.dirty v.opn = 16 then v.close else v) = v1 at *
    have hz1 := z1.n1; have hz2 := z1.n2
    have zc := zfr_claim v1 b
    rcases s1 with ⟨hup, q⟩ | s1
    · obtain ⟨c1, c2, c3⟩ := q.claim hP
      have s2 := c1.loop hP (o := (v1.claim b).1) (hP _ _ _ (by rw [zc.2.1]; omega) hc) c2 (fun hx => by rw [zc.1.w, zc.1.s, zc.2.2.2.2.2.2]; exact c3 hx) (by rw [zc.2.1]; omega)
      rw [Prod.eta] at s2
      have zl := zfr_claimLoop b 12 (v1.claim b).1 (v1.claim b).2 c1.sz
      rw [Prod.eta] at zl
      generalize ZVs.claimLoop b 12 (v1.claim b) = r at *
      obtain ⟨o, u⟩ := r
      dsimp only at *
      rcases s2 with ⟨hup2, r1, i, r2, r3⟩ | s2
      · subst r2
        have zln := zl.n1
        rw [zc.2.1] at zln
        exact (r1.take hP r3 hb x).imp (fun _ t => ⟨t.1, t.2.1, by omega⟩)
      · cases o with
        | none => exact Or.inr s2
        | some i =>
          dsimp only
          refine Or.inr ((zfr_wr _ _ _ _).dnn (v := (ZVs.mk (ZVs.p u) (ZVs.sets u) (ZVs.ways u) (ZVs.eps u) (ZVs.wf u) (zu u.sb i (b + 1)) (zu u.se i u.opn) (zu u.mrk i true) (ZVs.hd u) (ZVs.opn u) (ZVs.half u) (ZVs.gen u) (ZVs.plc u))) (s2.of_p rfl ⟨rfl, rfl, rfl⟩))
    · have s2 := s1.of_p zc.2.1 ⟨zc.1.s, zc.1.w, zc.1.e⟩
      have zl := zfr_claimLoop b 12 (v1.claim b).1 (v1.claim b).2 s2.sz
      have s3 := zl.dnn s2
      rw [Prod.eta] at s3
      generalize ZVs.claimLoop b 12 (v1.claim b) = r at *
      obtain ⟨o, u⟩ := r
      dsimp only at *
      cases o with
      | none => exact Or.inr s3
      | some i =>
        dsimp only
        refine Or.inr ((zfr_wr _ _ _ _).dnn (v := (ZVs.mk (ZVs.p u) (ZVs.sets u) (ZVs.ways u) (ZVs.eps u) (ZVs.wf u) (zu u.sb i (b + 1)) (zu u.se i u.opn) (zu u.mrk i true) (ZVs.hd u) (ZVs.opn u) (ZVs.half u) (ZVs.gen u) (ZVs.plc u))) (s3.of_p rfl ⟨rfl, rfl, rfl⟩))
  rcases h.cur_cases b with ⟨s, q1, q2, q3, q4, q5⟩ | ⟨q1, q2, q3⟩
  · rw [q4]
    dsimp only
    by_cases hs : v.se s = v.opn
    · rw [if_pos hs]
      refine (h.toZRm.wrSlot hP q1 (Or.inr hs) x).imp (fun _ r => ?_)
      generalize v.wr 1 (50 + s) x = u at *
      obtain ⟨r1, r2, r3, r4, r5⟩ := r
      have hH := h.fl.hH
      have un : u.n = v.n := by show u.sets * u.ways = _; rw [r2.sets, r2.ways]
      have udn : u.dn = v.dn := by show (u.p.dv 0).now = _; rw [r4]
      refine ⟨⟨by rw [r2.plc]; exact r1, ?_, ?_⟩, ?_, r5⟩
      · rw [r3, r2.half, r2.gen]; intro k hk; rw [zu_ne _ _ (by omega)]; exact h.ot k hk
      · rw [r3, r2.half, r2.gen, r2.opn]; intro k hk; rw [zu_ne _ _ (by omega)]; exact h.oa k hk
      · funext b'
        have hnw : u.newest b' = v.newest b' := by unfold ZVs.newest; rw [r2.sb, r2.se, un]
        by_cases hbb : b' = b
        · rw [hbb] at hnw ⊢
          rw [zu_self, ZVs.cur_some r1.wf (hnw.trans q4), r3, zu_self]
        · rw [zu_ne _ _ hbb]
          cases hn' : v.newest b' with
          | none => rw [ZVs.cur_none r1.wf (hnw.trans hn'), ZVs.cur_none h.wf hn', udn]
          | some s' =>
            rw [ZVs.cur_some r1.wf (hnw.trans hn'), ZVs.cur_some h.wf hn', r3, zu_ne]
            intro hx
            obtain ⟨_, p2, _⟩ := zNew_some hn'
            have : s' = s := by omega
            subst this
            omega
    · rw [if_neg hs]
      refine key (fun t ht hx hy => ?_)
      have := q3 t ht hx
      have := h.t1 s q1
      omega
  · rw [q2]
    exact key (fun t ht hx => absurd hx (q1 t ht))
/-- reading marks, and takes to the flash what is not there -/
theorem ZRf.rdv {P : Nat → ZSt → Prop} (hP : ∀ m m' V, m ≤ m' → P m V → P m' V) {v : ZVs} (h : ZRf P v) {b : Nat} (hb : b < 106) : ZOk P (fun u => ZRf P u ∧ u.cur = v.cur) (v.rdv b) := by
  unfold ZVs.rdv
  rw [if_neg (by rw [h.wf]; exact Bool.noConfusion)]
  have hset : b % v.sets < v.sets := Nat.mod_lt _ h.sz.s1
  rcases h.cur_cases b with ⟨s, q1, q2, q3, q4, q5⟩ | ⟨q1, q2, q3⟩
  · rw [q4]
    refine Or.inl ⟨h.up, ⟨?_, h.ot, h.oa⟩, ?_⟩
    · exact h.toZRm.alt hP ⟨rfl, rfl, rfl, rfl, rfl, rfl, rfl⟩ h.up (Nat.le_refl _) rfl (fun _ _ => rfl) (fun _ _ _ _ => ⟨rfl, rfl, rfl⟩) (fun _ _ _ _ => rfl) h.pdf h.t0 h.t1 h.t2 h.t3 h.t4 h.t5 h.hh
    · exact zcur_same (v := v) rfl rfl rfl rfl rfl (fun _ => rfl)
  · rw [q2]
    dsimp only
    have f := zfr_find (b % v.sets) (2 * v.ways) v
    obtain ⟨m1, m2, m3, m4⟩ := h.toZRm.find hP hset
    have hr := h.find hP hset
    generalize ZVs.find (b % v.sets) (2 * v.ways) v = r at *
    obtain ⟨o, u⟩ := r
    dsimp only at *
    obtain ⟨f1, f2, f3, f4, f5, f6, f7⟩ := f
    cases o with
    | none => exact Or.inl ⟨hr.up, hr, m2⟩
    | some i =>
      obtain ⟨p1, p2, p3, p4⟩ := m4 i rfl
      dsimp only
      have un : u.n = v.n := by show u.sets * u.ways = _; rw [f1.s, f1.w]
      have udn : u.dn = v.dn := by show (u.p.dv 0).now = _; rw [f2]
      have usbi : u.sb i = 0 := by rw [p4, zu_self]
      have hsb : ∀ s, s < v.n → u.sb s ≠ b + 1 := by
        intro s hs hx
        rw [p4] at hx
        by_cases hsi : s = i
        · rw [hsi, zu_self] at hx; omega
        · rw [zu_ne _ _ hsi] at hx; exact q1 s hs hx
      have s1 := hr.toZRm.wrSlot hP (s := i) (by rw [un]; exact p1) (Or.inl usbi) (v.dn (19 + b))
      refine s1.bind (f := fun w => (ZVs.s_sb w (zu u.sb i (b + 1)))) (ZFr.of_p rfl rfl rfl rfl rfl) (fun hup t => ?_)
      generalize u.wr 1 (50 + i) (v.dn (19 + b)) = w at *
      obtain ⟨t1, t2, t3, t4, t5⟩ := t
      have wn : w.n = v.n := by show w.sets * w.ways = _; rw [t2.sets, t2.ways]; exact un
      have wdn : w.dn = v.dn := by show (w.p.dv 0).now = _; rw [t4]; exact udn
      have wse : w.se = v.se := t2.se.trans f7
      have wsb : w.sb = u.sb := t2.sb
      have wsbi : w.sb i = 0 := by rw [wsb]; exact usbi
      have wsei : w.se i = 0 := by rw [wse]; exact p3
      have hm : ZRm P w.plc (ZVs.s_sb w (zu u.sb i (b + 1))) := by
        have t1' : ZRm P w.plc w := by rw [t2.plc]; exact t1
        refine t1'.alt hP ⟨rfl, rfl, rfl, rfl, rfl, rfl, rfl⟩ hup (Nat.le_refl _) rfl (fun _ _ => rfl) ?_ (fun _ _ _ _ => rfl) t1.pdf ?_ t1.t1 ?_ ?_ ?_ t1.t5 t1.hh
        · intro s hs s1 s2
          refine ⟨rfl, ?_, rfl⟩
          show zu u.sb i (b + 1) s = w.sb s
          rw [zu_ne, wsb]
          intro hx; subst hx; omega
        · intro s hs hx
          have hx : zu u.sb i (b + 1) s = 0 := hx
          show w.se s = 0
          by_cases hsi : s = i
          · rw [hsi]; exact wsei
          · rw [zu_ne _ _ hsi, ← wsb] at hx; exact t1.t0 s hs hx
        · intro s hs hx
          have hx : zu u.sb i (b + 1) s ≠ 0 := hx
          show zu u.sb i (b + 1) s ≤ 106 ∧ s / w.ways = (zu u.sb i (b + 1) s - 1) % w.sets
          by_cases hsi : s = i
          · rw [hsi, zu_self, t2.ways, t2.sets, f1.w, f1.s]; exact ⟨by omega, p2⟩
          · rw [zu_ne _ _ hsi, ← wsb] at hx ⊢; exact t1.t2 s hs hx
        · intro s s' hs hs' hx hxx hd
          have hx : zu u.sb i (b + 1) s ≠ 0 := hx
          have hxx : zu u.sb i (b + 1) s = zu u.sb i (b + 1) s' := hxx
          by_cases hsi : s = i
          · by_cases hsi' : s' = i
            · omega
            · exfalso
              rw [hsi, zu_self, zu_ne _ _ hsi'] at hxx
              exact hsb s' (by rw [← wn]; exact hs') hxx.symm
          · by_cases hsi' : s' = i
            · exfalso
              rw [zu_ne _ _ hsi, hsi', zu_self] at hxx
              exact hsb s (by rw [← wn]; exact hs) hxx
            · rw [zu_ne _ _ hsi, zu_ne _ _ hsi', ← wsb] at hxx
              rw [zu_ne _ _ hsi, ← wsb] at hx
              exact t1.t3 s s' hs hs' hx hxx hd
        · intro s hs hx hd
          have hx : zu u.sb i (b + 1) s ≠ 0 := hx
          show w.fn (50 + s) = w.dn (19 + (zu u.sb i (b + 1) s - 1))
          by_cases hsi : s = i
          · rw [hsi, zu_self, t3, zu_self, wdn]; rfl
          · rw [zu_ne _ _ hsi, ← wsb] at hx ⊢; exact t1.t4 s hs hx hd
      have hH := hr.fl.hH
      refine Or.inl ⟨hup, ⟨hm, ?_, ?_⟩, ?_⟩
      · show ∀ k, k < 24 → n32 (w.fn (25 * (1 - w.half) + 1 + k) 0) ≤ w.gen
        rw [t3, t2.half, t2.gen]; intro k hk; rw [zu_ne _ _ (by omega)]; exact hr.ot k hk
      · show ∀ k, k < 24 → n32 (w.fn (25 * w.half + 1 + k) 0) = w.gen → n32 (w.fn (25 * w.half + 1 + k) 1) < w.opn
        rw [t3, t2.half, t2.gen, t2.opn]; intro k hk; rw [zu_ne _ _ (by omega)]; exact hr.oa k hk
      · rw [← m2]
        funext b'
        have hwn : ((ZVs.s_sb w (zu u.sb i (b + 1))) : ZVs).n = v.n := wn
        by_cases hbb : b' = b
        · rw [hbb, (hm.cur_of (b := b) (s := i) (by rw [hwn]; exact p1) (zu_self _ _ _) ?_).2, (hr.cur_no (b := b) (by rw [un]; exact hsb)).2]
          · show w.fn (50 + i) = _
            rw [t3, zu_self, udn]
          · intro j hj hjb
            have hjb : zu u.sb i (b + 1) j = b + 1 := hjb
            by_cases hji : j = i
            · rw [hji]; exact Nat.le_refl _
            · rw [zu_ne _ _ hji] at hjb
              exact absurd hjb (hsb j (by rw [← hwn]; exact hj))
        · rcases hr.cur_cases b' with ⟨s, r1, r2, r3, r4, r5⟩ | ⟨r1, r2, r3⟩
          · have hsi : s ≠ i := fun hx => by subst hx; omega
            rw [r5, (hm.cur_of (b := b') (s := s) (by rw [hwn, ← un]; exact r1) (by show zu u.sb i (b + 1) s = _; rw [zu_ne _ _ hsi]; exact r2) ?_).2]
            · show w.fn (50 + s) = _
              rw [t3, zu_ne _ _ (by omega)]
            · intro j hj hjb
              have hjb : zu u.sb i (b + 1) j = b' + 1 := hjb
              have hji : j ≠ i := fun hx => by rw [hx, zu_self] at hjb; omega
              rw [zu_ne _ _ hji] at hjb
              show w.se j ≤ w.se s
              rw [t2.se]
              exact r3 j (by rw [un, ← hwn]; exact hj) hjb
          · rw [r3, (hm.cur_no (b := b') ?_).2]
            · show w.dn (19 + b') = _
              rw [wdn, udn]
            · intro j hj hjb
              have hjb : zu u.sb i (b + 1) j = b' + 1 := hjb
              have hji : j ≠ i := fun hx => by rw [hx, zu_self] at hjb; omega
              rw [zu_ne _ _ hji] at hjb
              exact r1 j (by rw [un, ← hwn]; exact hj) hjb
/-! BOTH WAYS -/
theorem ZIv.wrv {P : Nat → ZSt → Prop} (hP : ∀ m m' V, m ≤ m' → P m V → P m' V) {Q : ZSt → Prop} {v : ZVs} (h : ZIv P Q v) {b : Nat} (hb : b < 106) {x : ZBk} (hq : ∀ V, Q V → Q (zu V b x)) (hn : v.p.na + 10000 < 2147483648) : ZOk P (fun u => ZIv P Q u ∧ u.cur = zu v.cur b x ∧ v.p.na + 1 ≤ u.p.na) (v.wrv b x) := by
  rcases h with ⟨h, h1, h2⟩ | h
  · have hz := (zfr_wrv v b x h.sz).n1
    refine (h.wrv hP (h2 _ h1) hb x hn).imp (fun _ q => ?_)
    exact ⟨Or.inl ⟨q.1, by rw [q.2.1]; exact hq _ h1, fun V hV => hP _ _ V (by omega) (h2 V hV)⟩, q.2⟩
  · unfold ZVs.wrv
    rw [if_pos h.wf]
    refine (h.wrH hP hq).imp (fun _ q => ⟨Or.inr q.1, q.2⟩)
theorem ZIv.flv {P : Nat → ZSt → Prop} (hP : ∀ m m' V, m ≤ m' → P m V → P m' V) {Q : ZSt → Prop} {v : ZVs} (h : ZIv P Q v) (hn : v.p.na + 1000 < 2147483648) : ZOk P (fun u => ZIv P (· = v.cur) u ∧ u.cur = v.cur) v.flv := by
  rcases h with ⟨h, h1, h2⟩ | h
  · have hz := (zfr_flv v h.sz).n1
    unfold ZVs.flv at *
    rw [if_pos h.wf] at *
    refine (h.close hP (h2 _ h1) hn).imp (fun _ q => ?_)
    exact ⟨Or.inl ⟨q.1, q.2.1, fun V hV => by subst hV; exact hP _ _ _ (by omega) (h2 _ h1)⟩, q.2.1⟩
  · unfold ZVs.flv
    rw [if_neg (by rw [h.wf]; exact Bool.noConfusion)]
    exact (h.flH hP).imp (fun _ q => ⟨Or.inr q.1, q.2⟩)
theorem ZIv.rdv {P : Nat → ZSt → Prop} (hP : ∀ m m' V, m ≤ m' → P m V → P m' V) {Q : ZSt → Prop} {v : ZVs} (h : ZIv P Q v) {b : Nat} (hb : b < 106) : ZOk P (fun u => ZIv P Q u ∧ u.cur = v.cur) (v.rdv b) := by
  rcases h with ⟨h, h1, h2⟩ | h
  · have hz := (zfr_rdv v b).n1
    refine (h.rdv hP hb).imp (fun _ q => ?_)
    exact ⟨Or.inl ⟨q.1, by rw [q.2]; exact h1, fun V hV => hP _ _ V (by omega) (h2 V hV)⟩, q.2⟩
  · unfold ZVs.rdv
    rw [if_pos h.wf]
    exact Or.inl ⟨h.up, Or.inr h, rfl⟩
theorem ZIv.crash {P : Nat → ZSt → Prop} (hP : ∀ m m' V, m ≤ m' → P m V → P m' V) {Q : ZSt → Prop} {v : ZVs} (h : ZIv P Q v) (m : Int64) : ZDn P (ZVs.s_p v (v.p.goes m)) := h.cr.goes hP m 0 _ rfl ⟨rfl, rfl, rfl⟩
end
