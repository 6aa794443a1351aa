/-! A SLOT IS CLAIMED, A BLOCK IS WRITTEN (the reference) -/
theorem zMm_find {v : ZVs} (h : zMm v) (set : Nat) (k : Nat) : zMm (ZVs.find set k v).2 := by
  obtain ⟨z1, z2, z3, z4, z5, z6, z7⟩ := zfr_find set k v
  obtain ⟨f1, f2, f3⟩ := find_spec set k v (h.2.2.2 set)
  refine zMm_less h z1.s z1.w z1.e (fun i => ?_) (fun st => ?_) z3
  · rw [z7]
    cases ho : (ZVs.find set k v).1 with
    | none => left; exact ⟨rfl, by rw [f2 ho]⟩
    | some j =>
      obtain ⟨_, j2, j3⟩ := f3 j ho
      by_cases hij : i = j
      · right; rw [hij]; exact ⟨j2, Or.inr (by rw [j3, zu_self])⟩
      · left; exact ⟨rfl, by rw [j3, zu_ne _ _ hij]⟩
  · rw [z1.w]
    rcases f1 st with hx | hx
    · rw [hx]; exact h.2.2.2 st
    · exact hx
theorem zMm_claim {v : ZVs} (h : zMm v) (b : Nat) : zMm (v.claim b).2 ∧ ∀ i, (v.claim b).1 = some i → i < v.n ∧ v.se i = 0 := by
  unfold ZVs.claim
  cases hc : zClean v.sb v.se b v.n with
  | some j =>
    refine ⟨h, fun i hi => ?_⟩
    cases hi
    obtain ⟨c1, _, c3⟩ := zClean_some hc
    exact ⟨c1, c3⟩
  | none =>
    refine ⟨zMm_find h _ _, fun i hi => ?_⟩
    obtain ⟨_, _, f3⟩ := find_spec (b % v.sets) (2 * v.ways) v (h.2.2.2 _)
    obtain ⟨⟨w, hw, hi⟩, h2, _⟩ := f3 i hi
    have hz := h.1.1
    rw [hi] at h2 ⊢
    exact ⟨(zset_lt (Nat.mod_lt _ hz.s1) hw).1, h2⟩
theorem zAl_claim {P : Nat → ZSt → Prop} (hP : ∀ m m' V, m ≤ m' → P m V → P m' V) {v : ZVs} (h : zAl P v) (b : Nat) : zAl P (v.claim b).2 := by
  have hf := zfr_claim v b
  cases hu : v.p.up with
  | false => exact zAl_fr hf.1 hu h
  | true =>
    rcases h with ⟨h1, h2, h3⟩ | h
    · left
      refine ⟨by rw [hf.2.1]; exact h1, ?_⟩
      unfold ZVs.claim
      cases hc : zClean v.sb v.se b v.n with
      | some j => exact ⟨h2, h3⟩
      | none =>
        have hset : b % v.sets < v.sets := Nat.mod_lt _ h2.toZRm.sz.s1
        have q := h2.toZRm.find hP hset
        refine ⟨h2.find hP hset, ?_⟩
        rw [q.2.1]
        have := (zfr_find (b % v.sets) (2 * v.ways) v).2.1
        rw [this]; exact h3
    · rw [h.up] at hu; cases hu
theorem oN_lt {o : Option Nat} (h : ∀ i, o = some i → i < 2147483648) : (0 ≤ oN o ↔ o ≠ none) ∧ (oN o < 0 ↔ o = none) := by
  cases o with
  | none => exact ⟨⟨fun hx => absurd hx (by decide), fun hx => absurd rfl hx⟩, ⟨fun _ => rfl, fun _ => by decide⟩⟩
  | some i =>
    have hi := h i rfl
    refine ⟨⟨fun _ hx => (by cases hx), fun _ => ?_⟩, ⟨fun hx => absurd hx (iN_neg hi), fun hx => (by cases hx)⟩⟩
    show (0 : Int32) ≤ iN i
    rw [iL0, iN_le (by omega) hi]; omega
/-- a clean slot of the block, or one that is found -/
theorem m_claim (K : px_K) (N : Nat) (hN : 2000 ≤ N) (hK : zKm K) (t : px_W) {s : px_S} {v : ZVs} (h : zRv s v) (hm : zMm v) (b : Nat) (hb : b < 106) {α : Type} {Q : α → Prop} {F : Int32 → px_S → px_W → Option α} {g1 g2 : Nat → px_S → px_W → Option α} (hk : ∀ s', zRv s' (v.claim b).2 → zFv s s' → wp (F (oN (v.claim b).1) s' t) Q) : wp (px_bi (f_M_cleanOf_28 K N (iN b) s t) (fun a u w => if 0 ≤ a then F a u w else px_gd (¬ u.1 26 = 0) (px_bi (f_M_find_28 K N (iN b - iN b / u.1 26 * u.1 26) u w) F g2)) g1) Q := by
  have hz := hm.1.1
  have hn64 : v.n ≤ 64 := hz.n64
  refine wp_bi (m_clean K N (by omega) hK t s v h.2 hm.1 b (by omega)) ?_
  unfold ZVs.claim at hk
  cases hc : zClean v.sb v.se b v.n with
  | some i =>
    rw [hc] at hk
    have hi := (zClean_some hc).1
    exact wp_if ((oN_lt (fun j hj => by cases hj; omega)).1.mpr (fun hx => by cases hx)) (hk s h (zFv_refl s))
  | none =>
    rw [hc] at hk
    dsimp only at hk
    refine wp_ifn (by decide) ?_
    have h26 : s.1 26 = iN v.sets := h.2.1
    have s1 := hz.s1
    have s8 := hz.s8
    refine wp_gd (by rw [h26, iL0, iN_eq (by omega) (by omega)]; omega) ?_
    rw [h26, iN_rem (by omega) (by omega) (by omega)]
    obtain ⟨s', a1, a2, a3⟩ := m_find K N (by omega) hK t (b % v.sets) s v h.2 hm.1 (Nat.mod_lt _ hz.s1) (hm.2.2.2 _)
    have hp := (zfr_find (b % v.sets) (2 * v.ways) v).2.1
    refine wp_bi a2 (hk s' ⟨?_, a3⟩ (zFv_fs a1))
    rw [hp]; exact zRw_fs h.1 a1
/-- the loop ends: it has a slot, or the power is gone -/
def zEnds (r : Option Nat × ZVs) : Prop := r.1 ≠ none ∨ r.2.p.up = false
theorem zMm_take {v : ZVs} (h : zMm v) {i b : Nat} (hi : i < v.n) (he : v.se i = 0) (hb : b < 106) : zMm (ZVs.mk v.p v.sets v.ways v.eps v.wf (zu v.sb i (b + 1)) (zu v.se i v.opn) (zu v.mrk i true) v.hd v.opn v.half v.gen v.plc) := by
  have hn64 : v.n ≤ 64 := h.1.1.n64
  refine ⟨⟨h.1.1, fun q hq => ?_, h.1.2.2⟩, fun q hq h0 => ?_, fun e e0 e1 => ⟨fun x y hx hy x1 x2 x3 => ?_, ?_⟩, h.2.2.2⟩
  · show zu v.sb i (b + 1) q < 2147483648 ∧ zu v.se i v.opn q < 2147483648
    by_cases hqi : q = i
    · rw [hqi, zu_self, zu_self]; exact ⟨by omega, h.1.2.2⟩
    · rw [zu_ne _ _ hqi, zu_ne _ _ hqi]; exact h.1.2.1 q hq
  · show 1 ≤ zu v.sb i (b + 1) q ∧ zu v.sb i (b + 1) q ≤ 106
    have h0 : 0 < zu v.se i v.opn q := h0
    by_cases hqi : q = i
    · rw [hqi, zu_self]; omega
    · rw [zu_ne _ _ hqi] at h0 ⊢; exact h.2.1 q hq h0
  · have x1 : zu v.se i v.opn x = e := x1
    have x2 : zu v.se i v.opn y = e := x2
    have x3 : zu v.sb i (b + 1) x = zu v.sb i (b + 1) y := x3
    have e1 : e < v.opn := e1
    have hxi : x ≠ i := fun hx => by rw [hx, zu_self] at x1; omega
    have hyi : y ≠ i := fun hx => by rw [hx, zu_self] at x2; omega
    rw [zu_ne _ _ hxi] at x1 x3
    rw [zu_ne _ _ hyi] at x2 x3
    exact (h.2.2.1 e e0 e1).1 x y hx hy x1 x2 x3
  · have e1 : e < v.opn := e1
    show (zDl (zu v.se i v.opn) e v.n).length ≤ 16
    refine Nat.le_trans (zDl_sub (fun q hq hx => ?_)) (h.2.2.1 e e0 e1).2
    by_cases hqi : q = i
    · rw [hqi, zu_self] at hx; omega
    · rw [zu_ne _ _ hqi] at hx; exact hx
theorem zRs_take {s : px_S} {v : ZVs} (h : zRs s v) (i b : Nat) : zRs (sA (sA (sA s 35 i (iN b)) 36 i (iN v.opn)) 37 i (1 : Int32)) (ZVs.mk v.p v.sets v.ways v.eps v.wf (zu v.sb i (b + 1)) (zu v.se i v.opn) (zu v.mrk i true) v.hd v.opn v.half v.gen v.plc) :=
  zRs_mrk (m := true) (zRs_se (a := v.opn) (zRs_sb (a := b + 1) h (by rw [iN_pred (by omega)]; rfl))) rfl
theorem zjb_first {P : Nat → ZSt → Prop} (hP : ∀ m m' V, m ≤ m' → P m V → P m' V) {v : ZVs} (h : ZRf P v) (hc : P (v.p.na + 1) v.cur) {b : Nat} (hn : v.p.na + 10000 < 2147483648) (hnb : ∀ s, s < v.n → v.sb s = b + 1 → v.se s ≠ v.opn) : ZOk P (fun u => ZJb P b v.cur u) (if v.dirty v.opn = 16 then v.close else v) := by
  split
  · rename_i hd
    refine (h.close hP hc (by omega)).imp (fun _ q => ?_)
    obtain ⟨q1, q2, q3, q4, q5, q6, q7⟩ := q
    refine ⟨q1, fun s hs hx hy => ?_, by rw [q3]; omega, q2⟩
    have hm : s ∈ zDl v.close.se v.close.opn v.close.n := mem_zDl.mpr ⟨hs, hy⟩
    have hx : (zDl v.close.se v.close.opn v.close.n).length = 0 := q3
    rw [List.length_eq_zero_iff.mp hx] at hm
    cases hm
  · rename_i hd
    have := h.toZRm.t5
    exact Or.inl ⟨h.toZRm.up, h, hnb, by omega, rfl⟩
/-- the claiming ends within twelve rounds -/
theorem zwr_ends {P : Nat → ZSt → Prop} (hP : ∀ m m' V, m ≤ m' → P m V → P m' V) {v : ZVs} (ha : zAl P v) {b : Nat} (hn : v.p.na + 10000 < 2147483648) (hnb : v.p.up = true → ∀ s, s < v.n → v.sb s = b + 1 → v.se s ≠ v.opn) : zEnds (ZVs.claimLoop b 12 ((if v.dirty v.opn = 16 then v.close else v).claim b)) := by
  have down : ∀ v1 : ZVs, v1.p.up = false → zEnds (ZVs.claimLoop b 12 (v1.claim b)) := by
    intro v1 h1
    obtain ⟨o, u, hr⟩ : ∃ o u, v1.claim b = (o, u) := ⟨_, _, rfl⟩
    have hp := (zfr_claim v1 b).2.1
    rw [hr] at hp ⊢
    have hp : u.p = v1.p := hp
    cases o with
    | some i => exact Or.inl (fun hx => by cases hx)
    | none =>
      right
      unfold ZVs.claimLoop
      rw [if_pos (by rw [hp]; exact h1)]
      rw [hp]; exact h1
  rcases ha with ⟨h1, h2, h3⟩ | ha
  · have hj := zjb_first hP h2 h3 hn (hnb h1)
    have hz1 : ZFr 435 v (if v.dirty v.opn = 16 then v.close else v) := by
      split
      · exact zfr_close v h2.toZRm.sz
      · exact (ZFr.refl v).mono (by omega)
    have key : ∀ v1 : ZVs, ZFr 435 v v1 → ZOk P (fun u => ZJb P b v.cur u) v1 → zEnds (ZVs.claimLoop b 12 (v1.claim b)) := by
      intro v1 hz1 hj
      have n1 := hz1.n1
      have n2 := hz1.n2
      rcases hj with ⟨hup, q⟩ | hj
      · obtain ⟨c1, c2, c3⟩ := q.claim hP
        have zc := zfr_claim v1 b
        have s2 := c1.loop hP (o := (v1.claim b).1) (hP _ _ _ (by rw [zc.2.1]; omega) h3) c2 (fun hx => by rw [zc.1.w, zc.1.s, zc.2.2.2.2.2.2]; exact c3 hx) (by rw [zc.2.1]; omega)
        rcases s2 with ⟨_, _, i, r2, _⟩ | s2
        · left; intro hx
          have r2 : (ZVs.claimLoop b 12 (v1.claim b)).1 = some i := r2
          rw [hx] at r2; cases r2
        · right; exact s2.up
      · exact down v1 hj.up
    exact key _ hz1 hj
  · have hz1 : ZFr 435 v (if v.dirty v.opn = 16 then v.close else v) := by
      split
      · exact zfr_close v ha.sz
      · exact (ZFr.refl v).mono (by omega)
    exact down _ (hz1.down ha.up)
/-! THE LOOP OF A WRITING: row 40 -/
theorem m_wloop_40 {P : Nat → ZSt → Prop} (hP : ∀ m m' V, m ≤ m' → P m V → P m' V) (K : px_K) (N : Nat) (hN : 2000 ≤ N) (hK : zKm K) (t : px_W) (b : Nat) (hb : b < 106) (u3 : Int32) : ∀ (k n : Nat) (s : px_S) (o : Option Nat) (v : ZVs), zRv s v → zMm v → zAl P v → (∀ i, o = some i → i < v.n ∧ v.se i = 0) → v.p.na + 600 * k + 1000 < 2147483648 → k < n → zEnds (ZVs.claimLoop b k (o, v)) → wp (l_M_writeVolume_28_40_48 K N n (iN b) u3 (oN o) s t) (zC 81 [oN (ZVs.claimLoop b k (o, v)).1] t (fun s' => zRv s' (ZVs.claimLoop b k (o, v)).2 ∧ zMm (ZVs.claimLoop b k (o, v)).2 ∧ zFv s s' ∧ ∀ i, (ZVs.claimLoop b k (o, v)).1 = some i → i < (ZVs.claimLoop b k (o, v)).2.n ∧ (ZVs.claimLoop b k (o, v)).2.se i = 0)) := by
  intro k
  induction k with
  | zero =>
    intro n s o v h hm ha ho hn hk he
    obtain ⟨n, rfl⟩ : ∃ n', n = n' + 1 := ⟨n - 1, by omega⟩
    have hn64 : v.n ≤ 64 := hm.1.1.n64
    have hoo := oN_lt (o := o) (fun i hi => by have := (ho i hi).1; omega)
    have e0 : ZVs.claimLoop b 0 (o, v) = (o, v) := rfl
    rw [e0] at he ⊢
    unfold l_M_writeVolume_28_40_48
    rcases he with he | he
    · exact wp_if (hoo.1.mpr he) (wp_rC ⟨h, hm, zFv_refl s, ho⟩)
    · by_cases hx : o = none
      · exact wp_ifn (fun hy => hoo.1.mp hy hx) (wp_if ((zRw_up h.1).mpr he) (wp_rC ⟨h, hm, zFv_refl s, ho⟩))
      · exact wp_if (hoo.1.mpr hx) (wp_rC ⟨h, hm, zFv_refl s, ho⟩)
  | succ k ih =>
    intro n s o v h hm ha ho hn hk he
    obtain ⟨n, rfl⟩ : ∃ n', n = n' + 1 := ⟨n - 1, by omega⟩
    have hn64 : v.n ≤ 64 := hm.1.1.n64
    have hoo := oN_lt (o := o) (fun i hi => by have := (ho i hi).1; omega)
    unfold l_M_writeVolume_28_40_48
    cases o with
    | some i =>
      have e0 : ZVs.claimLoop b (k + 1) (some i, v) = (some i, v) := rfl
      rw [e0]
      exact wp_if (hoo.1.mpr (fun hx => by cases hx)) (wp_rC ⟨h, hm, zFv_refl s, ho⟩)
    | none =>
      refine wp_ifn (by decide) ?_
      cases hu : v.p.up with
      | false =>
        have e0 : ZVs.claimLoop b (k + 1) (none, v) = (none, v) := by unfold ZVs.claimLoop; rw [if_pos hu]
        rw [e0]
        exact wp_if ((zRw_up h.1).mpr hu) (wp_rC ⟨h, hm, zFv_refl s, ho⟩)
      | true =>
        have e0 : ZVs.claimLoop b (k + 1) (none, v) = ZVs.claimLoop b k ((@ite _ (v.hasClosed (b % v.sets)) (Classical.propDecidable _) v v.close).land1.2.claim b) := by
          have : ZVs.claimLoop b (k + 1) (none, v) = (if v.p.up = false then (none, v) else ZVs.claimLoop b k ((@ite _ (v.hasClosed (b % v.sets)) (Classical.propDecidable _) v v.close).land1.2.claim b)) := rfl
          rw [this, if_neg (by rw [hu]; exact Bool.noConfusion)]
        rw [e0] at he ⊢
        have hup : ¬ s.1 29 = 0 := fun hx => by have := (zRw_up h.1).mp hx; rw [hu] at this; cases this
        have hz := hm.1.1
        have s1 := hz.s1
        have s8 := hz.s8
        have h26 : s.1 26 = iN v.sets := h.2.1
        refine wp_ifn hup (wp_gd (by rw [h26, iL0, iN_eq (by omega) (by omega)]; omega) ?_)
        rw [h26, iN_rem (by omega) (by omega) (by omega)]
        obtain ⟨g, g1, g2⟩ := m_hasClosed K N (by omega) hK t s v h.2 hm.1 (b % v.sets) (Nat.mod_lt _ hz.s1)
        refine wp_bi g2 ?_
        -- landing, claiming, and on
        have go : ∀ (s1 : px_S) (x : ZVs), zRv s1 x → zMm x → zAl P x → zFv s s1 → x.p.na ≤ v.p.na + 435 → zEnds (ZVs.claimLoop b k (x.land1.2.claim b)) → ∃ s2, f_M_land1_28 K N s1 t = some (.inl (some (.int (iN x.land1.1))), s2, t) ∧ zRv s2 x.land1.2 ∧ zMm x.land1.2 ∧ ∀ s3, zRv s3 (x.land1.2.claim b).2 → zFv s2 s3 → wp (l_M_writeVolume_28_40_48 K N n (iN b) u3 (oN (x.land1.2.claim b).1) s3 t) (zC 81 [oN (ZVs.claimLoop b k (x.land1.2.claim b)).1] t (fun s' => zRv s' (ZVs.claimLoop b k (x.land1.2.claim b)).2 ∧ zMm (ZVs.claimLoop b k (x.land1.2.claim b)).2 ∧ zFv s s' ∧ ∀ i, (ZVs.claimLoop b k (x.land1.2.claim b)).1 = some i → i < (ZVs.claimLoop b k (x.land1.2.claim b)).2.n ∧ (ZVs.claimLoop b k (x.land1.2.claim b)).2.se i = 0)) := by
          intro s1 x hx hmx hax hfx hnx hex
          obtain ⟨L1, L2, L3⟩ := zAl_L hax (by omega)
          obtain ⟨s2, b1, b2, b3⟩ := m_land1 K N hN hK t s1 x hx hmx.1 L1 L2 (fun hy => hmx.ep (by omega) hy)
          have hm2 := zMm_land1 hmx
          have ha2 := zAl_land1 hP hax (by omega)
          have hf2 := (zfr_land1 x hmx.1.1).1
          have hn2 := hf2.n2
          obtain ⟨y, hy⟩ : ∃ y, y = x.land1.2 := ⟨_, rfl⟩
          rw [← hy] at b2 hm2 ha2 hf2 hn2 hex ⊢
          refine ⟨s2, b1, b2, hm2, fun s3 h3 hf3 => ?_⟩
          obtain ⟨c1, c2⟩ := zMm_claim hm2 b
          have ha3 := zAl_claim hP ha2 b
          obtain ⟨z1, z2, z3, z4, z5, z6, z7⟩ := zfr_claim y b
          have hzn : (y.claim b).2.n = y.n := by show (y.claim b).2.sets * (y.claim b).2.ways = _; rw [z1.s, z1.w]
          refine wp_imp (ih n s3 (y.claim b).1 (y.claim b).2 h3 c1 ha3 (fun i hi => by rw [hzn, z7]; exact c2 i hi) (by rw [z2]; omega) (by omega) hex) ?_
          rintro r ⟨s', r1, r2, r3, r4, r5⟩
          exact ⟨s', r1, r2, r3, zFv_trans hfx (zFv_trans b3 (zFv_trans hf3 r4)), r5⟩
        by_cases hcl : v.hasClosed (b % v.sets)
        · rw [if_pos hcl] at he ⊢
          refine wp_if (by rw [g1.mpr hcl]; decide) ?_
          obtain ⟨s2, b1, b2, b3, b4⟩ := go s v h hm ha (zFv_refl s) (by omega) he
          refine wp_bi b1 ?_
          exact m_claim K N hN hK t b2 b3 b hb b4
        · rw [if_neg hcl] at he ⊢
          refine wp_ifn (by cases g with
            | false => exact fun hx => hx rfl
            | true => exact absurd (g1.mp rfl) hcl) ?_
          obtain ⟨s1', c1, c2, c3, c4⟩ := m_close hP K N hN hK t s v h hm ha (by omega)
          have hfc := (zfr_close v hz).n2
          obtain ⟨s2, b1, b2, b3, b4⟩ := go s1' v.close c2 c3 (zAl_close hP ha (by omega)) c4 hfc he
          refine wp_bv c1 (wp_bi b1 ?_)
          exact m_claim K N hN hK t b2 b3 b hb b4
theorem m_wrNew_40 {P : Nat → ZSt → Prop} (hP : ∀ m m' V, m ≤ m' → P m V → P m' V) (K : px_K) (N : Nat) (hN : 2000 ≤ N) (hK : zKm K) (t : px_W) (b fi : Nat) (x : ZBk) (hb : b < 106) (hfi : fi + 16 ≤ K.2.2 40) (hX : K.2.2 40 ≤ 1696) (s : px_S) (v : ZVs) (h : zRv s v) (hm : zMm v) (ha : zAl P v) (hn : v.p.na + 10000 < 2147483648) (hnb : v.p.up = true → ∀ q, q < v.n → v.sb q = b + 1 → v.se q ≠ v.opn) (hx : ∀ w, w < 16 → s.2.2.1 40 (fi + w) = x w) {Q : px_Res → Prop} (hQ : ∀ s', zRv s' (ZVs.wrNew v b x) → zMm (ZVs.wrNew v b x) → zFv s s' → Q (.inl none, s', t)) {F : px_S → px_W → Int32 → Option px_Res} {g0 g1 g2 g3 : Nat → px_S → px_W → Option px_Res} (hF : ∀ u w a, F u w a = (px_lp (l_M_writeVolume_28_40_48 K N N (iN b) (iN fi) a u w) (fun i20 vs21 s22 t23 => (if i20 = 81 then (px_v1 vs21 (fun y26 => (if 0 ≤ y26 then (px_gd (vp_in y26 (K.2.2 35)) (px_let (sA s22 35 y26.toNatClampNeg (iN b)) (fun s30 => (px_gd (vp_in y26 (K.2.2 36)) (px_let (sA s30 36 y26.toNatClampNeg (s30.1 32)) (fun s33 => (px_gd (vp_in y26 (K.2.2 37)) (px_let (sA s33 37 y26.toNatClampNeg (1 : Int32)) (fun s36 => (px_bv (f_M_write_28_40 K N (1 : Int32) ((50 : Int32) + y26) (iN fi) s36 t23) (fun s38 t39 => (some (.inl none, s38, t39))) (fun x42 s38 t39 => none))))))))))) else (some (.inl none, s22, t23))))) else none)) (fun z25 => some z25))) : wp (px_bi (f_M_dirtyOf_28 K N (s.1 32) s t) (fun a u w => if ¬ a = (16 : Int32) then (px_bi (f_M_cleanOf_28 K N (iN b) u w) (fun a u w => if 0 ≤ a then F u w a else px_gd (¬ u.1 26 = 0) (px_bi (f_M_find_28 K N (iN b - iN b / u.1 26 * u.1 26) u w) (fun a u w => F u w a) g2)) g1) else (px_bv (f_M_close_28 K N u w) (fun u w => px_bi (f_M_cleanOf_28 K N (iN b) u w) (fun a u w => if 0 ≤ a then F u w a else px_gd (¬ u.1 26 = 0) (px_bi (f_M_find_28 K N (iN b - iN b / u.1 26 * u.1 26) u w) (fun a u w => F u w a) g2)) g1) g3)) g0) Q := by
  have hz := hm.1.1
  have hn64 : v.n ≤ 64 := hz.n64
  have hends := zwr_ends hP ha hn hnb
  have hc435 : (if v.dirty v.opn = 16 then v.close else v).p.na ≤ v.p.na + 435 := by
    split
    · exact (zfr_close v hz).n2
    · omega
  -- once there is room in the open epoch
  have go : ∀ (s1 : px_S) (v1 : ZVs), zRv s1 v1 → zMm v1 → zAl P v1 → zFv s s1 → (v1.p.na ≤ v.p.na + 435) → zEnds (ZVs.claimLoop b 12 (v1.claim b)) → ZVs.wrNew v b x = (match ZVs.claimLoop b 12 (v1.claim b) with
      | (none, u) => u
      | (some q, u) => ((ZVs.mk (ZVs.p u) (ZVs.sets u) (ZVs.ways u) (ZVs.eps u) (ZVs.wf u) (zu u.sb q (b + 1)) (zu u.se q u.opn) (zu u.mrk q true) (ZVs.hd u) (ZVs.opn u) (ZVs.half u) (ZVs.gen u) (ZVs.plc u)) : ZVs).wr 1 (50 + q) x) → wp (px_bi (f_M_cleanOf_28 K N (iN b) s1 t) (fun a u w => if 0 ≤ a then F u w a else px_gd (¬ u.1 26 = 0) (px_bi (f_M_find_28 K N (iN b - iN b / u.1 26 * u.1 26) u w) (fun a u w => F u w a) g2)) g1) Q := by
    intro s1 v1 h1 hm1 ha1 hf1 hn1 he1 hsp
    refine m_claim (F := fun a u w => F u w a) K N hN hK t h1 hm1 b hb (fun s2 h2 hf2 => ?_)
    show wp (F s2 t _) Q
    rw [hF]
    obtain ⟨c1, c2⟩ := zMm_claim hm1 b
    have ha2 := zAl_claim hP ha1 b
    obtain ⟨z1, z2, z3, z4, z5, z6, z7⟩ := zfr_claim v1 b
    have hzn : (v1.claim b).2.n = v1.n := by show (v1.claim b).2.sets * (v1.claim b).2.ways = _; rw [z1.s, z1.w]
    obtain ⟨s3, d1, d2, d3, d4, d5⟩ := wp_C (m_wloop_40 hP K N hN hK t b hb (iN fi) 12 N s2 (v1.claim b).1 (v1.claim b).2 h2 c1 ha2 (fun i hi => by rw [hzn, z7]; exact c2 i hi) (by rw [z2]; omega) (by omega) he1)
    refine wp_lp d1 (wp_if rfl ?_)
    show wp (ite _ _ _) _
    have hr : ((v1.claim b).1, (v1.claim b).2) = v1.claim b := rfl
    rw [hr] at d2 d3 d5 ⊢
    obtain ⟨o, u, hou⟩ : ∃ o u, ZVs.claimLoop b 12 (v1.claim b) = (o, u) := ⟨_, _, rfl⟩
    rw [hou] at d2 d3 d5 hsp ⊢
    dsimp only at d2 d3 d5 hsp ⊢
    have hfs : zFv s s3 := zFv_trans hf1 (zFv_trans hf2 d4)
    have hu64 : u.n ≤ 64 := d3.1.1.n64
    cases o with
    | none =>
      dsimp only at hsp
      rw [hsp] at hQ
      exact wp_ifn (by decide) (wp_some (hQ s3 d2 d3 hfs))
    | some q =>
      dsimp only at hsp
      obtain ⟨q1, q2⟩ := d5 q rfl
      have hoq : oN (some q) = iN q := rfl
      rw [hoq]
      have i50 : (50 : Int32) + iN q = iN (50 + q) := by have : (50 : Int32) = iN 50 := rfl
                                                         rw [this, iN_add]
      rw [i50, iN_nat (by omega)]
      refine wp_if (by rw [iL0, iN_le (by omega) (by omega)]; omega) (wp_gd (by rw [hK.2.2.2.2.2.2.1]; exact iN_in (by omega) (by omega)) (wp_let (wp_gd (by rw [hK.2.2.2.2.2.2.2.1]; exact iN_in (by omega) (by omega)) ?_)))
      have e32 : (sA s3 35 q (iN b)).1 32 = iN u.opn := d2.2.2.2.2.2.1
      rw [e32]
      refine wp_let (wp_gd (by rw [hK.2.2.2.2.2.2.2.2.1]; exact iN_in (by omega) (by omega)) (wp_let ?_))
      have hR : zRv (sA (sA (sA s3 35 q (iN b)) 36 q (iN u.opn)) 37 q (1 : Int32)) (ZVs.mk u.p u.sets u.ways u.eps u.wf (zu u.sb q (b + 1)) (zu u.se q u.opn) (zu u.mrk q true) u.hd u.opn u.half u.gen u.plc) := ⟨zRw_row (zRw_row (zRw_row d2.1 (by omega)) (by omega)) (by omega), zRs_take d2.2 q b⟩
      have hfX : zFv s (sA (sA (sA s3 35 q (iN b)) 36 q (iN u.opn)) 37 q (1 : Int32)) := zFv_trans hfs (zFv_trans (zFv_trans (zFv_sA (by omega)) (zFv_sA (by omega))) (zFv_sA (by omega)))
      obtain ⟨s4, e1, e2, e3⟩ := m_write_40 K N hN hK t _ _ hR.1 1 (50 + q) fi x (by omega) (by show 50 + q < 114; omega) hfi hX (fun w hw => by rw [hfX.1 40 (by omega)]; exact hx w hw)
      refine wp_bv e1 (wp_some ?_)
      rw [hsp] at hQ
      refine hQ s4 ⟨e2, zRs_fm hR.2 e3 _⟩ ?_ (zFv_trans hfX (zFv_fm e3))
      exact zMm_sm (zMm_take d3 q1 q2 hb) rfl rfl rfl rfl rfl rfl rfl
  rw [h.2.2.2.2.2.1]
  refine wp_bi (m_dirty K N (by omega) hK t s v h.2 hm.1 v.opn hm.1.2.2) ?_
  have hdl : v.dirty v.opn ≤ 64 := Nat.le_trans (zDl_len _ _ _) hn64
  by_cases hd : v.dirty v.opn = 16
  · rw [if_pos hd] at hends hc435
    refine wp_ifn (by rw [hd]; exact fun hx => hx rfl) ?_
    obtain ⟨s1, c1, c2, c3, c4⟩ := m_close hP K N hN hK t s v h hm ha (by omega)
    refine wp_bv c1 ?_
    exact go s1 v.close c2 c3 (zAl_close hP ha (by omega)) c4 hc435 hends (by unfold ZVs.wrNew; rw [if_pos hd]; rfl)
  · rw [if_neg hd] at hends hc435
    refine wp_if (by rw [iL16, iN_eq (by omega) (by omega)]; exact hd) ?_
    exact go s v h hm ha (zFv_refl s) (by omega) hends (by unfold ZVs.wrNew; rw [if_neg hd]; rfl)
/-- a block is written to the volume -/
theorem m_wrv_40 {P : Nat → ZSt → Prop} (hP : ∀ m m' V, m ≤ m' → P m V → P m' V) (K : px_K) (N : Nat) (hN : 2000 ≤ N) (hK : zKm K) (t : px_W) (b fi : Nat) (x : ZBk) (hb : b < 106) (hfi : fi + 16 ≤ K.2.2 40) (hX : K.2.2 40 ≤ 1696) (s : px_S) (v : ZVs) (h : zRv s v) (hm : zMm v) (ha : v.wf = true → zAl P v) (hn : v.p.na + 10000 < 2147483648) (hx : ∀ w, w < 16 → s.2.2.1 40 (fi + w) = x w) : ∃ s', f_M_writeVolume_28_40 K N (iN b) (iN fi) s t = some (.inl none, s', t) ∧ zRv s' (v.wrv b x) ∧ zMm (v.wrv b x) ∧ zFv s s' := by
  apply wp_B
  have hz := hm.1.1
  have hn64 : v.n ≤ 64 := hz.n64
  unfold f_M_writeVolume_28_40
  cases hw : v.wf with
  | false =>
    have e : v.wrv b x = v.wr 0 (19 + b) x := by unfold ZVs.wrv; rw [if_pos hw]
    rw [e]
    have i19 : (19 : Int32) + iN b = iN (19 + b) := by have : (19 : Int32) = iN 19 := rfl
                                                       rw [this, iN_add]
    rw [i19]
    refine wp_ifn (by rw [h.2.2.2.2.1, hw]; exact fun hx => hx rfl) ?_
    obtain ⟨s4, e1, e2, e3⟩ := m_write_40 K N hN hK t s v.p h.1 0 (19 + b) fi x (by omega) (by show 19 + b < 125; omega) hfi hX hx
    exact wp_bv e1 (wp_rB ⟨⟨e2, zRs_fm h.2 e3 _⟩, zMm_sm hm rfl rfl rfl rfl rfl rfl rfl, zFv_fm e3⟩)
  | true =>
    have ha := ha hw
    have e : v.wrv b x = (match v.newest b with
      | some q => if v.se q = v.opn then v.wr 1 (50 + q) x else ZVs.wrNew v b x
      | none => ZVs.wrNew v b x) := by unfold ZVs.wrv; rw [if_neg (by rw [hw]; exact Bool.noConfusion)]; rfl
    rw [e]
    refine wp_if (by rw [h.2.2.2.2.1, hw]; decide) ?_
    refine wp_bi (m_newest K N (by omega) hK t s v h.2 hm.1 b (by omega)) ?_
    cases hnw : v.newest b with
    | none =>
      refine wp_if (by decide) ?_
      refine m_wrNew_40 hP K N hN hK t b fi x hb hfi hX s v h hm ha hn (fun _ q hq hx => absurd hx (zNew_none.mp hnw q hq)) hx (fun s' h1 h2 h3 => ⟨s', rfl, h1, h2, h3⟩) (fun u w a => rfl)
    | some q =>
      obtain ⟨q1, q2, q3⟩ := zNew_some hnw
      have hq64 : q < 64 := by have : q < v.n := q1; omega
      have hoq : oN (some q) = iN q := rfl
      rw [hoq]
      have i50 : (50 : Int32) + iN q = iN (50 + q) := by have : (50 : Int32) = iN 50 := rfl
                                                         rw [this, iN_add]
      rw [i50, iN_nat (by omega)]
      refine wp_ifn (iN_neg (by omega)) (wp_gd (by rw [hK.2.2.2.2.2.2.2.1]; exact iN_in (by omega) (by omega)) ?_)
      rw [(h.2.2.2.2.2.2.2.2.2.1 q hq64).2.1, h.2.2.2.2.2.1]
      dsimp only
      by_cases hse : v.se q = v.opn
      · rw [if_pos hse]
        refine wp_if ((iN_eq (hm.1.2.1 q hq64).2 hm.1.2.2).mpr hse) ?_
        obtain ⟨s4, e1, e2, e3⟩ := m_write_40 K N hN hK t s v.p h.1 1 (50 + q) fi x (by omega) (by show 50 + q < 114; omega) hfi hX hx
        exact wp_bv e1 (wp_rB ⟨⟨e2, zRs_fm h.2 e3 _⟩, zMm_sm hm rfl rfl rfl rfl rfl rfl rfl, zFv_fm e3⟩)
      · rw [if_neg hse]
        refine wp_ifn (fun hx => hse ((iN_eq (hm.1.2.1 q hq64).2 hm.1.2.2).mp hx)) ?_
        rw [← h.2.2.2.2.2.1]
        refine m_wrNew_40 hP K N hN hK t b fi x hb hfi hX s v h hm ha hn (fun hup p hp hx hy => ?_) hx (fun s' h1 h2 h3 => ⟨s', rfl, h1, h2, h3⟩) (fun u w a => rfl)
        · rcases ha with ⟨_, a2, _⟩ | ha
          · have := q3 p hp hx
            have := a2.toZRm.t1 q q1
            omega
          · rw [ha.up] at hup; cases hup
/-! THE LOOP OF A WRITING: row 44 -/
theorem m_wloop_44 {P : Nat → ZSt → Prop} (hP : ∀ m m' V, m ≤ m' → P m V → P m' V) (K : px_K) (N : Nat) (hN : 2000 ≤ N) (hK : zKm K) (t : px_W) (b : Nat) (hb : b < 106) (u3 : Int32) : ∀ (k n : Nat) (s : px_S) (o : Option Nat) (v : ZVs), zRv s v → zMm v → zAl P v → (∀ i, o = some i → i < v.n ∧ v.se i = 0) → v.p.na + 600 * k + 1000 < 2147483648 → k < n → zEnds (ZVs.claimLoop b k (o, v)) → wp (l_M_writeVolume_28_44_48 K N n (iN b) u3 (oN o) s t) (zC 81 [oN (ZVs.claimLoop b k (o, v)).1] t (fun s' => zRv s' (ZVs.claimLoop b k (o, v)).2 ∧ zMm (ZVs.claimLoop b k (o, v)).2 ∧ zFv s s' ∧ ∀ i, (ZVs.claimLoop b k (o, v)).1 = some i → i < (ZVs.claimLoop b k (o, v)).2.n ∧ (ZVs.claimLoop b k (o, v)).2.se i = 0)) := by
  intro k
  induction k with
  | zero =>
    intro n s o v h hm ha ho hn hk he
    obtain ⟨n, rfl⟩ : ∃ n', n = n' + 1 := ⟨n - 1, by omega⟩
    have hn64 : v.n ≤ 64 := hm.1.1.n64
    have hoo := oN_lt (o := o) (fun i hi => by have := (ho i hi).1; omega)
    have e0 : ZVs.claimLoop b 0 (o, v) = (o, v) := rfl
    rw [e0] at he ⊢
    unfold l_M_writeVolume_28_44_48
    rcases he with he | he
    · exact wp_if (hoo.1.mpr he) (wp_rC ⟨h, hm, zFv_refl s, ho⟩)
    · by_cases hx : o = none
      · exact wp_ifn (fun hy => hoo.1.mp hy hx) (wp_if ((zRw_up h.1).mpr he) (wp_rC ⟨h, hm, zFv_refl s, ho⟩))
      · exact wp_if (hoo.1.mpr hx) (wp_rC ⟨h, hm, zFv_refl s, ho⟩)
  | succ k ih =>
    intro n s o v h hm ha ho hn hk he
    obtain ⟨n, rfl⟩ : ∃ n', n = n' + 1 := ⟨n - 1, by omega⟩
    have hn64 : v.n ≤ 64 := hm.1.1.n64
    have hoo := oN_lt (o := o) (fun i hi => by have := (ho i hi).1; omega)
    unfold l_M_writeVolume_28_44_48
    cases o with
    | some i =>
      have e0 : ZVs.claimLoop b (k + 1) (some i, v) = (some i, v) := rfl
      rw [e0]
      exact wp_if (hoo.1.mpr (fun hx => by cases hx)) (wp_rC ⟨h, hm, zFv_refl s, ho⟩)
    | none =>
      refine wp_ifn (by decide) ?_
      cases hu : v.p.up with
      | false =>
        have e0 : ZVs.claimLoop b (k + 1) (none, v) = (none, v) := by unfold ZVs.claimLoop; rw [if_pos hu]
        rw [e0]
        exact wp_if ((zRw_up h.1).mpr hu) (wp_rC ⟨h, hm, zFv_refl s, ho⟩)
      | true =>
        have e0 : ZVs.claimLoop b (k + 1) (none, v) = ZVs.claimLoop b k ((@ite _ (v.hasClosed (b % v.sets)) (Classical.propDecidable _) v v.close).land1.2.claim b) := by
          have : ZVs.claimLoop b (k + 1) (none, v) = (if v.p.up = false then (none, v) else ZVs.claimLoop b k ((@ite _ (v.hasClosed (b % v.sets)) (Classical.propDecidable _) v v.close).land1.2.claim b)) := rfl
          rw [this, if_neg (by rw [hu]; exact Bool.noConfusion)]
        rw [e0] at he ⊢
        have hup : ¬ s.1 29 = 0 := fun hx => by have := (zRw_up h.1).mp hx; rw [hu] at this; cases this
        have hz := hm.1.1
        have s1 := hz.s1
        have s8 := hz.s8
        have h26 : s.1 26 = iN v.sets := h.2.1
        refine wp_ifn hup (wp_gd (by rw [h26, iL0, iN_eq (by omega) (by omega)]; omega) ?_)
        rw [h26, iN_rem (by omega) (by omega) (by omega)]
        obtain ⟨g, g1, g2⟩ := m_hasClosed K N (by omega) hK t s v h.2 hm.1 (b % v.sets) (Nat.mod_lt _ hz.s1)
        refine wp_bi g2 ?_
        -- landing, claiming, and on
        have go : ∀ (s1 : px_S) (x : ZVs), zRv s1 x → zMm x → zAl P x → zFv s s1 → x.p.na ≤ v.p.na + 435 → zEnds (ZVs.claimLoop b k (x.land1.2.claim b)) → ∃ s2, f_M_land1_28 K N s1 t = some (.inl (some (.int (iN x.land1.1))), s2, t) ∧ zRv s2 x.land1.2 ∧ zMm x.land1.2 ∧ ∀ s3, zRv s3 (x.land1.2.claim b).2 → zFv s2 s3 → wp (l_M_writeVolume_28_44_48 K N n (iN b) u3 (oN (x.land1.2.claim b).1) s3 t) (zC 81 [oN (ZVs.claimLoop b k (x.land1.2.claim b)).1] t (fun s' => zRv s' (ZVs.claimLoop b k (x.land1.2.claim b)).2 ∧ zMm (ZVs.claimLoop b k (x.land1.2.claim b)).2 ∧ zFv s s' ∧ ∀ i, (ZVs.claimLoop b k (x.land1.2.claim b)).1 = some i → i < (ZVs.claimLoop b k (x.land1.2.claim b)).2.n ∧ (ZVs.claimLoop b k (x.land1.2.claim b)).2.se i = 0)) := by
          intro s1 x hx hmx hax hfx hnx hex
          obtain ⟨L1, L2, L3⟩ := zAl_L hax (by omega)
          obtain ⟨s2, b1, b2, b3⟩ := m_land1 K N hN hK t s1 x hx hmx.1 L1 L2 (fun hy => hmx.ep (by omega) hy)
          have hm2 := zMm_land1 hmx
          have ha2 := zAl_land1 hP hax (by omega)
          have hf2 := (zfr_land1 x hmx.1.1).1
          have hn2 := hf2.n2
          obtain ⟨y, hy⟩ : ∃ y, y = x.land1.2 := ⟨_, rfl⟩
          rw [← hy] at b2 hm2 ha2 hf2 hn2 hex ⊢
          refine ⟨s2, b1, b2, hm2, fun s3 h3 hf3 => ?_⟩
          obtain ⟨c1, c2⟩ := zMm_claim hm2 b
          have ha3 := zAl_claim hP ha2 b
          obtain ⟨z1, z2, z3, z4, z5, z6, z7⟩ := zfr_claim y b
          have hzn : (y.claim b).2.n = y.n := by show (y.claim b).2.sets * (y.claim b).2.ways = _; rw [z1.s, z1.w]
          refine wp_imp (ih n s3 (y.claim b).1 (y.claim b).2 h3 c1 ha3 (fun i hi => by rw [hzn, z7]; exact c2 i hi) (by rw [z2]; omega) (by omega) hex) ?_
          rintro r ⟨s', r1, r2, r3, r4, r5⟩
          exact ⟨s', r1, r2, r3, zFv_trans hfx (zFv_trans b3 (zFv_trans hf3 r4)), r5⟩
        by_cases hcl : v.hasClosed (b % v.sets)
        · rw [if_pos hcl] at he ⊢
          refine wp_if (by rw [g1.mpr hcl]; decide) ?_
          obtain ⟨s2, b1, b2, b3, b4⟩ := go s v h hm ha (zFv_refl s) (by omega) he
          refine wp_bi b1 ?_
          exact m_claim K N hN hK t b2 b3 b hb b4
        · rw [if_neg hcl] at he ⊢
          refine wp_ifn (by cases g with
            | false => exact fun hx => hx rfl
            | true => exact absurd (g1.mp rfl) hcl) ?_
          obtain ⟨s1', c1, c2, c3, c4⟩ := m_close hP K N hN hK t s v h hm ha (by omega)
          have hfc := (zfr_close v hz).n2
          obtain ⟨s2, b1, b2, b3, b4⟩ := go s1' v.close c2 c3 (zAl_close hP ha (by omega)) c4 hfc he
          refine wp_bv c1 (wp_bi b1 ?_)
          exact m_claim K N hN hK t b2 b3 b hb b4
theorem m_wrNew_44 {P : Nat → ZSt → Prop} (hP : ∀ m m' V, m ≤ m' → P m V → P m' V) (K : px_K) (N : Nat) (hN : 2000 ≤ N) (hK : zKm K) (t : px_W) (b fi : Nat) (x : ZBk) (hb : b < 106) (hfi : fi + 16 ≤ K.2.2 44) (hX : K.2.2 44 ≤ 1696) (s : px_S) (v : ZVs) (h : zRv s v) (hm : zMm v) (ha : zAl P v) (hn : v.p.na + 10000 < 2147483648) (hnb : v.p.up = true → ∀ q, q < v.n → v.sb q = b + 1 → v.se q ≠ v.opn) (hx : ∀ w, w < 16 → s.2.2.1 44 (fi + w) = x w) {Q : px_Res → Prop} (hQ : ∀ s', zRv s' (ZVs.wrNew v b x) → zMm (ZVs.wrNew v b x) → zFv s s' → Q (.inl none, s', t)) {F : px_S → px_W → Int32 → Option px_Res} {g0 g1 g2 g3 : Nat → px_S → px_W → Option px_Res} (hF : ∀ u w a, F u w a = (px_lp (l_M_writeVolume_28_44_48 K N N (iN b) (iN fi) a u w) (fun i20 vs21 s22 t23 => (if i20 = 81 then (px_v1 vs21 (fun y26 => (if 0 ≤ y26 then (px_gd (vp_in y26 (K.2.2 35)) (px_let (sA s22 35 y26.toNatClampNeg (iN b)) (fun s30 => (px_gd (vp_in y26 (K.2.2 36)) (px_let (sA s30 36 y26.toNatClampNeg (s30.1 32)) (fun s33 => (px_gd (vp_in y26 (K.2.2 37)) (px_let (sA s33 37 y26.toNatClampNeg (1 : Int32)) (fun s36 => (px_bv (f_M_write_28_44 K N (1 : Int32) ((50 : Int32) + y26) (iN fi) s36 t23) (fun s38 t39 => (some (.inl none, s38, t39))) (fun x42 s38 t39 => none))))))))))) else (some (.inl none, s22, t23))))) else none)) (fun z25 => some z25))) : wp (px_bi (f_M_dirtyOf_28 K N (s.1 32) s t) (fun a u w => if ¬ a = (16 : Int32) then (px_bi (f_M_cleanOf_28 K N (iN b) u w) (fun a u w => if 0 ≤ a then F u w a else px_gd (¬ u.1 26 = 0) (px_bi (f_M_find_28 K N (iN b - iN b / u.1 26 * u.1 26) u w) (fun a u w => F u w a) g2)) g1) else (px_bv (f_M_close_28 K N u w) (fun u w => px_bi (f_M_cleanOf_28 K N (iN b) u w) (fun a u w => if 0 ≤ a then F u w a else px_gd (¬ u.1 26 = 0) (px_bi (f_M_find_28 K N (iN b - iN b / u.1 26 * u.1 26) u w) (fun a u w => F u w a) g2)) g1) g3)) g0) Q := by
  have hz := hm.1.1
  have hn64 : v.n ≤ 64 := hz.n64
  have hends := zwr_ends hP ha hn hnb
  have hc435 : (if v.dirty v.opn = 16 then v.close else v).p.na ≤ v.p.na + 435 := by
    split
    · exact (zfr_close v hz).n2
    · omega
  -- once there is room in the open epoch
  have go : ∀ (s1 : px_S) (v1 : ZVs), zRv s1 v1 → zMm v1 → zAl P v1 → zFv s s1 → (v1.p.na ≤ v.p.na + 435) → zEnds (ZVs.claimLoop b 12 (v1.claim b)) → ZVs.wrNew v b x = (match ZVs.claimLoop b 12 (v1.claim b) with
      | (none, u) => u
      | (some q, u) => ((ZVs.mk (ZVs.p u) (ZVs.sets u) (ZVs.ways u) (ZVs.eps u) (ZVs.wf u) (zu u.sb q (b + 1)) (zu u.se q u.opn) (zu u.mrk q true) (ZVs.hd u) (ZVs.opn u) (ZVs.half u) (ZVs.gen u) (ZVs.plc u)) : ZVs).wr 1 (50 + q) x) → wp (px_bi (f_M_cleanOf_28 K N (iN b) s1 t) (fun a u w => if 0 ≤ a then F u w a else px_gd (¬ u.1 26 = 0) (px_bi (f_M_find_28 K N (iN b - iN b / u.1 26 * u.1 26) u w) (fun a u w => F u w a) g2)) g1) Q := by
    intro s1 v1 h1 hm1 ha1 hf1 hn1 he1 hsp
    refine m_claim (F := fun a u w => F u w a) K N hN hK t h1 hm1 b hb (fun s2 h2 hf2 => ?_)
    show wp (F s2 t _) Q
    rw [hF]
    obtain ⟨c1, c2⟩ := zMm_claim hm1 b
    have ha2 := zAl_claim hP ha1 b
    obtain ⟨z1, z2, z3, z4, z5, z6, z7⟩ := zfr_claim v1 b
    have hzn : (v1.claim b).2.n = v1.n := by show (v1.claim b).2.sets * (v1.claim b).2.ways = _; rw [z1.s, z1.w]
    obtain ⟨s3, d1, d2, d3, d4, d5⟩ := wp_C (m_wloop_44 hP K N hN hK t b hb (iN fi) 12 N s2 (v1.claim b).1 (v1.claim b).2 h2 c1 ha2 (fun i hi => by rw [hzn, z7]; exact c2 i hi) (by rw [z2]; omega) (by omega) he1)
    refine wp_lp d1 (wp_if rfl ?_)
    show wp (ite _ _ _) _
    have hr : ((v1.claim b).1, (v1.claim b).2) = v1.claim b := rfl
    rw [hr] at d2 d3 d5 ⊢
    obtain ⟨o, u, hou⟩ : ∃ o u, ZVs.claimLoop b 12 (v1.claim b) = (o, u) := ⟨_, _, rfl⟩
    rw [hou] at d2 d3 d5 hsp ⊢
    dsimp only at d2 d3 d5 hsp ⊢
    have hfs : zFv s s3 := zFv_trans hf1 (zFv_trans hf2 d4)
    have hu64 : u.n ≤ 64 := d3.1.1.n64
    cases o with
    | none =>
      dsimp only at hsp
      rw [hsp] at hQ
      exact wp_ifn (by decide) (wp_some (hQ s3 d2 d3 hfs))
    | some q =>
      dsimp only at hsp
      obtain ⟨q1, q2⟩ := d5 q rfl
      have hoq : oN (some q) = iN q := rfl
      rw [hoq]
      have i50 : (50 : Int32) + iN q = iN (50 + q) := by have : (50 : Int32) = iN 50 := rfl
                                                         rw [this, iN_add]
      rw [i50, iN_nat (by omega)]
      refine wp_if (by rw [iL0, iN_le (by omega) (by omega)]; omega) (wp_gd (by rw [hK.2.2.2.2.2.2.1]; exact iN_in (by omega) (by omega)) (wp_let (wp_gd (by rw [hK.2.2.2.2.2.2.2.1]; exact iN_in (by omega) (by omega)) ?_)))
      have e32 : (sA s3 35 q (iN b)).1 32 = iN u.opn := d2.2.2.2.2.2.1
      rw [e32]
      refine wp_let (wp_gd (by rw [hK.2.2.2.2.2.2.2.2.1]; exact iN_in (by omega) (by omega)) (wp_let ?_))
      have hR : zRv (sA (sA (sA s3 35 q (iN b)) 36 q (iN u.opn)) 37 q (1 : Int32)) (ZVs.mk u.p u.sets u.ways u.eps u.wf (zu u.sb q (b + 1)) (zu u.se q u.opn) (zu u.mrk q true) u.hd u.opn u.half u.gen u.plc) := ⟨zRw_row (zRw_row (zRw_row d2.1 (by omega)) (by omega)) (by omega), zRs_take d2.2 q b⟩
      have hfX : zFv s (sA (sA (sA s3 35 q (iN b)) 36 q (iN u.opn)) 37 q (1 : Int32)) := zFv_trans hfs (zFv_trans (zFv_trans (zFv_sA (by omega)) (zFv_sA (by omega))) (zFv_sA (by omega)))
      obtain ⟨s4, e1, e2, e3⟩ := m_write_44 K N hN hK t _ _ hR.1 1 (50 + q) fi x (by omega) (by show 50 + q < 114; omega) hfi hX (fun w hw => by rw [hfX.1 44 (by omega)]; exact hx w hw)
      refine wp_bv e1 (wp_some ?_)
      rw [hsp] at hQ
      refine hQ s4 ⟨e2, zRs_fm hR.2 e3 _⟩ ?_ (zFv_trans hfX (zFv_fm e3))
      exact zMm_sm (zMm_take d3 q1 q2 hb) rfl rfl rfl rfl rfl rfl rfl
  rw [h.2.2.2.2.2.1]
  refine wp_bi (m_dirty K N (by omega) hK t s v h.2 hm.1 v.opn hm.1.2.2) ?_
  have hdl : v.dirty v.opn ≤ 64 := Nat.le_trans (zDl_len _ _ _) hn64
  by_cases hd : v.dirty v.opn = 16
  · rw [if_pos hd] at hends hc435
    refine wp_ifn (by rw [hd]; exact fun hx => hx rfl) ?_
    obtain ⟨s1, c1, c2, c3, c4⟩ := m_close hP K N hN hK t s v h hm ha (by omega)
    refine wp_bv c1 ?_
    exact go s1 v.close c2 c3 (zAl_close hP ha (by omega)) c4 hc435 hends (by unfold ZVs.wrNew; rw [if_pos hd]; rfl)
  · rw [if_neg hd] at hends hc435
    refine wp_if (by rw [iL16, iN_eq (by omega) (by omega)]; exact hd) ?_
    exact go s v h hm ha (zFv_refl s) (by omega) hends (by unfold ZVs.wrNew; rw [if_neg hd]; rfl)
/-- a block is written to the volume -/
theorem m_wrv_44 {P : Nat → ZSt → Prop} (hP : ∀ m m' V, m ≤ m' → P m V → P m' V) (K : px_K) (N : Nat) (hN : 2000 ≤ N) (hK : zKm K) (t : px_W) (b fi : Nat) (x : ZBk) (hb : b < 106) (hfi : fi + 16 ≤ K.2.2 44) (hX : K.2.2 44 ≤ 1696) (s : px_S) (v : ZVs) (h : zRv s v) (hm : zMm v) (ha : v.wf = true → zAl P v) (hn : v.p.na + 10000 < 2147483648) (hx : ∀ w, w < 16 → s.2.2.1 44 (fi + w) = x w) : ∃ s', f_M_writeVolume_28_44 K N (iN b) (iN fi) s t = some (.inl none, s', t) ∧ zRv s' (v.wrv b x) ∧ zMm (v.wrv b x) ∧ zFv s s' := by
  apply wp_B
  have hz := hm.1.1
  have hn64 : v.n ≤ 64 := hz.n64
  unfold f_M_writeVolume_28_44
  cases hw : v.wf with
  | false =>
    have e : v.wrv b x = v.wr 0 (19 + b) x := by unfold ZVs.wrv; rw [if_pos hw]
    rw [e]
    have i19 : (19 : Int32) + iN b = iN (19 + b) := by have : (19 : Int32) = iN 19 := rfl
                                                       rw [this, iN_add]
    rw [i19]
    refine wp_ifn (by rw [h.2.2.2.2.1, hw]; exact fun hx => hx rfl) ?_
    obtain ⟨s4, e1, e2, e3⟩ := m_write_44 K N hN hK t s v.p h.1 0 (19 + b) fi x (by omega) (by show 19 + b < 125; omega) hfi hX hx
    exact wp_bv e1 (wp_rB ⟨⟨e2, zRs_fm h.2 e3 _⟩, zMm_sm hm rfl rfl rfl rfl rfl rfl rfl, zFv_fm e3⟩)
  | true =>
    have ha := ha hw
    have e : v.wrv b x = (match v.newest b with
      | some q => if v.se q = v.opn then v.wr 1 (50 + q) x else ZVs.wrNew v b x
      | none => ZVs.wrNew v b x) := by unfold ZVs.wrv; rw [if_neg (by rw [hw]; exact Bool.noConfusion)]; rfl
    rw [e]
    refine wp_if (by rw [h.2.2.2.2.1, hw]; decide) ?_
    refine wp_bi (m_newest K N (by omega) hK t s v h.2 hm.1 b (by omega)) ?_
    cases hnw : v.newest b with
    | none =>
      refine wp_if (by decide) ?_
      refine m_wrNew_44 hP K N hN hK t b fi x hb hfi hX s v h hm ha hn (fun _ q hq hx => absurd hx (zNew_none.mp hnw q hq)) hx (fun s' h1 h2 h3 => ⟨s', rfl, h1, h2, h3⟩) (fun u w a => rfl)
    | some q =>
      obtain ⟨q1, q2, q3⟩ := zNew_some hnw
      have hq64 : q < 64 := by have : q < v.n := q1; omega
      have hoq : oN (some q) = iN q := rfl
      rw [hoq]
      have i50 : (50 : Int32) + iN q = iN (50 + q) := by have : (50 : Int32) = iN 50 := rfl
                                                         rw [this, iN_add]
      rw [i50, iN_nat (by omega)]
      refine wp_ifn (iN_neg (by omega)) (wp_gd (by rw [hK.2.2.2.2.2.2.2.1]; exact iN_in (by omega) (by omega)) ?_)
      rw [(h.2.2.2.2.2.2.2.2.2.1 q hq64).2.1, h.2.2.2.2.2.1]
      dsimp only
      by_cases hse : v.se q = v.opn
      · rw [if_pos hse]
        refine wp_if ((iN_eq (hm.1.2.1 q hq64).2 hm.1.2.2).mpr hse) ?_
        obtain ⟨s4, e1, e2, e3⟩ := m_write_44 K N hN hK t s v.p h.1 1 (50 + q) fi x (by omega) (by show 50 + q < 114; omega) hfi hX hx
        exact wp_bv e1 (wp_rB ⟨⟨e2, zRs_fm h.2 e3 _⟩, zMm_sm hm rfl rfl rfl rfl rfl rfl rfl, zFv_fm e3⟩)
      · rw [if_neg hse]
        refine wp_ifn (fun hx => hse ((iN_eq (hm.1.2.1 q hq64).2 hm.1.2.2).mp hx)) ?_
        rw [← h.2.2.2.2.2.1]
        refine m_wrNew_44 hP K N hN hK t b fi x hb hfi hX s v h hm ha hn (fun hup p hp hx hy => ?_) hx (fun s' h1 h2 h3 => ⟨s', rfl, h1, h2, h3⟩) (fun u w a => rfl)
        · rcases ha with ⟨_, a2, _⟩ | ha
          · have := q3 p hp hx
            have := a2.toZRm.t1 q q1
            omega
          · rw [ha.up] at hup; cases hup
