/-! THE SPECIFICATION, layer 1: two devices and the power. -/
def zu {α : Type} (f : Nat → α) (k : Nat) (x : α) : Nat → α := fun j => if j = k then x else f j
theorem zu_self {α : Type} (f : Nat → α) (k : Nat) (x : α) : zu f k x k = x := if_pos rfl
theorem zu_ne {α : Type} (f : Nat → α) {k j : Nat} (x : α) (h : j ≠ k) : zu f k x j = f j := if_neg h
theorem zu_zu {α : Type} (f : Nat → α) (k : Nat) (x y : α) : zu (zu f k x) k y = zu f k y := by
  funext j; unfold zu; split <;> rfl
theorem zu_triv {α : Type} (f : Nat → α) (k : Nat) : zu f k (f k) = f := by
  funext j; unfold zu; split
  · rename_i h; rw [h]
  · rfl
abbrev ZBk : Type := Nat → Int32
abbrev ZSt : Type := Nat → ZBk
def ZDv : Type := (ZSt) × (List (Nat × ZBk)) × (Nat) × (Nat)
def ZDv.mk (x0 : ZSt) (x1 : List (Nat × ZBk)) (x2 : Nat) (x3 : Nat) : ZDv := (x0, x1, x2, x3)
def ZDv.st (v : ZDv) : ZSt := v.1
def ZDv.pd (v : ZDv) : List (Nat × ZBk) := v.2.1
def ZDv.wr (v : ZDv) : Nat := v.2.2.1
def ZDv.fl (v : ZDv) : Nat := v.2.2.2
def ZDv.s_st (v : ZDv) (x : ZSt) : ZDv := ZDv.mk x v.pd v.wr v.fl
def ZDv.s_pd (v : ZDv) (x : List (Nat × ZBk)) : ZDv := ZDv.mk v.st x v.wr v.fl
def ZDv.s_wr (v : ZDv) (x : Nat) : ZDv := ZDv.mk v.st v.pd x v.fl
def ZDv.s_fl (v : ZDv) (x : Nat) : ZDv := ZDv.mk v.st v.pd v.wr x
/-- a store with writes over it -/
def zov (s : ZSt) : List (Nat × ZBk) → ZSt
  | [] => s
  | e :: p => zov (zu s e.1 e.2) p
def ZDv.now (d : ZDv) : ZSt := zov d.st d.pd
/-- what a crash leaves: of the pending writes those whose bits are set -/
def zlost (m : Int64) : Nat → ZSt → List (Nat × ZBk) → ZSt
  | _, s, [] => s
  | k, s, e :: p => zlost m (k + 1) (if m.toBitVec.getLsbD k = true then zu s e.1 e.2 else s) p
def ZDv.go (m : Int64) (d : ZDv) : ZDv := (ZDv.mk (zlost m 0 d.st d.pd) ([]) (ZDv.wr d) (ZDv.fl d))
def ZDv.add (d : ZDv) (b : Nat) (x : ZBk) : ZDv :=
  if d.pd.length = 64 then
    (ZDv.mk (zov d.st (d.pd.take 1)) (d.pd.drop 1 ++ [(b, x)]) (d.wr + 1) d.fl)
  else (ZDv.mk d.st (d.pd ++ [(b, x)]) (d.wr + 1) d.fl)
def ZDv.flush (d : ZDv) : ZDv := (ZDv.mk d.now ([]) d.wr (d.fl + 1))
def ZPw : Type := (Nat → ZDv) × (Bool) × (Nat) × (Int64) × (Nat)
def ZPw.mk (x0 : Nat → ZDv) (x1 : Bool) (x2 : Nat) (x3 : Int64) (x4 : Nat) : ZPw := (x0, x1, x2, x3, x4)
def ZPw.dv (v : ZPw) : Nat → ZDv := v.1
def ZPw.up (v : ZPw) : Bool := v.2.1
def ZPw.lim (v : ZPw) : Nat := v.2.2.1
def ZPw.msk (v : ZPw) : Int64 := v.2.2.2.1
def ZPw.na (v : ZPw) : Nat := v.2.2.2.2
def ZPw.s_dv (v : ZPw) (x : Nat → ZDv) : ZPw := ZPw.mk x v.up v.lim v.msk v.na
def ZPw.s_up (v : ZPw) (x : Bool) : ZPw := ZPw.mk v.dv x v.lim v.msk v.na
def ZPw.s_lim (v : ZPw) (x : Nat) : ZPw := ZPw.mk v.dv v.up x v.msk v.na
def ZPw.s_msk (v : ZPw) (x : Int64) : ZPw := ZPw.mk v.dv v.up v.lim x v.na
def ZPw.s_na (v : ZPw) (x : Nat) : ZPw := ZPw.mk v.dv v.up v.lim v.msk x
def ZPw.goes (p : ZPw) (m : Int64) : ZPw := (ZPw.mk (fun k => (p.dv k).go m) false 0 (ZPw.msk p) (ZPw.na p))
def ZPw.act (p : ZPw) : ZPw :=
  if p.up = true then (if p.lim = 1 then (ZPw.s_na (p.goes p.msk) (p.na + 1)) else (ZPw.mk (ZPw.dv p) (ZPw.up p) (p.lim - 1) (ZPw.msk p) (p.na + 1))) else p
def ZPw.wr (p : ZPw) (k b : Nat) (x : ZBk) : ZPw :=
  if p.act.up = true then (ZPw.s_dv p.act (zu p.act.dv k ((p.act.dv k).add b x))) else p.act
def ZPw.fl (p : ZPw) (k : Nat) : ZPw :=
  if p.act.up = true then (ZPw.s_dv p.act (zu p.act.dv k (p.act.dv k).flush)) else p.act
/-! what may be there after a crash -/
def zOut (st : ZSt) (pd : List (Nat × ZBk)) (s : ZSt) : Prop := ∀ b, s b = st b ∨ ∃ x, (b, x) ∈ pd ∧ s b = x
def ZDv.out (d : ZDv) (s : ZSt) : Prop := zOut d.st d.pd s
theorem zOut_self (st : ZSt) (pd : List (Nat × ZBk)) : zOut st pd st := fun _ => Or.inl rfl
theorem zOut_put {st : ZSt} {pd : List (Nat × ZBk)} {s : ZSt} (h : zOut st pd s) {b : Nat} {x : ZBk} (hm : (b, x) ∈ pd) : zOut st pd (zu s b x) := by
  intro b'
  by_cases hb : b' = b
  · subst hb; right; exact ⟨x, hm, zu_self _ _ _⟩
  · rw [zu_ne _ _ hb]; exact h b'
theorem zOut_zov {st : ZSt} {pd : List (Nat × ZBk)} : ∀ {q : List (Nat × ZBk)} {s : ZSt}, (∀ e ∈ q, e ∈ pd) → zOut st pd s → zOut st pd (zov s q) := by
  intro q
  induction q with
  | nil => intro s _ h; exact h
  | cons e q ih =>
    intro s hq h
    exact ih (fun e' he' => hq e' (List.mem_cons_of_mem _ he')) (zOut_put h (hq e (List.mem_cons_self)))
theorem zOut_zlost {st : ZSt} {pd : List (Nat × ZBk)} {m : Int64} : ∀ {q : List (Nat × ZBk)} {k : Nat} {s : ZSt}, (∀ e ∈ q, e ∈ pd) → zOut st pd s → zOut st pd (zlost m k s q) := by
  intro q
  induction q with
  | nil => intro k s _ h; exact h
  | cons e q ih =>
    intro k s hq h
    refine ih (fun e' he' => hq e' (List.mem_cons_of_mem _ he')) ?_
    split
    · exact zOut_put h (hq e (List.mem_cons_self))
    · exact h
theorem ZDv.out_go (d : ZDv) (m : Int64) : d.out ((d.go m).st) := zOut_zlost (fun _ h => h) (zOut_self _ _)
theorem ZDv.out_now (d : ZDv) : d.out d.now := zOut_zov (fun _ h => h) (zOut_self _ _)
theorem zov_append (s : ZSt) (p q : List (Nat × ZBk)) : zov s (p ++ q) = zov (zov s p) q := by
  induction p generalizing s with
  | nil => rfl
  | cons e p ih => exact ih _
theorem ZDv.now_add (d : ZDv) (b : Nat) (x : ZBk) : (d.add b x).now = zu d.now b x := by
  unfold ZDv.add ZDv.now
  split
  · rename_i h
    show zov (zov d.st (d.pd.take 1)) (d.pd.drop 1 ++ [(b, x)]) = _
    rw [zov_append]
    show zu (zov (zov d.st (d.pd.take 1)) (d.pd.drop 1)) b x = _
    rw [← zov_append, List.take_append_drop]
  · show zov d.st (d.pd ++ [(b, x)]) = _
    rw [zov_append]; rfl
theorem ZDv.out_add {d : ZDv} {b : Nat} {x : ZBk} {s : ZSt} (h : (d.add b x).out s) : d.out s ∨ ∃ s', d.out s' ∧ s = zu s' b x := by
  have key : ∀ b', s b' = d.st b' ∨ (∃ y, (b', y) ∈ d.pd ∧ s b' = y) ∨ (b' = b ∧ s b' = x) := by
    intro b'
    have h1 := h b'
    unfold ZDv.add at h1
    split at h1
    · have h1 : s b' = zov d.st (d.pd.take 1) b' ∨ ∃ y, (b', y) ∈ d.pd.drop 1 ++ [(b, x)] ∧ s b' = y := h1
      rcases h1 with h1 | ⟨y, hy, h1⟩
      · have h2 : zOut d.st d.pd (zov d.st (d.pd.take 1)) := zOut_zov (fun e he => List.mem_of_mem_take he) (zOut_self _ _)
        rcases h2 b' with h3 | ⟨y, hy, h3⟩
        · exact Or.inl (h1.trans h3)
        · exact Or.inr (Or.inl ⟨y, hy, h1.trans h3⟩)
      · rcases List.mem_append.mp hy with hy | hy
        · exact Or.inr (Or.inl ⟨y, List.mem_of_mem_drop hy, h1⟩)
        · have hy := List.mem_singleton.mp hy
          cases hy
          exact Or.inr (Or.inr ⟨rfl, h1⟩)
    · have h1 : s b' = d.st b' ∨ ∃ y, (b', y) ∈ d.pd ++ [(b, x)] ∧ s b' = y := h1
      rcases h1 with h1 | ⟨y, hy, h1⟩
      · exact Or.inl h1
      · rcases List.mem_append.mp hy with hy | hy
        · exact Or.inr (Or.inl ⟨y, hy, h1⟩)
        · have hy := List.mem_singleton.mp hy
          cases hy
          exact Or.inr (Or.inr ⟨rfl, h1⟩)
  by_cases hs : s b = x
  · right
    refine ⟨zu s b (d.st b), fun b' => ?_, ?_⟩
    · by_cases hb : b' = b
      · subst hb; left; exact zu_self _ _ _
      · rw [zu_ne _ _ hb]
        rcases key b' with h1 | h1 | h1
        · exact Or.inl h1
        · exact Or.inr h1
        · exact absurd h1.1 hb
    · rw [zu_zu, ← hs, zu_triv]
  · left
    intro b'
    rcases key b' with h1 | h1 | h1
    · exact Or.inl h1
    · exact Or.inr h1
    · obtain ⟨rfl, h1⟩ := h1
      exact absurd h1 hs
theorem ZDv.out_flush {d : ZDv} {s : ZSt} (h : d.flush.out s) : s = d.now := by
  funext b
  rcases h b with h | ⟨x, hx, _⟩
  · exact h
  · cases hx
theorem ZDv.now_flush (d : ZDv) : d.flush.now = d.now := rfl
theorem ZDv.out_nil {d : ZDv} {s : ZSt} (hp : d.pd = []) (h : d.out s) : s = d.st := by
  funext b
  rcases h b with h | ⟨x, hx, _⟩
  · exact h
  · rw [hp] at hx; cases hx
theorem ZDv.now_nil {d : ZDv} (hp : d.pd = []) : d.now = d.st := by
  unfold ZDv.now; rw [hp]; rfl
theorem ZDv.len_add (d : ZDv) (b : Nat) (x : ZBk) (h : d.pd.length ≤ 64) : (d.add b x).pd.length ≤ 64 := by
  unfold ZDv.add
  split
  · show (d.pd.drop 1 ++ [(b, x)]).length ≤ 64
    simp; omega
  · show (d.pd ++ [(b, x)]).length ≤ 64
    simp; omega
theorem ZDv.mem_add {d : ZDv} {b : Nat} {x : ZBk} {e : Nat × ZBk} (h : e ∈ (d.add b x).pd) : e ∈ d.pd ∨ e = (b, x) := by
  unfold ZDv.add at h
  split at h
  · rcases List.mem_append.mp h with h | h
    · exact Or.inl (List.mem_of_mem_drop h)
    · exact Or.inr (List.mem_singleton.mp h)
  · rcases List.mem_append.mp h with h | h
    · exact Or.inl h
    · exact Or.inr (List.mem_singleton.mp h)
/-! the power -/
theorem ZPw.act_down {p : ZPw} (h : p.up = false) : p.act = p := by unfold ZPw.act; rw [h]; rfl
theorem ZPw.wr_down {p : ZPw} (h : p.up = false) (k b : Nat) (x : ZBk) : p.wr k b x = p := by
  unfold ZPw.wr; rw [ZPw.act_down h, h]; rfl
theorem ZPw.fl_down {p : ZPw} (h : p.up = false) (k : Nat) : p.fl k = p := by
  unfold ZPw.fl; rw [ZPw.act_down h, h]; rfl
theorem ZPw.act_cases {p : ZPw} (h : p.up = true) : (p.lim = 1 ∧ p.act = (ZPw.s_na (p.goes p.msk) (p.na + 1))) ∨ (p.lim ≠ 1 ∧ p.act = (ZPw.mk (ZPw.dv p) (ZPw.up p) (p.lim - 1) (ZPw.msk p) (p.na + 1))) := by
  unfold ZPw.act; rw [if_pos h]
  by_cases hl : p.lim = 1
  · left; exact ⟨hl, if_pos hl⟩
  · right; exact ⟨hl, if_neg hl⟩
theorem ZPw.wr_cases {p : ZPw} (h : p.up = true) (k b : Nat) (x : ZBk) : (p.lim = 1 ∧ p.wr k b x = (ZPw.s_na (p.goes p.msk) (p.na + 1))) ∨ (p.lim ≠ 1 ∧ p.wr k b x = (ZPw.mk (zu p.dv k ((p.dv k).add b x)) (ZPw.up p) (p.lim - 1) (ZPw.msk p) (p.na + 1))) := by
  unfold ZPw.wr
  rcases ZPw.act_cases h with ⟨h1, h2⟩ | ⟨h1, h2⟩
  · left; refine ⟨h1, ?_⟩; rw [h2]; exact if_neg (by show ¬ (false = true); exact Bool.noConfusion)
  · right; refine ⟨h1, ?_⟩; rw [h2]; exact if_pos h
theorem ZPw.fl_cases {p : ZPw} (h : p.up = true) (k : Nat) : (p.lim = 1 ∧ p.fl k = (ZPw.s_na (p.goes p.msk) (p.na + 1))) ∨ (p.lim ≠ 1 ∧ p.fl k = (ZPw.mk (zu p.dv k (p.dv k).flush) (ZPw.up p) (p.lim - 1) (ZPw.msk p) (p.na + 1))) := by
  unfold ZPw.fl
  rcases ZPw.act_cases h with ⟨h1, h2⟩ | ⟨h1, h2⟩
  · left; refine ⟨h1, ?_⟩; rw [h2]; exact if_neg (by show ¬ (false = true); exact Bool.noConfusion)
  · right; refine ⟨h1, ?_⟩; rw [h2]; exact if_pos h
theorem ZPw.na_act (p : ZPw) : p.na ≤ p.act.na ∧ p.act.na ≤ p.na + 1 := by
  cases h : p.up with
  | false => rw [ZPw.act_down h]; omega
  | true => rcases ZPw.act_cases h with ⟨_, h2⟩ | ⟨_, h2⟩ <;> rw [h2] <;> exact ⟨Nat.le_succ _, Nat.le_refl _⟩
theorem ZPw.na_wr (p : ZPw) (k b : Nat) (x : ZBk) : p.na ≤ (p.wr k b x).na ∧ (p.wr k b x).na ≤ p.na + 1 := by
  unfold ZPw.wr; have := p.na_act; split <;> exact this
theorem ZPw.na_fl (p : ZPw) (k : Nat) : p.na ≤ (p.fl k).na ∧ (p.fl k).na ≤ p.na + 1 := by
  unfold ZPw.fl; have := p.na_act; split <;> exact this
/-! THE SPECIFICATION, layer 2: the volume. -/
def n32 (x : Int32) : Nat := x.toNatClampNeg
def iN (n : Nat) : Int32 := Int32.ofNat n
def ZVs : Type := (ZPw) × (Nat) × (Nat) × (Nat) × (Bool) × (Nat → Nat) × (Nat → Nat) × (Nat → Bool) × (Nat → Nat) × (Nat) × (Nat) × (Nat) × (Nat)
def ZVs.mk (x0 : ZPw) (x1 : Nat) (x2 : Nat) (x3 : Nat) (x4 : Bool) (x5 : Nat → Nat) (x6 : Nat → Nat) (x7 : Nat → Bool) (x8 : Nat → Nat) (x9 : Nat) (x10 : Nat) (x11 : Nat) (x12 : Nat) : ZVs := (x0, x1, x2, x3, x4, x5, x6, x7, x8, x9, x10, x11, x12)
def ZVs.p (v : ZVs) : ZPw := v.1
def ZVs.sets (v : ZVs) : Nat := v.2.1
def ZVs.ways (v : ZVs) : Nat := v.2.2.1
def ZVs.eps (v : ZVs) : Nat := v.2.2.2.1
def ZVs.wf (v : ZVs) : Bool := v.2.2.2.2.1
def ZVs.sb (v : ZVs) : Nat → Nat := v.2.2.2.2.2.1
def ZVs.se (v : ZVs) : Nat → Nat := v.2.2.2.2.2.2.1
def ZVs.mrk (v : ZVs) : Nat → Bool := v.2.2.2.2.2.2.2.1
def ZVs.hd (v : ZVs) : Nat → Nat := v.2.2.2.2.2.2.2.2.1
def ZVs.opn (v : ZVs) : Nat := v.2.2.2.2.2.2.2.2.2.1
def ZVs.half (v : ZVs) : Nat := v.2.2.2.2.2.2.2.2.2.2.1
def ZVs.gen (v : ZVs) : Nat := v.2.2.2.2.2.2.2.2.2.2.2.1
def ZVs.plc (v : ZVs) : Nat := v.2.2.2.2.2.2.2.2.2.2.2.2
def ZVs.s_p (v : ZVs) (x : ZPw) : ZVs := ZVs.mk x v.sets v.ways v.eps v.wf v.sb v.se v.mrk v.hd v.opn v.half v.gen v.plc
def ZVs.s_sets (v : ZVs) (x : Nat) : ZVs := ZVs.mk v.p x v.ways v.eps v.wf v.sb v.se v.mrk v.hd v.opn v.half v.gen v.plc
def ZVs.s_ways (v : ZVs) (x : Nat) : ZVs := ZVs.mk v.p v.sets x v.eps v.wf v.sb v.se v.mrk v.hd v.opn v.half v.gen v.plc
def ZVs.s_eps (v : ZVs) (x : Nat) : ZVs := ZVs.mk v.p v.sets v.ways x v.wf v.sb v.se v.mrk v.hd v.opn v.half v.gen v.plc
def ZVs.s_wf (v : ZVs) (x : Bool) : ZVs := ZVs.mk v.p v.sets v.ways v.eps x v.sb v.se v.mrk v.hd v.opn v.half v.gen v.plc
def ZVs.s_sb (v : ZVs) (x : Nat → Nat) : ZVs := ZVs.mk v.p v.sets v.ways v.eps v.wf x v.se v.mrk v.hd v.opn v.half v.gen v.plc
def ZVs.s_se (v : ZVs) (x : Nat → Nat) : ZVs := ZVs.mk v.p v.sets v.ways v.eps v.wf v.sb x v.mrk v.hd v.opn v.half v.gen v.plc
def ZVs.s_mrk (v : ZVs) (x : Nat → Bool) : ZVs := ZVs.mk v.p v.sets v.ways v.eps v.wf v.sb v.se x v.hd v.opn v.half v.gen v.plc
def ZVs.s_hd (v : ZVs) (x : Nat → Nat) : ZVs := ZVs.mk v.p v.sets v.ways v.eps v.wf v.sb v.se v.mrk x v.opn v.half v.gen v.plc
def ZVs.s_opn (v : ZVs) (x : Nat) : ZVs := ZVs.mk v.p v.sets v.ways v.eps v.wf v.sb v.se v.mrk v.hd x v.half v.gen v.plc
def ZVs.s_half (v : ZVs) (x : Nat) : ZVs := ZVs.mk v.p v.sets v.ways v.eps v.wf v.sb v.se v.mrk v.hd v.opn x v.gen v.plc
def ZVs.s_gen (v : ZVs) (x : Nat) : ZVs := ZVs.mk v.p v.sets v.ways v.eps v.wf v.sb v.se v.mrk v.hd v.opn v.half x v.plc
def ZVs.s_plc (v : ZVs) (x : Nat) : ZVs := ZVs.mk v.p v.sets v.ways v.eps v.wf v.sb v.se v.mrk v.hd v.opn v.half v.gen x
abbrev ZVs.n (v : ZVs) : Nat := v.sets * v.ways
abbrev ZVs.dn (v : ZVs) : ZSt := (v.p.dv 0).now
abbrev ZVs.fn (v : ZVs) : ZSt := (v.p.dv 1).now
def ZVs.wr (v : ZVs) (k b : Nat) (x : ZBk) : ZVs := (ZVs.s_p v (v.p.wr k b x))
def ZVs.fl (v : ZVs) (k : Nat) : ZVs := (ZVs.s_p v (v.p.fl k))
def ZVs.landed (v : ZVs) : Nat := n32 (v.dn 1 1)
/-- the newest slot of a block among the first -/
def zNew (sb se : Nat → Nat) (b : Nat) : Nat → Option Nat
  | 0 => none
  | i + 1 => match zNew sb se b i with
    | none => if sb i = b + 1 then some i else none
    | some j => if sb i = b + 1 ∧ se j < se i then some i else some j
/-- the last clean slot of a block among the first -/
def zClean (sb se : Nat → Nat) (b : Nat) : Nat → Option Nat
  | 0 => none
  | i + 1 => if sb i = b + 1 ∧ se i = 0 then some i else zClean sb se b i
/-- the dirty slots of an epoch, rising -/
def zDl (se : Nat → Nat) (e : Nat) (n : Nat) : List Nat := (List.range n).filter (fun i => se i == e)
def ZVs.newest (v : ZVs) (b : Nat) : Option Nat := zNew v.sb v.se b v.n
def ZVs.dl (v : ZVs) (e : Nat) : List Nat := zDl v.se e v.n
def ZVs.dirty (v : ZVs) (e : Nat) : Nat := (v.dl e).length
def ZVs.find (set : Nat) : Nat → ZVs → Option Nat × ZVs
  | 0, v => (none, v)
  | k + 1, v =>
    if 0 < v.se (set * v.ways + v.hd set) then ZVs.find set k (ZVs.s_hd v (zu v.hd set ((v.hd set + 1) % v.ways)))
    else if v.sb (set * v.ways + v.hd set) = 0 ∨ v.mrk (set * v.ways + v.hd set) = false then
      (some (set * v.ways + v.hd set), (ZVs.mk (ZVs.p v) (ZVs.sets v) (ZVs.ways v) (ZVs.eps v) (ZVs.wf v) (zu v.sb (set * v.ways + v.hd set) 0) (ZVs.se v) (zu v.mrk (set * v.ways + v.hd set) false) (zu v.hd set ((v.hd set + 1) % v.ways)) (ZVs.opn v) (ZVs.half v) (ZVs.gen v) (ZVs.plc v)))
    else ZVs.find set k (ZVs.mk (ZVs.p v) (ZVs.sets v) (ZVs.ways v) (ZVs.eps v) (ZVs.wf v) (ZVs.sb v) (ZVs.se v) (zu v.mrk (set * v.ways + v.hd set) false) (zu v.hd set ((v.hd set + 1) % v.ways)) (ZVs.opn v) (ZVs.half v) (ZVs.gen v) (ZVs.plc v))
def ZVs.claim (v : ZVs) (b : Nat) : Option Nat × ZVs := match zClean v.sb v.se b v.n with
  | some i => (some i, v)
  | none => ZVs.find (b % v.sets) (2 * v.ways) v
def ZVs.hasClosed (v : ZVs) (set : Nat) : Prop := ∃ w, w < v.ways ∧ 0 < v.se (set * v.ways + w) ∧ v.se (set * v.ways + w) < v.opn
def zThree (a b c : Nat) : ZBk := fun w => if w = 0 then iN a else if w = 1 then iN b else if w = 2 then iN c else 0
/-- a record: generation, epoch, whether it is the last, the slots, the blocks (each + 1) -/
def zRec (g e : Nat) (last : Bool) (c : List Nat) (sb : Nat → Nat) : ZBk := fun w =>
  if w = 0 then iN g else if w = 1 then iN e else if w = 2 then (if last then 1 else 0) else if w = 3 then iN c.length
  else match c[(w - 4) / 2]? with
    | none => 0
    | some s => if w % 2 = 0 then iN s else iN (sb s - 1)
/-- slots sorted by their blocks -/
def zIns (sb : Nat → Nat) (s : Nat) : List Nat → List Nat
  | [] => [s]
  | t :: l => if sb s < sb t then s :: t :: l else t :: zIns sb s l
def zSort (sb : Nat → Nat) : List Nat → List Nat
  | [] => []
  | s :: l => zIns sb s (zSort sb l)
def zList (l : List Nat) (sb : Nat → Nat) : ZBk := fun w => match l[w]? with
  | none => 0
  | some s => iN (sb s - 1)
/-- the records of an epoch -/
def ZVs.recs (e : Nat) (cl : Bool) : Nat → List Nat → ZVs → ZVs
  | 0, _, v => v
  | k + 1, l, v =>
    if l = [] then v else
    let last : Bool := decide (l.length ≤ 6)
    let v1 := if last && cl then v.fl 1 else v
    let v2 := v1.wr 1 (25 * v.half + 1 + v.plc) (zRec v.gen e last (l.take 6) v.sb)
    let v3 := if last && cl then v2.fl 1 else v2
    ZVs.recs e cl k (l.drop 6) (ZVs.s_plc v3 (v.plc + 1))
def ZVs.recsAll (e : Nat) (cl : Bool) (v : ZVs) : ZVs := ZVs.recs e cl 11 (v.dl e) v
def ZVs.recsTo : Nat → Nat → ZVs → ZVs
  | 0, _, v => v
  | k + 1, e, v => ZVs.recsTo k (e + 1) (ZVs.recsAll e false v)
def ZVs.changeHalves (v : ZVs) : ZVs :=
  let v1 := ZVs.recsTo (min 8 (v.opn - (v.landed + 1))) (v.landed + 1) (ZVs.mk (ZVs.p v) (ZVs.sets v) (ZVs.ways v) (ZVs.eps v) (ZVs.wf v) (ZVs.sb v) (ZVs.se v) (ZVs.mrk v) (ZVs.hd v) (ZVs.opn v) (1 - v.half) (v.gen + 1) 0)
  let v2 := v1.fl 1
  let v3 := v2.wr 1 (25 * v2.half) (zThree v2.gen (n32 (v2.dn 0 0)) 0)
  v3.fl 1
/-- blocks of slots are written to the disc, from a block on -/
def ZVs.wrCopies : List Nat → Nat → ZVs → ZVs
  | [], _, v => v
  | s :: l, j, v => ZVs.wrCopies l (j + 1) (v.wr 0 (3 + j) (v.fn (50 + s)))
def ZVs.wrHomes : List Nat → ZVs → ZVs
  | [], v => v
  | s :: l, v => ZVs.wrHomes l (v.wr 0 (19 + (v.sb s - 1)) (v.fn (50 + s)))
def ZVs.setLanded (e : Nat) : Nat → ZVs → ZVs
  | 0, v => v
  | i + 1, v =>
    let u := ZVs.setLanded e i v
    if u.se i = e then
      let u1 := (ZVs.s_se u (zu u.se i 0))
      match u1.newest (u.sb i - 1) with
      | none => u1
      | some j => if 0 < u1.se j then (ZVs.mk (ZVs.p u1) (ZVs.sets u1) (ZVs.ways u1) (ZVs.eps u1) (ZVs.wf u1) (zu u1.sb i 0) (ZVs.se u1) (zu u1.mrk i false) (ZVs.hd u1) (ZVs.opn u1) (ZVs.half u1) (ZVs.gen u1) (ZVs.plc u1)) else u1
    else u
def ZVs.landOf (e : Nat) (v : ZVs) : ZVs :=
  let l := zSort v.sb (v.dl e)
  let v1 := ZVs.wrCopies l 0 v
  let v2 := (v1.wr 0 2 (zList l v.sb)).fl 0
  let v3 := (v2.wr 0 1 (zThree 1 e l.length)).fl 0
  let v4 := (ZVs.wrHomes l v3).fl 0
  let v5 := (v4.wr 0 1 (zThree 0 e 0)).fl 0
  ZVs.setLanded e v5.n v5
def ZVs.land1 (v : ZVs) : Nat × ZVs := if v.landed + 1 < v.opn then (v.landed + 1, ZVs.landOf (v.landed + 1) v) else (0, v)
def ZVs.landIf (v : ZVs) : ZVs := if v.p.up = true ∧ v.eps ≤ v.opn - 1 - v.landed then v.land1.2 else v
def ZVs.close (v : ZVs) : ZVs :=
  if v.dirty v.opn = 0 then v else
  let v1 := v.landIf
  if v1.p.up = false then v1 else
  let v2 := if 24 - v1.plc < (v.dirty v.opn + 5) / 6 then v1.changeHalves else v1
  let v3 := ZVs.recsAll v2.opn true v2
  (ZVs.s_opn v3 (v3.opn + 1))
noncomputable def ZVs.claimLoop (b : Nat) : Nat → Option Nat × ZVs → Option Nat × ZVs
  | 0, r => r
  | _ + 1, (some i, v) => (some i, v)
  | k + 1, (none, v) =>
    if v.p.up = false then (none, v) else
    let v1 := @ite _ (v.hasClosed (b % v.sets)) (Classical.propDecidable _) v v.close
    ZVs.claimLoop b k (v1.land1.2.claim b)
noncomputable def ZVs.wrNew (v : ZVs) (b : Nat) (x : ZBk) : ZVs :=
  let v1 := if v.dirty v.opn = 16 then v.close else v
  match ZVs.claimLoop b 12 (v1.claim b) with
  | (none, u) => u
  | (some s, u) => ((ZVs.mk (ZVs.p u) (ZVs.sets u) (ZVs.ways u) (ZVs.eps u) (ZVs.wf u) (zu u.sb s (b + 1)) (zu u.se s u.opn) (zu u.mrk s true) (ZVs.hd u) (ZVs.opn u) (ZVs.half u) (ZVs.gen u) (ZVs.plc u)) : ZVs).wr 1 (50 + s) x
noncomputable def ZVs.wrv (v : ZVs) (b : Nat) (x : ZBk) : ZVs :=
  if v.wf = false then v.wr 0 (19 + b) x else
  match v.newest b with
  | some s => if v.se s = v.opn then v.wr 1 (50 + s) x else ZVs.wrNew v b x
  | none => ZVs.wrNew v b x
def ZVs.rdv (v : ZVs) (b : Nat) : ZVs :=
  if v.wf = false then v else
  match v.newest b with
  | some s => (ZVs.s_mrk v (zu v.mrk s true))
  | none => match ZVs.find (b % v.sets) (2 * v.ways) v with
    | (none, u) => u
    | (some s, u) => (ZVs.s_sb (u.wr 1 (50 + s) (v.dn (19 + b))) (zu u.sb s (b + 1)))
/-- what is read of a block -/
def ZVs.cur (v : ZVs) : ZSt := fun b =>
  if v.wf = true then (match v.newest b with
    | some s => v.fn (50 + s)
    | none => v.dn (19 + b)) else v.dn (19 + b)
def ZVs.flv (v : ZVs) : ZVs := if v.wf = true then v.close else v.fl 0
def ZVs.noSlots (v : ZVs) : ZVs := (ZVs.mk (ZVs.p v) (ZVs.sets v) (ZVs.ways v) (ZVs.eps v) (ZVs.wf v) (fun _ => 0) (fun _ => 0) (fun _ => false) (fun _ => 0) (ZVs.opn v) (ZVs.half v) (ZVs.gen v) (ZVs.plc v))
def ZVs.wrRedo : Nat → Nat → ZVs → ZVs
  | 0, _, v => v
  | k + 1, j, v => ZVs.wrRedo k (j + 1) (v.wr 0 (19 + n32 (v.dn 2 j)) (v.dn (3 + j)))
def ZVs.redo (v : ZVs) : ZVs :=
  if v.dn 1 0 ≠ 1 then v else
  let e := v.landed
  let v1 := (ZVs.wrRedo (min 16 (n32 (v.dn 1 2))) 0 v).fl 0
  (v1.wr 0 1 (zThree 0 e 0)).fl 0
def ZVs.good (v : ZVs) : Option Nat :=
  if v.fn 0 1 = v.dn 0 0 then (if v.fn 25 1 = v.dn 0 0 ∧ n32 (v.fn 0 0) < n32 (v.fn 25 0) then some 1 else some 0)
  else if v.fn 25 1 = v.dn 0 0 then some 1 else none
def ZVs.hasLast (f : ZSt) (h g e : Nat) : Prop := ∃ k, k < 24 ∧ n32 (f (25 * h + 1 + k) 0) = g ∧ n32 (f (25 * h + 1 + k) 1) = e ∧ f (25 * h + 1 + k) 2 = 1
/-- a record's pairs, from the j-th on -/
def ZVs.takePairs (r : ZBk) (e : Nat) : Nat → Nat → ZVs → ZVs
  | 0, _, v => v
  | k + 1, j, v => ZVs.takePairs r e k (j + 1) (ZVs.mk (ZVs.p v) (ZVs.sets v) (ZVs.ways v) (ZVs.eps v) (ZVs.wf v) (zu v.sb (n32 (r (4 + 2 * j))) (n32 (r (5 + 2 * j)) + 1)) (zu v.se (n32 (r (4 + 2 * j))) e) (ZVs.mrk v) (ZVs.hd v) (ZVs.opn v) (ZVs.half v) (ZVs.gen v) (ZVs.plc v))
noncomputable def ZVs.takeRecs (h : Nat) : Nat → Nat → ZVs → ZVs
  | 0, _, v => v
  | c + 1, k, v =>
    let r := v.fn (25 * h + 1 + k)
    let e := n32 (r 1)
    ZVs.takeRecs h c (k + 1) (@ite _ (n32 (r 0) = v.gen ∧ v.landed < e ∧ ZVs.hasLast v.fn h v.gen e) (Classical.propDecidable _)
      (ZVs.takePairs r e (n32 (r 3)) 0 (ZVs.s_opn v (max v.opn (e + 1)))) v)
noncomputable def ZVs.takeHalf (h : Nat) (v : ZVs) : ZVs := ZVs.takeRecs h 24 0 (ZVs.mk (ZVs.p v) (ZVs.sets v) (ZVs.ways v) (ZVs.eps v) (ZVs.wf v) (ZVs.sb v) (ZVs.se v) (ZVs.mrk v) (ZVs.hd v) (v.landed + 1) h (n32 (v.fn (25 * h) 0)) (ZVs.plc v))
noncomputable def ZVs.openFlash (h : Nat) (v : ZVs) : ZVs := (ZVs.takeHalf h v.redo.noSlots).changeHalves
def ZVs.openDisc (v : ZVs) : ZVs :=
  let u := v.redo.noSlots
  (u.wr 0 0 (zThree (n32 (u.dn 0 0) + 1) 0 0)).fl 0
def ZVs.newFlash (v : ZVs) : ZVs := (ZVs.s_p v (ZPw.s_dv v.p (zu v.p.dv 1 (ZDv.mk (fun _ _ => 0) ([]) (ZDv.wr (v.p.dv 1)) (ZDv.fl (v.p.dv 1))))))
def zFresh (u : ZVs) : ZVs := (ZVs.mk (ZVs.p u) (ZVs.sets u) (ZVs.ways u) (ZVs.eps u) true (fun _ => 0) (fun _ => 0) (fun _ => false) (fun _ => 0) (u.landed + 1) 0 1 0)
def ZVs.attach (v : ZVs) : ZVs :=
  let u := v.newFlash
  let i := n32 (u.dn 0 0) + 1
  zFresh (((((u.wr 1 0 (zThree 1 i 0)).fl 1).wr 0 0 (zThree i 0 0))).fl 0)
