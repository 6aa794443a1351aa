/-! NUMBERS -/
theorem n32_iN {n : Nat} (h : n < 2147483648) : n32 (iN n) = n := by
  unfold n32 iN
  show (Int32.ofNat n).toInt.toNat = n
  rw [Int32.toInt_ofNat_of_lt (by simpa using h)]
  rfl
theorem iN_inj {a b : Nat} (ha : a < 2147483648) (hb : b < 2147483648) (h : iN a = iN b) : a = b := by
  rw [← n32_iN ha, ← n32_iN hb, h]
theorem n32_lt (x : Int32) : n32 x < 2147483648 := by
  unfold n32
  have h : x.toInt < 2 ^ 31 := Int32.toInt_lt x
  show x.toInt.toNat < _
  omega
theorem iN_n32 {x : Int32} (h : 0 < n32 x) : iN (n32 x) = x := by
  unfold n32 iN at *
  have h : 0 < x.toInt.toNat := h
  show Int32.ofNat x.toInt.toNat = x
  have h2 : x.toInt < 2 ^ 31 := Int32.toInt_lt x
  apply Int32.toInt.inj
  rw [Int32.toInt_ofNat_of_lt (by omega)]
  omega
theorem eq_iN {x : Int32} {n : Nat} (h1 : 0 < n) (h : n32 x = n) : x = iN n := by
  subst h; exact (iN_n32 h1).symm
theorem iN_zero : iN 0 = 0 := rfl
theorem iN_one : iN 1 = 1 := rfl
/-! THE NEWEST SLOT -/
theorem zNew_none {sb se : Nat → Nat} {b n : Nat} : zNew sb se b n = none ↔ ∀ i, i < n → sb i ≠ b + 1 := by
  induction n with
  | zero => simp [zNew]
  | succ n ih =>
    unfold zNew
    cases h : zNew sb se b n with
    | none =>
      have ih := ih.mp h
      by_cases hs : sb n = b + 1
      · simp only [hs, if_true]
        exact ⟨fun h => (by cases h), fun h => absurd hs (h n (by omega))⟩
      · simp only [hs, if_false, true_iff]
        intro i hi
        by_cases hin : i = n
        · subst hin; exact hs
        · exact ih i (by omega)
    | some j =>
      have h1 : ¬ ∀ i, i < n → sb i ≠ b + 1 := fun hh => by rw [ih.mpr hh] at h; cases h
      constructor
      · intro hh; exfalso; revert hh; dsimp only; split <;> intro hh <;> cases hh
      · intro hh; exact absurd (fun i hi => hh i (by omega)) h1
theorem zNew_some {sb se : Nat → Nat} {b : Nat} : ∀ {n j : Nat}, zNew sb se b n = some j → j < n ∧ sb j = b + 1 ∧ ∀ i, i < n → sb i = b + 1 → se i ≤ se j := by
  intro n
  induction n with
  | zero => intro j h; cases h
  | succ n ih =>
    intro j h
    unfold zNew at h
    cases h0 : zNew sb se b n with
    | none =>
      rw [h0] at h; dsimp only at h
      have h1 := zNew_none.mp h0
      split at h
      · rename_i hs
        cases h
        refine ⟨by omega, hs, fun i hi hi2 => ?_⟩
        by_cases hin : i = n
        · subst hin; omega
        · exact absurd hi2 (h1 i (by omega))
      · cases h
    | some k =>
      rw [h0] at h; dsimp only at h
      obtain ⟨h1, h2, h3⟩ := ih h0
      split at h
      · rename_i hs
        cases h
        refine ⟨by omega, hs.1, fun i hi hi2 => ?_⟩
        by_cases hin : i = n
        · subst hin; omega
        · have := h3 i (by omega) hi2; omega
      · rename_i hs
        cases h
        refine ⟨by omega, h2, fun i hi hi2 => ?_⟩
        by_cases hin : i = n
        · subst hin
          have := not_and.mp hs hi2; omega
        · exact h3 i (by omega) hi2
/-- with one slot for each block and epoch the newest is known by what it is -/
theorem zNew_eq {sb se : Nat → Nat} {b n j : Nat} (hu : ∀ i, i < n → sb i = b + 1 → se i = se j → i = j) (hj : j < n) (hb : sb j = b + 1) (hm : ∀ i, i < n → sb i = b + 1 → se i ≤ se j) : zNew sb se b n = some j := by
  cases h : zNew sb se b n with
  | none => exact absurd hb (zNew_none.mp h j hj)
  | some k =>
    obtain ⟨h1, h2, h3⟩ := zNew_some h
    rw [hu k h1 h2 (Nat.le_antisymm (hm k h1 h2) (h3 j hj hb))]
/-- the closed slots' tables up to an epoch -/
def zUp (sb se : Nat → Nat) (e : Nat) : Nat → Nat := fun s => if 0 < se s ∧ se s ≤ e then sb s else 0
theorem zUp_eq {sb se : Nat → Nat} {e s b : Nat} : zUp sb se e s = b + 1 ↔ 0 < se s ∧ se s ≤ e ∧ sb s = b + 1 := by
  unfold zUp
  split
  · rename_i h; exact ⟨fun h2 => ⟨h.1, h.2, h2⟩, fun h2 => h2.2.2⟩
  · rename_i h; exact ⟨fun h2 => by omega, fun h2 => absurd ⟨h2.1, h2.2.1⟩ h⟩
def zHome (sd : ZSt) : ZSt := fun b => sd (19 + b)
def zPairs (sd : ZSt) (c : Nat) : List (Nat × ZBk) := (List.range c).map fun j => (n32 (sd 2 j), sd (3 + j))
def zDisc (sd : ZSt) : ZSt := if sd 1 0 = 1 then zov (zHome sd) (zPairs sd (n32 (sd 1 2))) else zHome sd
def zVol (base sf : ZSt) (sb se : Nat → Nat) (n e : Nat) : ZSt := fun b => match zNew (zUp sb se e) se b n with
  | some s => sf (50 + s)
  | none => base b
/-- a record that is true -/
def zTrue (n : Nat) (sb se : Nat → Nat) (r : ZBk) : Prop := n32 (r 3) ≤ 6 ∧ ∀ j, j < n32 (r 3) → ∃ s b, r (4 + 2 * j) = iN s ∧ r (5 + 2 * j) = iN b ∧ s < n ∧ b < 106 ∧ se s = n32 (r 1) ∧ sb s = b + 1
abbrev ZHead (sd : ZSt) (id L : Nat) : Prop := (sd 0 0 = iN id) ∧ (1 ≤ id) ∧ (sd 1 1 = iN L) ∧ (sd 1 0 = 1 → n32 (sd 1 2) ≤ 16 ∧ ∀ j, j < n32 (sd 1 2) → ∃ b, sd 2 j = iN b ∧ b < 106)
theorem ZHead.hid {sd : ZSt} {id L : Nat} (h : ZHead sd id L) : sd 0 0 = iN id := h.1
theorem ZHead.hid1 {sd : ZSt} {id L : Nat} (h : ZHead sd id L) : 1 ≤ id := h.2.1
theorem ZHead.hL {sd : ZSt} {id L : Nat} (h : ZHead sd id L) : sd 1 1 = iN L := h.2.2.1
theorem ZHead.hh {sd : ZSt} {id L : Nat} (h : ZHead sd id L) : sd 1 0 = 1 → n32 (sd 1 2) ≤ 16 ∧ ∀ j, j < n32 (sd 1 2) → ∃ b, sd 2 j = iN b ∧ b < 106 := h.2.2.2
abbrev ZSz (sets ways eps : Nat) : Prop := (1 ≤ sets) ∧ (sets ≤ 8) ∧ (1 ≤ ways) ∧ (ways ≤ 8) ∧ (1 ≤ eps) ∧ (eps ≤ 8)
theorem ZSz.s1 {sets ways eps : Nat} (h : ZSz sets ways eps) : 1 ≤ sets := h.1
theorem ZSz.s8 {sets ways eps : Nat} (h : ZSz sets ways eps) : sets ≤ 8 := h.2.1
theorem ZSz.w1 {sets ways eps : Nat} (h : ZSz sets ways eps) : 1 ≤ ways := h.2.2.1
theorem ZSz.w8 {sets ways eps : Nat} (h : ZSz sets ways eps) : ways ≤ 8 := h.2.2.2.1
theorem ZSz.e1 {sets ways eps : Nat} (h : ZSz sets ways eps) : 1 ≤ eps := h.2.2.2.2.1
theorem ZSz.e8 {sets ways eps : Nat} (h : ZSz sets ways eps) : eps ≤ 8 := h.2.2.2.2.2
abbrev ZFl (P : ZSt → Prop) (sets ways eps : Nat) (sd sf : ZSt) (id L opn H g pl : Nat) (sb se : Nat → Nat) : Prop := (H < 2) ∧ (sf (25 * H) 0 = iN g) ∧ (1 ≤ g) ∧ (sf (25 * H) 1 = iN id) ∧ (sf (25 * (1 - H)) 1 ≠ iN id ∨ n32 (sf (25 * (1 - H)) 0) < g) ∧ (n32 (sf (25 * (1 - H)) 1) ≤ id) ∧ (L < opn) ∧ (opn - 1 - L ≤ eps) ∧ (∀ k, k < 24 → n32 (sf (25 * H + 1 + k) 0) ≤ g ∧ (n32 (sf (25 * H + 1 + k) 0) = g → n32 (sf (25 * H + 1 + k) 1) ≤ L ∨ (n32 (sf (25 * H + 1 + k) 1) < opn ∧ zTrue (sets * ways) sb se (sf (25 * H + 1 + k))) ∨ (opn ≤ n32 (sf (25 * H + 1 + k) 1) ∧ sf (25 * H + 1 + k) 2 ≠ 1))) ∧ (∀ k, k < 24 → n32 (sf (25 * (1 - H) + 1 + k) 0) ≤ g + 1 ∧ (n32 (sf (25 * (1 - H) + 1 + k) 0) = g + 1 → L < n32 (sf (25 * (1 - H) + 1 + k) 1) ∧ n32 (sf (25 * (1 - H) + 1 + k) 1) < opn ∧ zTrue (sets * ways) sb se (sf (25 * (1 - H) + 1 + k)))) ∧ (∀ e, L < e → e < opn → (∃ k, k < pl ∧ n32 (sf (25 * H + 1 + k) 0) = g ∧ n32 (sf (25 * H + 1 + k) 1) = e ∧ sf (25 * H + 1 + k) 2 = 1) ∧ ∀ s, s < sets * ways → se s = e → ∃ k, k < pl ∧ n32 (sf (25 * H + 1 + k) 0) = g ∧ n32 (sf (25 * H + 1 + k) 1) = e ∧ ∃ j, j < n32 (sf (25 * H + 1 + k) 3) ∧ sf (25 * H + 1 + k) (4 + 2 * j) = iN s) ∧ (pl ≤ 24) ∧ (∀ s, s < sets * ways → 0 < se s → se s < opn → L < se s ∧ 1 ≤ sb s ∧ sb s ≤ 106 ∧ s / ways = (sb s - 1) % sets) ∧ (∀ s s', s < sets * ways → s' < sets * ways → 0 < se s → se s < opn → se s = se s' → sb s = sb s' → s = s') ∧ (∀ e, 0 < e → e < opn → (zDl se e (sets * ways)).length ≤ 16) ∧ (∀ e, L < e → e < opn → ∃ s, s < sets * ways ∧ se s = e) ∧ (∀ e, L ≤ e → e < opn → P (zVol (zDisc sd) sf sb se (sets * ways) e))
theorem ZFl.hH {P : ZSt → Prop} {sets ways eps : Nat} {sd sf : ZSt} {id L opn H g pl : Nat} {sb se : Nat → Nat} (h : ZFl P sets ways eps sd sf id L opn H g pl sb se) : H < 2 := h.1
theorem ZFl.hg {P : ZSt → Prop} {sets ways eps : Nat} {sd sf : ZSt} {id L opn H g pl : Nat} {sb se : Nat → Nat} (h : ZFl P sets ways eps sd sf id L opn H g pl sb se) : sf (25 * H) 0 = iN g := h.2.1
theorem ZFl.hg1 {P : ZSt → Prop} {sets ways eps : Nat} {sd sf : ZSt} {id L opn H g pl : Nat} {sb se : Nat → Nat} (h : ZFl P sets ways eps sd sf id L opn H g pl sb se) : 1 ≤ g := h.2.2.1
theorem ZFl.hi {P : ZSt → Prop} {sets ways eps : Nat} {sd sf : ZSt} {id L opn H g pl : Nat} {sb se : Nat → Nat} (h : ZFl P sets ways eps sd sf id L opn H g pl sb se) : sf (25 * H) 1 = iN id := h.2.2.2.1
theorem ZFl.ho {P : ZSt → Prop} {sets ways eps : Nat} {sd sf : ZSt} {id L opn H g pl : Nat} {sb se : Nat → Nat} (h : ZFl P sets ways eps sd sf id L opn H g pl sb se) : sf (25 * (1 - H)) 1 ≠ iN id ∨ n32 (sf (25 * (1 - H)) 0) < g := h.2.2.2.2.1
theorem ZFl.hj {P : ZSt → Prop} {sets ways eps : Nat} {sd sf : ZSt} {id L opn H g pl : Nat} {sb se : Nat → Nat} (h : ZFl P sets ways eps sd sf id L opn H g pl sb se) : n32 (sf (25 * (1 - H)) 1) ≤ id := h.2.2.2.2.2.1
theorem ZFl.hLo {P : ZSt → Prop} {sets ways eps : Nat} {sd sf : ZSt} {id L opn H g pl : Nat} {sb se : Nat → Nat} (h : ZFl P sets ways eps sd sf id L opn H g pl sb se) : L < opn := h.2.2.2.2.2.2.1
theorem ZFl.hE {P : ZSt → Prop} {sets ways eps : Nat} {sd sf : ZSt} {id L opn H g pl : Nat} {sb se : Nat → Nat} (h : ZFl P sets ways eps sd sf id L opn H g pl sb se) : opn - 1 - L ≤ eps := h.2.2.2.2.2.2.2.1
theorem ZFl.ha {P : ZSt → Prop} {sets ways eps : Nat} {sd sf : ZSt} {id L opn H g pl : Nat} {sb se : Nat → Nat} (h : ZFl P sets ways eps sd sf id L opn H g pl sb se) : ∀ k, k < 24 → n32 (sf (25 * H + 1 + k) 0) ≤ g ∧ (n32 (sf (25 * H + 1 + k) 0) = g → n32 (sf (25 * H + 1 + k) 1) ≤ L ∨ (n32 (sf (25 * H + 1 + k) 1) < opn ∧ zTrue (sets * ways) sb se (sf (25 * H + 1 + k))) ∨ (opn ≤ n32 (sf (25 * H + 1 + k) 1) ∧ sf (25 * H + 1 + k) 2 ≠ 1)) := h.2.2.2.2.2.2.2.2.1
theorem ZFl.hb {P : ZSt → Prop} {sets ways eps : Nat} {sd sf : ZSt} {id L opn H g pl : Nat} {sb se : Nat → Nat} (h : ZFl P sets ways eps sd sf id L opn H g pl sb se) : ∀ k, k < 24 → n32 (sf (25 * (1 - H) + 1 + k) 0) ≤ g + 1 ∧ (n32 (sf (25 * (1 - H) + 1 + k) 0) = g + 1 → L < n32 (sf (25 * (1 - H) + 1 + k) 1) ∧ n32 (sf (25 * (1 - H) + 1 + k) 1) < opn ∧ zTrue (sets * ways) sb se (sf (25 * (1 - H) + 1 + k))) := h.2.2.2.2.2.2.2.2.2.1
theorem ZFl.hc {P : ZSt → Prop} {sets ways eps : Nat} {sd sf : ZSt} {id L opn H g pl : Nat} {sb se : Nat → Nat} (h : ZFl P sets ways eps sd sf id L opn H g pl sb se) : ∀ e, L < e → e < opn → (∃ k, k < pl ∧ n32 (sf (25 * H + 1 + k) 0) = g ∧ n32 (sf (25 * H + 1 + k) 1) = e ∧ sf (25 * H + 1 + k) 2 = 1) ∧ ∀ s, s < sets * ways → se s = e → ∃ k, k < pl ∧ n32 (sf (25 * H + 1 + k) 0) = g ∧ n32 (sf (25 * H + 1 + k) 1) = e ∧ ∃ j, j < n32 (sf (25 * H + 1 + k) 3) ∧ sf (25 * H + 1 + k) (4 + 2 * j) = iN s := h.2.2.2.2.2.2.2.2.2.2.1
theorem ZFl.hpl {P : ZSt → Prop} {sets ways eps : Nat} {sd sf : ZSt} {id L opn H g pl : Nat} {sb se : Nat → Nat} (h : ZFl P sets ways eps sd sf id L opn H g pl sb se) : pl ≤ 24 := h.2.2.2.2.2.2.2.2.2.2.2.1
theorem ZFl.tb {P : ZSt → Prop} {sets ways eps : Nat} {sd sf : ZSt} {id L opn H g pl : Nat} {sb se : Nat → Nat} (h : ZFl P sets ways eps sd sf id L opn H g pl sb se) : ∀ s, s < sets * ways → 0 < se s → se s < opn → L < se s ∧ 1 ≤ sb s ∧ sb s ≤ 106 ∧ s / ways = (sb s - 1) % sets := h.2.2.2.2.2.2.2.2.2.2.2.2.1
theorem ZFl.tu {P : ZSt → Prop} {sets ways eps : Nat} {sd sf : ZSt} {id L opn H g pl : Nat} {sb se : Nat → Nat} (h : ZFl P sets ways eps sd sf id L opn H g pl sb se) : ∀ s s', s < sets * ways → s' < sets * ways → 0 < se s → se s < opn → se s = se s' → sb s = sb s' → s = s' := h.2.2.2.2.2.2.2.2.2.2.2.2.2.1
theorem ZFl.tc {P : ZSt → Prop} {sets ways eps : Nat} {sd sf : ZSt} {id L opn H g pl : Nat} {sb se : Nat → Nat} (h : ZFl P sets ways eps sd sf id L opn H g pl sb se) : ∀ e, 0 < e → e < opn → (zDl se e (sets * ways)).length ≤ 16 := h.2.2.2.2.2.2.2.2.2.2.2.2.2.2.1
theorem ZFl.te {P : ZSt → Prop} {sets ways eps : Nat} {sd sf : ZSt} {id L opn H g pl : Nat} {sb se : Nat → Nat} (h : ZFl P sets ways eps sd sf id L opn H g pl sb se) : ∀ e, L < e → e < opn → ∃ s, s < sets * ways ∧ se s = e := h.2.2.2.2.2.2.2.2.2.2.2.2.2.2.2.1
theorem ZFl.vp {P : ZSt → Prop} {sets ways eps : Nat} {sd sf : ZSt} {id L opn H g pl : Nat} {sb se : Nat → Nat} (h : ZFl P sets ways eps sd sf id L opn H g pl sb se) : ∀ e, L ≤ e → e < opn → P (zVol (zDisc sd) sf sb se (sets * ways) e) := h.2.2.2.2.2.2.2.2.2.2.2.2.2.2.2.2
theorem ZFl.mono {P P' : ZSt → Prop} {sets ways eps : Nat} {sd sf : ZSt} {id L opn H g pl : Nat} {sb se : Nat → Nat} (h : ZFl P sets ways eps sd sf id L opn H g pl sb se) (hP : ∀ V, P V → P' V) : ZFl P' sets ways eps sd sf id L opn H g pl sb se := ⟨h.hH, h.hg, h.hg1, h.hi, h.ho, h.hj, h.hLo, h.hE, h.ha, h.hb, h.hc, h.hpl, h.tb, h.tu, h.tc, h.te, fun e h1 h2 => hP _ (h.vp e h1 h2)⟩
/-- a flash that does not count -/
def zF0 (sf : ZSt) (id : Nat) : Prop := ∀ h, h < 2 → n32 (sf (25 * h) 1) < id
/-- a new flash of the next identity -/
def zFp (sf : ZSt) (id : Nat) : Prop := sf 0 0 = 1 ∧ sf 0 1 = iN (id + 1) ∧ sf 25 1 = 0 ∧ ∀ k, k < 24 → sf (1 + k) 0 = 0 ∧ sf (26 + k) 0 = 0
/-- what a mount can begin with -/
def zOK (P : Nat → ZSt → Prop) (sets ways eps m : Nat) (sd sf : ZSt) : Prop := ∃ id L, ZHead sd id L ∧ id ≤ m ∧ L < m ∧ P m (zDisc sd) ∧ (zF0 sf id ∨ zFp sf id ∨ ∃ opn H g sb se, opn ≤ m ∧ g ≤ m ∧ (∀ s, s < sets * ways → se s < opn) ∧ ZFl (P m) sets ways eps sd sf id L opn H g 24 sb se)
/-- it is down, and can be mounted -/
abbrev ZDn (P : Nat → ZSt → Prop) (v : ZVs) : Prop := (v.p.up = false) ∧ (v.p.lim = 0) ∧ (ZSz v.sets v.ways v.eps) ∧ (∀ k, k < 2 → (v.p.dv k).pd = []) ∧ (zOK P v.sets v.ways v.eps (v.p.na + 1) (v.p.dv 0).st (v.p.dv 1).st)
theorem ZDn.up {P : Nat → ZSt → Prop} {v : ZVs} (h : ZDn P v) : v.p.up = false := h.1
theorem ZDn.lim {P : Nat → ZSt → Prop} {v : ZVs} (h : ZDn P v) : v.p.lim = 0 := h.2.1
theorem ZDn.sz {P : Nat → ZSt → Prop} {v : ZVs} (h : ZDn P v) : ZSz v.sets v.ways v.eps := h.2.2.1
theorem ZDn.pd {P : Nat → ZSt → Prop} {v : ZVs} (h : ZDn P v) : ∀ k, k < 2 → (v.p.dv k).pd = [] := h.2.2.2.1
theorem ZDn.ok {P : Nat → ZSt → Prop} {v : ZVs} (h : ZDn P v) : zOK P v.sets v.ways v.eps (v.p.na + 1) (v.p.dv 0).st (v.p.dv 1).st := h.2.2.2.2
/-- it is up with this, or down -/
def ZOk (P : Nat → ZSt → Prop) (A : ZVs → Prop) (v : ZVs) : Prop := (v.p.up = true ∧ A v) ∨ ZDn P v
/-- an act while all that a crash may leave can be mounted -/
abbrev ZCr (P : Nat → ZSt → Prop) (v : ZVs) : Prop := (v.p.up = true) ∧ (ZSz v.sets v.ways v.eps) ∧ (∀ sd sf, (v.p.dv 0).out sd → (v.p.dv 1).out sf → zOK P v.sets v.ways v.eps (v.p.na + 1) sd sf)
theorem ZCr.up {P : Nat → ZSt → Prop} {v : ZVs} (h : ZCr P v) : v.p.up = true := h.1
theorem ZCr.sz {P : Nat → ZSt → Prop} {v : ZVs} (h : ZCr P v) : ZSz v.sets v.ways v.eps := h.2.1
theorem ZCr.ok {P : Nat → ZSt → Prop} {v : ZVs} (h : ZCr P v) : ∀ sd sf, (v.p.dv 0).out sd → (v.p.dv 1).out sf → zOK P v.sets v.ways v.eps (v.p.na + 1) sd sf := h.2.2
section
theorem zOK_mono {P : Nat → ZSt → Prop} (hP : ∀ m m' V, m ≤ m' → P m V → P m' V) {sets ways eps m m' : Nat} {sd sf : ZSt} (hm : m ≤ m') (h : zOK P sets ways eps m sd sf) : zOK P sets ways eps m' sd sf := by
  obtain ⟨id, L, h1, h2, h3, h4, h5⟩ := h
  refine ⟨id, L, h1, by omega, by omega, hP _ _ _ hm h4, ?_⟩
  rcases h5 with h5 | h5 | ⟨opn, H, g, sb, se, h6, h7, h8, h9⟩
  · exact Or.inl h5
  · exact Or.inr (Or.inl h5)
  · exact Or.inr (Or.inr ⟨opn, H, g, sb, se, by omega, by omega, h8, h9.mono (fun V q => hP _ _ V hm q)⟩)
theorem ZCr.goes {P : Nat → ZSt → Prop} (hP : ∀ m m' V, m ≤ m' → P m V → P m' V) {v : ZVs} (h : ZCr P v) (m : Int64) (c : Nat) (u : ZVs) (hu : u.p = (ZPw.s_na (v.p.goes m) (v.p.na + c))) (hs : u.sets = v.sets ∧ u.ways = v.ways ∧ u.eps = v.eps) : ZDn P u := by
  refine ⟨by rw [hu]; rfl, by rw [hu]; rfl, by rw [hs.1, hs.2.1, hs.2.2]; exact h.sz, fun k _ => by rw [hu]; rfl, ?_⟩
  rw [hu, hs.1, hs.2.1, hs.2.2]
  exact zOK_mono hP (show v.p.na + 1 ≤ v.p.na + c + 1 by omega) (h.ok _ _ (ZDv.out_go _ m) (ZDv.out_go _ m))
theorem ZCr.wr {P : Nat → ZSt → Prop} (hP : ∀ m m' V, m ≤ m' → P m V → P m' V) {v : ZVs} (h : ZCr P v) (k b : Nat) (x : ZBk) : (v.p.lim ≠ 1 ∧ v.wr k b x = (ZVs.s_p v (ZPw.mk (zu v.p.dv k ((v.p.dv k).add b x)) (ZPw.up v.p) (v.p.lim - 1) (ZPw.msk v.p) (v.p.na + 1)))) ∨ ZDn P (v.wr k b x) := by
  rcases ZPw.wr_cases h.up k b x with ⟨h1, h2⟩ | ⟨h1, h2⟩
  · right; exact h.goes hP v.p.msk 1 _ h2 ⟨rfl, rfl, rfl⟩
  · left; refine ⟨h1, ?_⟩; unfold ZVs.wr; rw [h2]
theorem ZCr.fl {P : Nat → ZSt → Prop} (hP : ∀ m m' V, m ≤ m' → P m V → P m' V) {v : ZVs} (h : ZCr P v) (k : Nat) : (v.p.lim ≠ 1 ∧ v.fl k = (ZVs.s_p v (ZPw.mk (zu v.p.dv k (v.p.dv k).flush) (ZPw.up v.p) (v.p.lim - 1) (ZPw.msk v.p) (v.p.na + 1)))) ∨ ZDn P (v.fl k) := by
  rcases ZPw.fl_cases h.up k with ⟨h1, h2⟩ | ⟨h1, h2⟩
  · right; exact h.goes hP v.p.msk 1 _ h2 ⟨rfl, rfl, rfl⟩
  · left; refine ⟨h1, ?_⟩; unfold ZVs.fl; rw [h2]
end
theorem ZDn.of_p {P : Nat → ZSt → Prop} {v u : ZVs} (h : ZDn P v) (hp : u.p = v.p) (hs : u.sets = v.sets ∧ u.ways = v.ways ∧ u.eps = v.eps) : ZDn P u := by
  refine ⟨by rw [hp]; exact h.up, by rw [hp]; exact h.lim, by rw [hs.1, hs.2.1, hs.2.2]; exact h.sz, by rw [hp]; exact h.pd, ?_⟩
  rw [hp, hs.1, hs.2.1, hs.2.2]; exact h.ok
/-! FRAMES: what an operation leaves, what it does while the power is gone, how many acts it has. -/
abbrev ZFr (c : Nat) (v u : ZVs) : Prop := (u.sets = v.sets) ∧ (u.ways = v.ways) ∧ (u.eps = v.eps) ∧ (u.wf = v.wf) ∧ (v.p.up = false → u.p = v.p) ∧ (v.p.na ≤ u.p.na) ∧ (u.p.na ≤ v.p.na + c)
theorem ZFr.s {c : Nat} {v u : ZVs} (h : ZFr c v u) : u.sets = v.sets := h.1
theorem ZFr.w {c : Nat} {v u : ZVs} (h : ZFr c v u) : u.ways = v.ways := h.2.1
theorem ZFr.e {c : Nat} {v u : ZVs} (h : ZFr c v u) : u.eps = v.eps := h.2.2.1
theorem ZFr.wf {c : Nat} {v u : ZVs} (h : ZFr c v u) : u.wf = v.wf := h.2.2.2.1
theorem ZFr.dn {c : Nat} {v u : ZVs} (h : ZFr c v u) : v.p.up = false → u.p = v.p := h.2.2.2.2.1
theorem ZFr.n1 {c : Nat} {v u : ZVs} (h : ZFr c v u) : v.p.na ≤ u.p.na := h.2.2.2.2.2.1
theorem ZFr.n2 {c : Nat} {v u : ZVs} (h : ZFr c v u) : u.p.na ≤ v.p.na + c := h.2.2.2.2.2.2
theorem ZFr.refl (v : ZVs) : ZFr 0 v v := ⟨rfl, rfl, rfl, rfl, fun _ => rfl, Nat.le_refl _, Nat.le_refl _⟩
theorem ZFr.of_p {v u : ZVs} (hp : u.p = v.p) (hs : u.sets = v.sets) (hw : u.ways = v.ways) (he : u.eps = v.eps) (hf : u.wf = v.wf) : ZFr 0 v u := ⟨hs, hw, he, hf, fun _ => hp, by rw [hp]; omega, by rw [hp]; omega⟩
theorem ZFr.trans {c c' : Nat} {v u w : ZVs} (h1 : ZFr c v u) (h2 : ZFr c' u w) : ZFr (c + c') v w := by
  refine ⟨h2.s.trans h1.s, h2.w.trans h1.w, h2.e.trans h1.e, h2.wf.trans h1.wf, fun h => ?_, Nat.le_trans h1.n1 h2.n1, ?_⟩
  · have h3 := h1.dn h
    rw [h2.dn (by rw [h3]; exact h), h3]
  · have := h1.n2; have := h2.n2; omega
theorem ZFr.mono {c c' : Nat} {v u : ZVs} (h1 : ZFr c v u) (h : c ≤ c') : ZFr c' v u := ⟨h1.s, h1.w, h1.e, h1.wf, h1.dn, h1.n1, by have := h1.n2; omega⟩
theorem ZFr.down {c : Nat} {v u : ZVs} (h1 : ZFr c v u) (h : v.p.up = false) : u.p.up = false := by rw [h1.dn h]; exact h
theorem ZFr.dnn {c : Nat} {v u : ZVs} {P : Nat → ZSt → Prop} (h1 : ZFr c v u) (h : ZDn P v) : ZDn P u := h.of_p (h1.dn h.up) ⟨h1.s, h1.w, h1.e⟩
theorem ZFr.sz {c : Nat} {v u : ZVs} (h1 : ZFr c v u) (h : ZSz v.sets v.ways v.eps) : ZSz u.sets u.ways u.eps := by rw [h1.s, h1.w, h1.e]; exact h
theorem ZSz.n64 {s w e : Nat} (h : ZSz s w e) : s * w ≤ 64 := Nat.mul_le_mul h.s8 h.w8
theorem zfr_wr (v : ZVs) (k b : Nat) (x : ZBk) : ZFr 1 v (v.wr k b x) := by
  have := v.p.na_wr k b x
  exact ⟨rfl, rfl, rfl, rfl, fun h => ZPw.wr_down h k b x, this.1, this.2⟩
theorem zfr_fl (v : ZVs) (k : Nat) : ZFr 1 v (v.fl k) := by
  have := v.p.na_fl k
  exact ⟨rfl, rfl, rfl, rfl, fun h => ZPw.fl_down h k, this.1, this.2⟩
theorem zfr_find (set : Nat) : ∀ (k : Nat) (v : ZVs), ZFr 0 v (ZVs.find set k v).2 ∧ (ZVs.find set k v).2.p = v.p ∧ (ZVs.find set k v).2.opn = v.opn ∧ (ZVs.find set k v).2.half = v.half ∧ (ZVs.find set k v).2.gen = v.gen ∧ (ZVs.find set k v).2.plc = v.plc ∧ (ZVs.find set k v).2.se = v.se := by
  intro k
  induction k with
  | zero => intro v; exact ⟨ZFr.refl v, rfl, rfl, rfl, rfl, rfl, rfl⟩
  | succ k ih =>
    intro v
    unfold ZVs.find
    split
    · obtain ⟨h1, h2, h3⟩ := ih (ZVs.s_hd v (zu v.hd set ((v.hd set + 1) % v.ways)))
      exact ⟨ZFr.of_p h2 h1.s h1.w h1.e h1.wf, h2, h3⟩
    · split
      · exact ⟨ZFr.of_p rfl rfl rfl rfl rfl, rfl, rfl, rfl, rfl, rfl, rfl⟩
      · obtain ⟨h1, h2, h3⟩ := ih (ZVs.mk (ZVs.p v) (ZVs.sets v) (ZVs.ways v) (ZVs.eps v) (ZVs.wf v) (ZVs.sb v) (ZVs.se v) (zu v.mrk (set * v.ways + v.hd set) false) (zu v.hd set ((v.hd set + 1) % v.ways)) (ZVs.opn v) (ZVs.half v) (ZVs.gen v) (ZVs.plc v))
        exact ⟨ZFr.of_p h2 h1.s h1.w h1.e h1.wf, h2, h3⟩
theorem zfr_claim (v : ZVs) (b : Nat) : ZFr 0 v (v.claim b).2 ∧ (v.claim b).2.p = v.p ∧ (v.claim b).2.opn = v.opn ∧ (v.claim b).2.half = v.half ∧ (v.claim b).2.gen = v.gen ∧ (v.claim b).2.plc = v.plc ∧ (v.claim b).2.se = v.se := by
  unfold ZVs.claim
  split
  · exact ⟨ZFr.refl v, rfl, rfl, rfl, rfl, rfl, rfl⟩
  · exact zfr_find _ _ v
/-- slots, epochs as they were -/
abbrev ZSm (v u : ZVs) : Prop := (u.sb = v.sb) ∧ (u.se = v.se) ∧ (u.mrk = v.mrk) ∧ (u.hd = v.hd) ∧ (u.opn = v.opn)
theorem ZSm.sb {v u : ZVs} (h : ZSm v u) : u.sb = v.sb := h.1
theorem ZSm.se {v u : ZVs} (h : ZSm v u) : u.se = v.se := h.2.1
theorem ZSm.mrk {v u : ZVs} (h : ZSm v u) : u.mrk = v.mrk := h.2.2.1
theorem ZSm.hd {v u : ZVs} (h : ZSm v u) : u.hd = v.hd := h.2.2.2.1
theorem ZSm.opn {v u : ZVs} (h : ZSm v u) : u.opn = v.opn := h.2.2.2.2
theorem ZSm.refl (v : ZVs) : ZSm v v := ⟨rfl, rfl, rfl, rfl, rfl⟩
theorem ZSm.trans {v u w : ZVs} (h1 : ZSm v u) (h2 : ZSm u w) : ZSm v w := ⟨h2.sb.trans h1.sb, h2.se.trans h1.se, h2.mrk.trans h1.mrk, h2.hd.trans h1.hd, h2.opn.trans h1.opn⟩
theorem zfr_recs (e : Nat) (cl : Bool) : ∀ (k : Nat) (l : List Nat) (v : ZVs), ZFr (3 * k) v (ZVs.recs e cl k l v) ∧ ZSm v (ZVs.recs e cl k l v) ∧ (ZVs.recs e cl k l v).gen = v.gen ∧ (ZVs.recs e cl k l v).half = v.half := by
  intro k
  induction k with
  | zero => intro l v; exact ⟨ZFr.refl v, ZSm.refl v, rfl, rfl⟩
  | succ k ih =>
    intro l v
    unfold ZVs.recs
    split
    · exact ⟨(ZFr.refl v).mono (by omega), ZSm.refl v, rfl, rfl⟩
    · dsimp only
      have key : ∀ v3 : ZVs, ZFr 3 v v3 → ZSm v v3 → v3.gen = v.gen → v3.half = v.half → ZFr (3 * (k + 1)) v (ZVs.recs e cl k (l.drop 6) (ZVs.s_plc v3 (v.plc + 1))) ∧ ZSm v (ZVs.recs e cl k (l.drop 6) (ZVs.s_plc v3 (v.plc + 1))) ∧ (ZVs.recs e cl k (l.drop 6) (ZVs.s_plc v3 (v.plc + 1))).gen = v.gen ∧ (ZVs.recs e cl k (l.drop 6) (ZVs.s_plc v3 (v.plc + 1))).half = v.half := by
        intro v3 h1 h2 h3 h4
        obtain ⟨i1, i2, i3, i4⟩ := ih (l.drop 6) (ZVs.s_plc v3 (v.plc + 1))
        have hf : ZFr 0 v3 (ZVs.s_plc v3 (v.plc + 1)) := ZFr.of_p rfl rfl rfl rfl rfl
        exact ⟨((h1.trans hf).trans i1).mono (by omega), ⟨i2.sb.trans h2.sb, i2.se.trans h2.se, i2.mrk.trans h2.mrk, i2.hd.trans h2.hd, i2.opn.trans h2.opn⟩, i3.trans h3, i4.trans h4⟩
      cases hc : (decide (l.length ≤ 6) && cl) with
      | true =>
        simp only [if_true]
        exact key _ (((zfr_fl v 1).trans (zfr_wr _ _ _ _)).trans (zfr_fl _ 1)) ⟨rfl, rfl, rfl, rfl, rfl⟩ rfl rfl
      | false =>
        simp only [Bool.false_eq_true, if_false]
        exact key _ ((zfr_wr v _ _ _).mono (by omega)) ⟨rfl, rfl, rfl, rfl, rfl⟩ rfl rfl
theorem zfr_recsAll (e : Nat) (cl : Bool) (v : ZVs) : ZFr 33 v (ZVs.recsAll e cl v) ∧ ZSm v (ZVs.recsAll e cl v) ∧ (ZVs.recsAll e cl v).gen = v.gen ∧ (ZVs.recsAll e cl v).half = v.half := zfr_recs e cl 11 _ v
theorem zfr_recsTo : ∀ (k e : Nat) (v : ZVs), ZFr (33 * k) v (ZVs.recsTo k e v) ∧ ZSm v (ZVs.recsTo k e v) ∧ (ZVs.recsTo k e v).gen = v.gen ∧ (ZVs.recsTo k e v).half = v.half := by
  intro k
  induction k with
  | zero => intro e v; exact ⟨ZFr.refl v, ZSm.refl v, rfl, rfl⟩
  | succ k ih =>
    intro e v
    obtain ⟨h1, h2, h3, h4⟩ := zfr_recsAll e false v
    obtain ⟨i1, i2, i3, i4⟩ := ih (e + 1) (ZVs.recsAll e false v)
    exact ⟨(h1.trans i1).mono (by omega), h2.trans i2, i3.trans h3, i4.trans h4⟩
theorem zfr_changeHalves (v : ZVs) : ZFr 267 v v.changeHalves ∧ ZSm v v.changeHalves := by
  unfold ZVs.changeHalves
  have h0 : ZFr 0 v (ZVs.mk (ZVs.p v) (ZVs.sets v) (ZVs.ways v) (ZVs.eps v) (ZVs.wf v) (ZVs.sb v) (ZVs.se v) (ZVs.mrk v) (ZVs.hd v) (ZVs.opn v) (1 - v.half) (v.gen + 1) 0) := ZFr.of_p rfl rfl rfl rfl rfl
  obtain ⟨h1, h2, _, _⟩ := zfr_recsTo (min 8 (v.opn - (v.landed + 1))) (v.landed + 1) (ZVs.mk (ZVs.p v) (ZVs.sets v) (ZVs.ways v) (ZVs.eps v) (ZVs.wf v) (ZVs.sb v) (ZVs.se v) (ZVs.mrk v) (ZVs.hd v) (ZVs.opn v) (1 - v.half) (v.gen + 1) 0)
  have h3 : min 8 (v.opn - (v.landed + 1)) ≤ 8 := Nat.min_le_left _ _
  have h4 : ZSm v (ZVs.recsTo (min 8 (v.opn - (v.landed + 1))) (v.landed + 1) (ZVs.mk (ZVs.p v) (ZVs.sets v) (ZVs.ways v) (ZVs.eps v) (ZVs.wf v) (ZVs.sb v) (ZVs.se v) (ZVs.mrk v) (ZVs.hd v) (ZVs.opn v) (1 - v.half) (v.gen + 1) 0)) := ⟨h2.sb, h2.se, h2.mrk, h2.hd, h2.opn⟩
  have h5 := (h0.trans h1).mono (c' := 264) (by omega)
  dsimp only
  clear h0 h1 h2
  generalize ZVs.recsTo (min 8 (v.opn - (v.landed + 1))) (v.landed + 1) (ZVs.mk (ZVs.p v) (ZVs.sets v) (ZVs.ways v) (ZVs.eps v) (ZVs.wf v) (ZVs.sb v) (ZVs.se v) (ZVs.mrk v) (ZVs.hd v) (ZVs.opn v) (1 - v.half) (v.gen + 1) 0) = w at *
  have h6 := ((zfr_fl w 1).trans (zfr_wr (w.fl 1) 1 (25 * (w.fl 1).half) (zThree (w.fl 1).gen (n32 ((w.fl 1).dn 0 0)) 0))).trans (zfr_fl _ 1)
  exact ⟨h5.trans h6, ⟨h4.sb, h4.se, h4.mrk, h4.hd, h4.opn⟩⟩
/-- all but the devices as it was -/
abbrev ZSame (v u : ZVs) : Prop := ZSm v u ∧ (u.gen = v.gen) ∧ (u.half = v.half) ∧ (u.plc = v.plc)
theorem ZSame.toZSm {v u : ZVs} (h : ZSame v u) : ZSm v u := h.1
theorem ZSame.gen {v u : ZVs} (h : ZSame v u) : u.gen = v.gen := h.2.1
theorem ZSame.half {v u : ZVs} (h : ZSame v u) : u.half = v.half := h.2.2.1
theorem ZSame.plc {v u : ZVs} (h : ZSame v u) : u.plc = v.plc := h.2.2.2
theorem ZSame.sb {v u : ZVs} (h : ZSame v u) : u.sb = v.sb := h.1.sb
theorem ZSame.se {v u : ZVs} (h : ZSame v u) : u.se = v.se := h.1.se
theorem ZSame.mrk {v u : ZVs} (h : ZSame v u) : u.mrk = v.mrk := h.1.mrk
theorem ZSame.hd {v u : ZVs} (h : ZSame v u) : u.hd = v.hd := h.1.hd
theorem ZSame.opn {v u : ZVs} (h : ZSame v u) : u.opn = v.opn := h.1.opn
theorem ZSame.refl (v : ZVs) : ZSame v v := ⟨ZSm.refl v, rfl, rfl, rfl⟩
theorem ZSame.trans {v u w : ZVs} (h1 : ZSame v u) (h2 : ZSame u w) : ZSame v w := ⟨h1.toZSm.trans h2.toZSm, h2.gen.trans h1.gen, h2.half.trans h1.half, h2.plc.trans h1.plc⟩
theorem zsame_wr (v : ZVs) (k b : Nat) (x : ZBk) : ZSame v (v.wr k b x) := ⟨⟨rfl, rfl, rfl, rfl, rfl⟩, rfl, rfl, rfl⟩
theorem zsame_fl (v : ZVs) (k : Nat) : ZSame v (v.fl k) := ⟨⟨rfl, rfl, rfl, rfl, rfl⟩, rfl, rfl, rfl⟩
theorem zfr_wrCopies : ∀ (l : List Nat) (j : Nat) (v : ZVs), ZFr l.length v (ZVs.wrCopies l j v) ∧ ZSame v (ZVs.wrCopies l j v) := by
  intro l
  induction l with
  | nil => intro j v; exact ⟨ZFr.refl v, ZSame.refl v⟩
  | cons s l ih =>
    intro j v
    obtain ⟨h1, h2⟩ := ih (j + 1) (v.wr 0 (3 + j) (v.fn (50 + s)))
    exact ⟨((zfr_wr v _ _ _).trans h1).mono (by simp; omega), (zsame_wr _ _ _ _).trans h2⟩
theorem zfr_wrHomes : ∀ (l : List Nat) (v : ZVs), ZFr l.length v (ZVs.wrHomes l v) ∧ ZSame v (ZVs.wrHomes l v) := by
  intro l
  induction l with
  | nil => intro v; exact ⟨ZFr.refl v, ZSame.refl v⟩
  | cons s l ih =>
    intro v
    obtain ⟨h1, h2⟩ := ih (v.wr 0 (19 + (v.sb s - 1)) (v.fn (50 + s)))
    exact ⟨((zfr_wr v _ _ _).trans h1).mono (by simp; omega), (zsame_wr _ _ _ _).trans h2⟩
theorem zfr_wrRedo : ∀ (k j : Nat) (v : ZVs), ZFr k v (ZVs.wrRedo k j v) ∧ ZSame v (ZVs.wrRedo k j v) := by
  intro k
  induction k with
  | zero => intro j v; exact ⟨ZFr.refl v, ZSame.refl v⟩
  | succ k ih =>
    intro j v
    obtain ⟨h1, h2⟩ := ih (j + 1) (v.wr 0 (19 + n32 (v.dn 2 j)) (v.dn (3 + j)))
    exact ⟨((zfr_wr v _ _ _).trans h1).mono (by omega), (zsame_wr _ _ _ _).trans h2⟩
theorem zfr_setLanded (e : Nat) : ∀ (i : Nat) (v : ZVs), ZFr 0 v (ZVs.setLanded e i v) ∧ (ZVs.setLanded e i v).p = v.p ∧ (ZVs.setLanded e i v).opn = v.opn ∧ (ZVs.setLanded e i v).gen = v.gen ∧ (ZVs.setLanded e i v).half = v.half ∧ (ZVs.setLanded e i v).plc = v.plc ∧ (ZVs.setLanded e i v).hd = v.hd := by
  intro i
  induction i with
  | zero => intro v; exact ⟨ZFr.refl v, rfl, rfl, rfl, rfl, rfl, rfl⟩
  | succ i ih =>
    intro v
    obtain ⟨h1, h2, h3⟩ := ih v
    unfold ZVs.setLanded
    dsimp only
    split
    · split
      · exact ⟨ZFr.of_p h2 h1.s h1.w h1.e h1.wf, h2, h3⟩
      · split
        · exact ⟨ZFr.of_p h2 h1.s h1.w h1.e h1.wf, h2, h3⟩
        · exact ⟨ZFr.of_p h2 h1.s h1.w h1.e h1.wf, h2, h3⟩
    · exact ⟨h1, h2, h3⟩
theorem zIns_len (sb : Nat → Nat) (s : Nat) (l : List Nat) : (zIns sb s l).length = l.length + 1 := by
  induction l with
  | nil => rfl
  | cons t l ih => unfold zIns; split <;> simp [ih]
theorem zSort_len (sb : Nat → Nat) (l : List Nat) : (zSort sb l).length = l.length := by
  induction l with
  | nil => rfl
  | cons t l ih => unfold zSort; rw [zIns_len, ih]; rfl
theorem zDl_len (se : Nat → Nat) (e n : Nat) : (zDl se e n).length ≤ n := by
  unfold zDl
  exact Nat.le_trans (List.length_filter_le _ _) (by simp)
theorem zfr_landOf (e : Nat) (v : ZVs) (hz : ZSz v.sets v.ways v.eps) : ZFr 135 v (ZVs.landOf e v) ∧ (ZVs.landOf e v).opn = v.opn ∧ (ZVs.landOf e v).gen = v.gen ∧ (ZVs.landOf e v).half = v.half ∧ (ZVs.landOf e v).plc = v.plc ∧ (ZVs.landOf e v).hd = v.hd := by
  unfold ZVs.landOf
  dsimp only
  have hl : (zSort v.sb (v.dl e)).length ≤ 64 := by rw [zSort_len]; exact Nat.le_trans (zDl_len _ _ _) hz.n64
  generalize zSort v.sb (v.dl e) = l at hl
  obtain ⟨h1, g1⟩ := zfr_wrCopies l 0 v
  generalize ZVs.wrCopies l 0 v = v1 at *
  have h2 : ZFr 2 v1 ((v1.wr 0 2 (zList l v.sb)).fl 0) := (zfr_wr v1 _ _ _).trans (zfr_fl _ _)
  have g2 : ZSame v1 ((v1.wr 0 2 (zList l v.sb)).fl 0) := (zsame_wr _ _ _ _).trans (zsame_fl _ _)
  generalize (v1.wr 0 2 (zList l v.sb)).fl 0 = v2 at *
  have h3 : ZFr 2 v2 ((v2.wr 0 1 (zThree 1 e l.length)).fl 0) := (zfr_wr v2 _ _ _).trans (zfr_fl _ _)
  have g3 : ZSame v2 ((v2.wr 0 1 (zThree 1 e l.length)).fl 0) := (zsame_wr _ _ _ _).trans (zsame_fl _ _)
  generalize (v2.wr 0 1 (zThree 1 e l.length)).fl 0 = v3 at *
  obtain ⟨h4, g4⟩ := zfr_wrHomes l v3
  generalize ZVs.wrHomes l v3 = v4 at *
  have h5 : ZFr 3 v4 (((v4.fl 0).wr 0 1 (zThree 0 e 0)).fl 0) := ((zfr_fl v4 0).trans (zfr_wr _ _ _ _)).trans (zfr_fl _ _)
  have g5 : ZSame v4 (((v4.fl 0).wr 0 1 (zThree 0 e 0)).fl 0) := ((zsame_fl _ _).trans (zsame_wr _ _ _ _)).trans (zsame_fl _ _)
  generalize ((v4.fl 0).wr 0 1 (zThree 0 e 0)).fl 0 = v5 at *
  obtain ⟨h6, _, i3, i4, i5, i6, i7⟩ := zfr_setLanded e v5.n v5
  have g := (((g1.trans g2).trans g3).trans g4).trans g5
  exact ⟨(((((h1.trans h2).trans h3).trans h4).trans h5).trans h6).mono (by omega), i3.trans g.opn, i4.trans g.gen, i5.trans g.half, i6.trans g.plc, i7.trans g.hd⟩
theorem zfr_land1 (v : ZVs) (hz : ZSz v.sets v.ways v.eps) : ZFr 135 v v.land1.2 ∧ v.land1.2.opn = v.opn ∧ v.land1.2.gen = v.gen ∧ v.land1.2.half = v.half ∧ v.land1.2.plc = v.plc ∧ v.land1.2.hd = v.hd := by
  unfold ZVs.land1
  split
  · exact zfr_landOf _ v hz
  · exact ⟨(ZFr.refl v).mono (by omega), rfl, rfl, rfl, rfl, rfl⟩
theorem zfr_landIf (v : ZVs) (hz : ZSz v.sets v.ways v.eps) : ZFr 135 v v.landIf ∧ v.landIf.opn = v.opn ∧ v.landIf.gen = v.gen ∧ v.landIf.half = v.half ∧ v.landIf.plc = v.plc ∧ v.landIf.hd = v.hd := by
  unfold ZVs.landIf
  split
  · exact zfr_land1 v hz
  · exact ⟨(ZFr.refl v).mono (by omega), rfl, rfl, rfl, rfl, rfl⟩
theorem zfr_close (v : ZVs) (hz : ZSz v.sets v.ways v.eps) : ZFr 435 v v.close := by
  unfold ZVs.close
  split
  · exact (ZFr.refl v).mono (by omega)
  · dsimp only
    have h1 := (zfr_landIf v hz).1
    generalize v.landIf = v1 at *
    split
    · exact h1.mono (by omega)
    · have h2 : ZFr 267 v1 (if 24 - v1.plc < (v.dirty v.opn + 5) / 6 then v1.changeHalves else v1) := by
        split
        · exact (zfr_changeHalves v1).1
        · exact (ZFr.refl v1).mono (by omega)
      generalize (if 24 - v1.plc < (v.dirty v.opn + 5) / 6 then v1.changeHalves else v1) = v2 at *
      have h3 := (zfr_recsAll v2.opn true v2).1
      generalize ZVs.recsAll v2.opn true v2 = v3 at *
      have h4 : ZFr 0 v3 (ZVs.s_opn v3 (v3.opn + 1)) := ZFr.of_p rfl rfl rfl rfl rfl
      exact ((h1.trans h2).trans h3).trans h4
theorem zfr_claimLoop (b : Nat) : ∀ (k : Nat) (o : Option Nat) (v : ZVs), ZSz v.sets v.ways v.eps → ZFr (570 * k) v (ZVs.claimLoop b k (o, v)).2 := by
  intro k
  induction k with
  | zero => intro o v hz; exact ZFr.refl v
  | succ k ih =>
    intro o v hz
    cases o with
    | some i => exact (ZFr.refl v).mono (by omega)
    | none =>
      unfold ZVs.claimLoop
      split
      · exact (ZFr.refl v).mono (by omega)
      · dsimp only
        have h1 : ZFr 435 v (@ite _ (v.hasClosed (b % v.sets)) (Classical.propDecidable _) v v.close) := by
          split
          · exact (ZFr.refl v).mono (by omega)
          · exact zfr_close v hz
        generalize (@ite _ (v.hasClosed (b % v.sets)) (Classical.propDecidable _) v v.close) = v1 at *
        have h2 := (zfr_land1 v1 (h1.sz hz)).1
        generalize v1.land1.2 = v2 at *
        have h3 := (zfr_claim v2 b).1
        have h4 := ih (v2.claim b).1 (v2.claim b).2 (((h1.trans h2).trans h3).sz hz)
        exact (((h1.trans h2).trans h3).trans h4).mono (by omega)
theorem zfr_wrNew (v : ZVs) (b : Nat) (x : ZBk) (hz : ZSz v.sets v.ways v.eps) : ZFr 7276 v (ZVs.wrNew v b x) := by
  unfold ZVs.wrNew
  dsimp only
  have h1 : ZFr 435 v (if v.dirty v.opn = 16 then v.close else v) := by
    split
    · exact zfr_close v hz
    · exact (ZFr.refl v).mono (by omega)
  generalize (if v.dirty v.opn = 16 then v.close else v) = v1 at *
  have h2 := (zfr_claim v1 b).1
  have h3 := zfr_claimLoop b 12 (v1.claim b).1 (v1.claim b).2 ((h1.trans h2).sz hz)
  rw [Prod.eta] at h3
  have h4 := (h1.trans h2).trans h3
  split
  · rename_i u hu
    rw [hu] at h4
    exact h4.mono (by omega)
  · rename_i s u hu
    rw [hu] at h4
    have h5 : ZFr 0 u (ZVs.mk (ZVs.p u) (ZVs.sets u) (ZVs.ways u) (ZVs.eps u) (ZVs.wf u) (zu u.sb s (b + 1)) (zu u.se s u.opn) (zu u.mrk s true) (ZVs.hd u) (ZVs.opn u) (ZVs.half u) (ZVs.gen u) (ZVs.plc u)) := ZFr.of_p rfl rfl rfl rfl rfl
    exact ((h4.trans h5).trans (zfr_wr _ _ _ _)).mono (by omega)
theorem zfr_wrv (v : ZVs) (b : Nat) (x : ZBk) (hz : ZSz v.sets v.ways v.eps) : ZFr 7276 v (v.wrv b x) := by
  unfold ZVs.wrv
  split
  · exact (zfr_wr v _ _ _).mono (by omega)
  · split
    · split
      · exact (zfr_wr v _ _ _).mono (by omega)
      · exact zfr_wrNew v b x hz
    · exact zfr_wrNew v b x hz
theorem zfr_flv (v : ZVs) (hz : ZSz v.sets v.ways v.eps) : ZFr 435 v v.flv := by
  unfold ZVs.flv
  split
  · exact zfr_close v hz
  · exact (zfr_fl v 0).mono (by omega)
theorem zfr_rdv (v : ZVs) (b : Nat) : ZFr 1 v (v.rdv b) := by
  unfold ZVs.rdv
  split
  · exact (ZFr.refl v).mono (by omega)
  · split
    · refine ZFr.mono (c := 0) ?_ (by omega)
      exact ZFr.of_p rfl rfl rfl rfl rfl
    · have h1 := (zfr_find (b % v.sets) (2 * v.ways) v).1
      split
      · rename_i u hu
        rw [hu] at h1
        exact h1.mono (by omega)
      · rename_i s u hu
        rw [hu] at h1
        have h5 : ZFr 0 (u.wr 1 (50 + s) (v.dn (19 + b))) (ZVs.s_sb (u.wr 1 (50 + s) (v.dn (19 + b))) (zu u.sb s (b + 1))) := ZFr.of_p rfl rfl rfl rfl rfl
        exact ((h1.trans (zfr_wr u _ _ _)).trans h5).mono (by omega)
theorem zfr_redo (v : ZVs) : ZFr 19 v v.redo ∧ ZSame v v.redo := by
  unfold ZVs.redo
  split
  · exact ⟨(ZFr.refl v).mono (by omega), ZSame.refl v⟩
  · dsimp only
    obtain ⟨h1, g1⟩ := zfr_wrRedo (min 16 (n32 (v.dn 1 2))) 0 v
    have : min 16 (n32 (v.dn 1 2)) ≤ 16 := Nat.min_le_left _ _
    exact ⟨((h1.trans (zfr_fl _ 0)).trans ((zfr_wr _ _ _ _).trans (zfr_fl _ 0))).mono (by omega), (g1.trans (zsame_fl _ 0)).trans ((zsame_wr _ _ _ _).trans (zsame_fl _ 0))⟩
theorem zfr_takePairs (r : ZBk) (e : Nat) : ∀ (k j : Nat) (v : ZVs), ZFr 0 v (ZVs.takePairs r e k j v) ∧ (ZVs.takePairs r e k j v).p = v.p ∧ (ZVs.takePairs r e k j v).gen = v.gen ∧ (ZVs.takePairs r e k j v).half = v.half ∧ (ZVs.takePairs r e k j v).opn = v.opn ∧ (ZVs.takePairs r e k j v).hd = v.hd := by
  intro k
  induction k with
  | zero => intro j v; exact ⟨ZFr.refl v, rfl, rfl, rfl, rfl, rfl⟩
  | succ k ih =>
    intro j v
    obtain ⟨h1, h2, h3⟩ := ih (j + 1) (ZVs.mk (ZVs.p v) (ZVs.sets v) (ZVs.ways v) (ZVs.eps v) (ZVs.wf v) (zu v.sb (n32 (r (4 + 2 * j))) (n32 (r (5 + 2 * j)) + 1)) (zu v.se (n32 (r (4 + 2 * j))) e) (ZVs.mrk v) (ZVs.hd v) (ZVs.opn v) (ZVs.half v) (ZVs.gen v) (ZVs.plc v))
    exact ⟨ZFr.of_p h2 h1.s h1.w h1.e h1.wf, h2, h3⟩
theorem zfr_takeRecs (h : Nat) : ∀ (c k : Nat) (v : ZVs), ZFr 0 v (ZVs.takeRecs h c k v) ∧ (ZVs.takeRecs h c k v).p = v.p ∧ (ZVs.takeRecs h c k v).gen = v.gen ∧ (ZVs.takeRecs h c k v).half = v.half ∧ (ZVs.takeRecs h c k v).hd = v.hd := by
  intro c
  induction c with
  | zero => intro k v; exact ⟨ZFr.refl v, rfl, rfl, rfl, rfl⟩
  | succ c ih =>
    intro k v
    unfold ZVs.takeRecs
    dsimp only
    split
    · obtain ⟨h1, h2, h3, h4, h5⟩ := ih (k + 1) (ZVs.takePairs (v.fn (25 * h + 1 + k)) (n32 (v.fn (25 * h + 1 + k) 1)) (n32 (v.fn (25 * h + 1 + k) 3)) 0 (ZVs.s_opn v (max v.opn (n32 (v.fn (25 * h + 1 + k) 1) + 1))))
      obtain ⟨g1, g2, g3, g4, _, g5⟩ := zfr_takePairs (v.fn (25 * h + 1 + k)) (n32 (v.fn (25 * h + 1 + k) 1)) (n32 (v.fn (25 * h + 1 + k) 3)) 0 (ZVs.s_opn v (max v.opn (n32 (v.fn (25 * h + 1 + k) 1) + 1)))
      exact ⟨ZFr.of_p (h2.trans g2) (h1.s.trans g1.s) (h1.w.trans g1.w) (h1.e.trans g1.e) (h1.wf.trans g1.wf), h2.trans g2, h3.trans g3, h4.trans g4, h5.trans g5⟩
    · exact ih (k + 1) v
theorem zfr_takeHalf (h : Nat) (v : ZVs) : ZFr 0 v (ZVs.takeHalf h v) ∧ (ZVs.takeHalf h v).p = v.p ∧ (ZVs.takeHalf h v).gen = n32 (v.fn (25 * h) 0) ∧ (ZVs.takeHalf h v).half = h ∧ (ZVs.takeHalf h v).hd = v.hd := by
  unfold ZVs.takeHalf
  obtain ⟨h1, h2, h3⟩ := zfr_takeRecs h 24 0 (ZVs.mk (ZVs.p v) (ZVs.sets v) (ZVs.ways v) (ZVs.eps v) (ZVs.wf v) (ZVs.sb v) (ZVs.se v) (ZVs.mrk v) (ZVs.hd v) (v.landed + 1) h (n32 (v.fn (25 * h) 0)) (ZVs.plc v))
  exact ⟨ZFr.of_p h2 h1.s h1.w h1.e h1.wf, h2, h3⟩
theorem zfr_openFlash (h : Nat) (v : ZVs) : ZFr 286 v (ZVs.openFlash h v) := by
  unfold ZVs.openFlash
  have h1 := (zfr_redo v).1
  generalize v.redo = u at *
  have h2 : ZFr 0 u u.noSlots := ZFr.of_p rfl rfl rfl rfl rfl
  have h3 := h1.trans h2
  clear h1 h2
  generalize u.noSlots = u at *
  have h4 := h3.trans (zfr_takeHalf h u).1
  clear h3
  generalize ZVs.takeHalf h u = u at *
  exact h4.trans (zfr_changeHalves u).1
theorem zfr_openDisc (v : ZVs) : ZFr 21 v v.openDisc := by
  unfold ZVs.openDisc
  dsimp only
  have h1 := (zfr_redo v).1
  generalize v.redo = u at *
  have h2 : ZFr 0 u u.noSlots := ZFr.of_p rfl rfl rfl rfl rfl
  have h3 := h1.trans h2
  clear h1 h2
  generalize u.noSlots = u at *
  exact h3.trans ((zfr_wr u 0 0 _).trans (zfr_fl _ 0))
theorem zNew_congr {sb se sb' se' : Nat → Nat} {b n : Nat} (h : ∀ s, s < n → (sb' s = b + 1 ↔ sb s = b + 1) ∧ (sb s = b + 1 → se' s = se s)) : zNew sb' se' b n = zNew sb se b n := by
  induction n with
  | zero => rfl
  | succ n ih =>
    have ih := ih (fun s hs => h s (by omega))
    have hn := h n (by omega)
    unfold zNew
    rw [ih]
    cases h0 : zNew sb se b n with
    | none => dsimp only; simp only [hn.1]
    | some j =>
      obtain ⟨h1, h2, _⟩ := zNew_some h0
      dsimp only
      rw [(h j (by omega)).2 h2]
      by_cases hs : sb n = b + 1
      · rw [hn.2 hs]; simp only [hn.1]
      · rw [if_neg (fun h => hs (hn.1.mp h.1)), if_neg (fun h => hs h.1)]
theorem zVol_congr {base base' sf sf' : ZSt} {sb se sb' se' : Nat → Nat} {n e : Nat} (hb : base' = base) (h1 : ∀ s, s < n → zUp sb' se' e s = zUp sb se e s) (h2 : ∀ s, s < n → 0 < se s → se s ≤ e → se' s = se s ∧ sf' (50 + s) = sf (50 + s)) : zVol base' sf' sb' se' n e = zVol base sf sb se n e := by
  funext b
  unfold zVol
  rw [zNew_congr (sb := zUp sb se e) (se := se) (fun s hs => ⟨by rw [h1 s hs], fun hu => by have := zUp_eq.mp hu; exact (h2 s hs this.1 this.2.1).1⟩)]
  cases h : zNew (zUp sb se e) se b n with
  | none => dsimp only; rw [hb]
  | some s =>
    obtain ⟨hs1, hs2, _⟩ := zNew_some h
    have := zUp_eq.mp hs2
    dsimp only
    rw [(h2 s hs1 this.1 this.2.1).2]
theorem zDl_congr {se se' : Nat → Nat} {e n : Nat} (h : ∀ s, s < n → (se' s = e ↔ se s = e)) : zDl se' e n = zDl se e n := by
  unfold zDl
  apply List.filter_congr
  intro s hs
  have := h s (List.mem_range.mp hs)
  show (se' s == e) = (se s == e)
  by_cases h1 : se s = e
  · rw [h1, this.mpr h1]
  · have h2 : ¬ se' s = e := fun h => h1 (this.mp h)
    rw [beq_eq_false_iff_ne.mpr h1, beq_eq_false_iff_ne.mpr h2]
theorem mem_zDl {se : Nat → Nat} {e n s : Nat} : s ∈ zDl se e n ↔ s < n ∧ se s = e := by
  unfold zDl; simp
theorem zDl_nodup (se : Nat → Nat) (e n : Nat) : (zDl se e n).Nodup := List.Pairwise.filter _ List.nodup_range
/-- the tables are the same for the closed epochs: the records may be others -/
theorem ZFl.build {P P' : ZSt → Prop} {sets ways eps : Nat} {sd sf sd' sf' : ZSt} {id L opn H g pl H' g' pl' : Nat} {sb se sb' se' : Nat → Nat} (h : ZFl P sets ways eps sd sf id L opn H g pl sb se)
    (hP : ∀ V, P V → P' V) (hd : zDisc sd' = zDisc sd)
    (h1 : ∀ s, s < sets * ways → 0 < se s → se s < opn → se' s = se s ∧ sb' s = sb s ∧ sf' (50 + s) = sf (50 + s))
    (h2 : ∀ s, s < sets * ways → 0 < se' s → se' s < opn → se' s = se s)
    (hH : H' < 2) (hg : sf' (25 * H') 0 = iN g') (hg1 : 1 ≤ g') (hi : sf' (25 * H') 1 = iN id) (ho : sf' (25 * (1 - H')) 1 ≠ iN id ∨ n32 (sf' (25 * (1 - H')) 0) < g') (hj : n32 (sf' (25 * (1 - H')) 1) ≤ id)
    (ha : ∀ k, k < 24 → n32 (sf' (25 * H' + 1 + k) 0) ≤ g' ∧ (n32 (sf' (25 * H' + 1 + k) 0) = g' → n32 (sf' (25 * H' + 1 + k) 1) ≤ L ∨ (n32 (sf' (25 * H' + 1 + k) 1) < opn ∧ zTrue (sets * ways) sb se (sf' (25 * H' + 1 + k))) ∨ (opn ≤ n32 (sf' (25 * H' + 1 + k) 1) ∧ sf' (25 * H' + 1 + k) 2 ≠ 1)))
    (hb : ∀ k, k < 24 → n32 (sf' (25 * (1 - H') + 1 + k) 0) ≤ g' + 1 ∧ (n32 (sf' (25 * (1 - H') + 1 + k) 0) = g' + 1 → L < n32 (sf' (25 * (1 - H') + 1 + k) 1) ∧ n32 (sf' (25 * (1 - H') + 1 + k) 1) < opn ∧ zTrue (sets * ways) sb se (sf' (25 * (1 - H') + 1 + k))))
    (hc : ∀ e, L < e → e < opn → (∃ k, k < pl' ∧ n32 (sf' (25 * H' + 1 + k) 0) = g' ∧ n32 (sf' (25 * H' + 1 + k) 1) = e ∧ sf' (25 * H' + 1 + k) 2 = 1) ∧ ∀ s, s < sets * ways → se s = e → ∃ k, k < pl' ∧ n32 (sf' (25 * H' + 1 + k) 0) = g' ∧ n32 (sf' (25 * H' + 1 + k) 1) = e ∧ ∃ j, j < n32 (sf' (25 * H' + 1 + k) 3) ∧ sf' (25 * H' + 1 + k) (4 + 2 * j) = iN s)
    (hpl' : pl' ≤ 24) : ZFl P' sets ways eps sd' sf' id L opn H' g' pl' sb' se' := by
  have hT : ∀ r : ZBk, 0 < n32 (r 1) → n32 (r 1) < opn → zTrue (sets * ways) sb se r → zTrue (sets * ways) sb' se' r := by
    intro r hr0 hr1 ht
    refine ⟨ht.1, fun j hj => ?_⟩
    obtain ⟨s, b, q1, q2, q3, q4, q5, q6⟩ := ht.2 j hj
    have := h1 s q3 (by omega) (by omega)
    exact ⟨s, b, q1, q2, q3, q4, by rw [this.1]; exact q5, by rw [this.2.1]; exact q6⟩
  refine ⟨hH, hg, hg1, hi, ho, hj, h.hLo, h.hE, ?_, ?_, ?_, hpl', ?_, ?_, ?_, ?_, ?_⟩
  · intro k hk
    refine ⟨(ha k hk).1, fun hg => ?_⟩
    rcases (ha k hk).2 hg with q | q | q
    · exact Or.inl q
    · by_cases h0 : n32 (sf' (25 * H' + 1 + k) 1) ≤ L
      · exact Or.inl h0
      · exact Or.inr (Or.inl ⟨q.1, hT _ (by omega) q.1 q.2⟩)
    · exact Or.inr (Or.inr q)
  · intro k hk
    refine ⟨(hb k hk).1, fun hg => ?_⟩
    have q := (hb k hk).2 hg
    exact ⟨q.1, q.2.1, hT _ (by omega) q.2.1 q.2.2⟩
  · intro e he1 he2
    obtain ⟨q1, q3⟩ := hc e he1 he2
    refine ⟨q1, fun s hs hse => q3 s hs ?_⟩
    rw [← h2 s hs (by omega) (by omega)]; exact hse
  · intro s hs hs1 hs2
    have e1 := h2 s hs hs1 hs2
    have e2 := h1 s hs (by omega) (by omega)
    rw [e1, e2.2.1]
    exact h.tb s hs (by omega) (by omega)
  · intro s s' hs hs' hs1 hs2 he hb
    have e1 := h2 s hs hs1 hs2
    have e2 := h1 s hs (by omega) (by omega)
    have e3 := h2 s' hs' (by omega) (by omega)
    have e4 := h1 s' hs' (by omega) (by omega)
    refine h.tu s s' hs hs' (by omega) (by omega) (by omega) ?_
    rw [← e2.2.1, ← e4.2.1]; exact hb
  · intro e he1 he2
    rw [zDl_congr (se := se) (fun s hs => ⟨fun q => ?_, fun q => ?_⟩)]
    · exact h.tc e he1 he2
    · rw [← h2 s hs (by omega) (by omega)]; exact q
    · rw [(h1 s hs (by omega) (by omega)).1]; exact q
  · intro e he1 he2
    obtain ⟨s, q1, q2⟩ := h.te e he1 he2
    exact ⟨s, q1, by rw [(h1 s q1 (by omega) (by omega)).1]; exact q2⟩
  · intro e he1 he2
    rw [zVol_congr (sf := sf) (sb := sb) (se := se) hd ?_ ?_]
    · exact hP _ (h.vp e he1 he2)
    · intro s hs
      unfold zUp
      by_cases q : 0 < se s ∧ se s ≤ e
      · have e2 := h1 s hs (by omega) (by omega)
        rw [if_pos q, e2.1, if_pos q, e2.2.1]
      · rw [if_neg q]
        by_cases q' : 0 < se' s ∧ se' s ≤ e
        · rw [h2 s hs (by omega) (by omega)] at q'; exact absurd q' q
        · rw [if_neg q']
    · intro s hs q1 q2
      have e2 := h1 s hs (by omega) (by omega)
      exact ⟨e2.1, e2.2.2⟩
/-- the flash's status depends on its closed slots alone -/
theorem ZFl.congr {P P' : ZSt → Prop} {sets ways eps : Nat} {sd sf sd' sf' : ZSt} {id L opn H g pl pl' : Nat} {sb se sb' se' : Nat → Nat} (h : ZFl P sets ways eps sd sf id L opn H g pl sb se)
    (hP : ∀ V, P V → P' V) (hpl : pl ≤ pl') (hpl' : pl' ≤ 24) (hd : zDisc sd' = zDisc sd) (hf : ∀ b, b < 50 → sf' b = sf b)
    (h1 : ∀ s, s < sets * ways → 0 < se s → se s < opn → se' s = se s ∧ sb' s = sb s ∧ sf' (50 + s) = sf (50 + s))
    (h2 : ∀ s, s < sets * ways → 0 < se' s → se' s < opn → se' s = se s) : ZFl P' sets ways eps sd' sf' id L opn H g pl' sb' se' := by
  have hH := h.hH
  have hr : ∀ k, k < 24 → sf' (25 * H + 1 + k) = sf (25 * H + 1 + k) := fun k hk => hf _ (by omega)
  have hr' : ∀ k, k < 24 → sf' (25 * (1 - H) + 1 + k) = sf (25 * (1 - H) + 1 + k) := fun k hk => hf _ (by omega)
  refine h.build hP hd h1 h2 hH (by rw [hf _ (by omega)]; exact h.hg) h.hg1 (by rw [hf _ (by omega)]; exact h.hi) (by rw [hf _ (by omega)]; exact h.ho) (by rw [hf _ (by omega)]; exact h.hj) (fun k hk => by rw [hr k hk]; exact h.ha k hk) (fun k hk => by rw [hr' k hk]; exact h.hb k hk) ?_ hpl'
  intro e he1 he2
  obtain ⟨⟨k, q1, q2⟩, q3⟩ := h.hc e he1 he2
  have hp := h.hpl
  refine ⟨⟨k, by omega, ?_⟩, fun s hs hse => ?_⟩
  · rw [hr k (by omega)]; exact q2
  · obtain ⟨k, p1, p2⟩ := q3 s hs hse
    refine ⟨k, by omega, ?_⟩
    rw [hr k (by omega)]; exact p2
/-- it runs, with its flash; what was written of the half's records lies below pl -/
abbrev ZRm (P : Nat → ZSt → Prop) (pl : Nat) (v : ZVs) : Prop := (v.p.up = true) ∧ (v.wf = true) ∧ (ZSz v.sets v.ways v.eps) ∧ ((v.p.dv 0).pd = []) ∧ (ZHead v.dn (n32 (v.dn 0 0)) v.landed) ∧ (v.dn 1 0 ≠ 1) ∧ (ZFl (P (v.p.na + 1)) v.sets v.ways v.eps v.dn v.fn (n32 (v.dn 0 0)) v.landed v.opn v.half v.gen pl v.sb v.se) ∧ (∀ e ∈ (v.p.dv 1).pd, ∃ s, s < v.n ∧ e.1 = 50 + s ∧ ¬ (0 < v.se s ∧ v.se s < v.opn)) ∧ (∀ s, s < v.n → v.sb s = 0 → v.se s = 0) ∧ (∀ s, s < v.n → v.se s ≤ v.opn) ∧ (∀ s, s < v.n → v.sb s ≠ 0 → v.sb s ≤ 106 ∧ s / v.ways = (v.sb s - 1) % v.sets) ∧ (∀ s s', s < v.n → s' < v.n → v.sb s ≠ 0 → v.sb s = v.sb s' → v.se s = v.se s' ∨ v.se s = 0 → s = s') ∧ (∀ s, s < v.n → v.sb s ≠ 0 → v.se s = 0 → v.fn (50 + s) = v.dn (19 + (v.sb s - 1))) ∧ (v.dirty v.opn ≤ 16) ∧ (∀ set, v.hd set < v.ways) ∧ (n32 (v.dn 0 0) ≤ v.p.na + 1) ∧ (v.opn ≤ v.p.na + 1) ∧ (v.gen ≤ v.p.na + 1)
theorem ZRm.up {P : Nat → ZSt → Prop} {pl : Nat} {v : ZVs} (h : ZRm P pl v) : v.p.up = true := h.1
theorem ZRm.wf {P : Nat → ZSt → Prop} {pl : Nat} {v : ZVs} (h : ZRm P pl v) : v.wf = true := h.2.1
theorem ZRm.sz {P : Nat → ZSt → Prop} {pl : Nat} {v : ZVs} (h : ZRm P pl v) : ZSz v.sets v.ways v.eps := h.2.2.1
theorem ZRm.pd0 {P : Nat → ZSt → Prop} {pl : Nat} {v : ZVs} (h : ZRm P pl v) : (v.p.dv 0).pd = [] := h.2.2.2.1
theorem ZRm.hd {P : Nat → ZSt → Prop} {pl : Nat} {v : ZVs} (h : ZRm P pl v) : ZHead v.dn (n32 (v.dn 0 0)) v.landed := h.2.2.2.2.1
theorem ZRm.h0 {P : Nat → ZSt → Prop} {pl : Nat} {v : ZVs} (h : ZRm P pl v) : v.dn 1 0 ≠ 1 := h.2.2.2.2.2.1
theorem ZRm.fl {P : Nat → ZSt → Prop} {pl : Nat} {v : ZVs} (h : ZRm P pl v) : ZFl (P (v.p.na + 1)) v.sets v.ways v.eps v.dn v.fn (n32 (v.dn 0 0)) v.landed v.opn v.half v.gen pl v.sb v.se := h.2.2.2.2.2.2.1
theorem ZRm.pdf {P : Nat → ZSt → Prop} {pl : Nat} {v : ZVs} (h : ZRm P pl v) : ∀ e ∈ (v.p.dv 1).pd, ∃ s, s < v.n ∧ e.1 = 50 + s ∧ ¬ (0 < v.se s ∧ v.se s < v.opn) := h.2.2.2.2.2.2.2.1
theorem ZRm.t0 {P : Nat → ZSt → Prop} {pl : Nat} {v : ZVs} (h : ZRm P pl v) : ∀ s, s < v.n → v.sb s = 0 → v.se s = 0 := h.2.2.2.2.2.2.2.2.1
theorem ZRm.t1 {P : Nat → ZSt → Prop} {pl : Nat} {v : ZVs} (h : ZRm P pl v) : ∀ s, s < v.n → v.se s ≤ v.opn := h.2.2.2.2.2.2.2.2.2.1
theorem ZRm.t2 {P : Nat → ZSt → Prop} {pl : Nat} {v : ZVs} (h : ZRm P pl v) : ∀ s, s < v.n → v.sb s ≠ 0 → v.sb s ≤ 106 ∧ s / v.ways = (v.sb s - 1) % v.sets := h.2.2.2.2.2.2.2.2.2.2.1
theorem ZRm.t3 {P : Nat → ZSt → Prop} {pl : Nat} {v : ZVs} (h : ZRm P pl v) : ∀ s s', s < v.n → s' < v.n → v.sb s ≠ 0 → v.sb s = v.sb s' → v.se s = v.se s' ∨ v.se s = 0 → s = s' := h.2.2.2.2.2.2.2.2.2.2.2.1
theorem ZRm.t4 {P : Nat → ZSt → Prop} {pl : Nat} {v : ZVs} (h : ZRm P pl v) : ∀ s, s < v.n → v.sb s ≠ 0 → v.se s = 0 → v.fn (50 + s) = v.dn (19 + (v.sb s - 1)) := h.2.2.2.2.2.2.2.2.2.2.2.2.1
theorem ZRm.t5 {P : Nat → ZSt → Prop} {pl : Nat} {v : ZVs} (h : ZRm P pl v) : v.dirty v.opn ≤ 16 := h.2.2.2.2.2.2.2.2.2.2.2.2.2.1
theorem ZRm.hh {P : Nat → ZSt → Prop} {pl : Nat} {v : ZVs} (h : ZRm P pl v) : ∀ set, v.hd set < v.ways := h.2.2.2.2.2.2.2.2.2.2.2.2.2.2.1
theorem ZRm.n1 {P : Nat → ZSt → Prop} {pl : Nat} {v : ZVs} (h : ZRm P pl v) : n32 (v.dn 0 0) ≤ v.p.na + 1 := h.2.2.2.2.2.2.2.2.2.2.2.2.2.2.2.1
theorem ZRm.n2 {P : Nat → ZSt → Prop} {pl : Nat} {v : ZVs} (h : ZRm P pl v) : v.opn ≤ v.p.na + 1 := h.2.2.2.2.2.2.2.2.2.2.2.2.2.2.2.2.1
theorem ZRm.n3 {P : Nat → ZSt → Prop} {pl : Nat} {v : ZVs} (h : ZRm P pl v) : v.gen ≤ v.p.na + 1 := h.2.2.2.2.2.2.2.2.2.2.2.2.2.2.2.2.2
/-- and nothing of the next generation lies on the other half -/
abbrev ZRf (P : Nat → ZSt → Prop) (v : ZVs) : Prop := ZRm P v.plc v ∧ (∀ k, k < 24 → n32 (v.fn (25 * (1 - v.half) + 1 + k) 0) ≤ v.gen) ∧ (∀ k, k < 24 → n32 (v.fn (25 * v.half + 1 + k) 0) = v.gen → n32 (v.fn (25 * v.half + 1 + k) 1) < v.opn)
theorem ZRf.toZRm {P : Nat → ZSt → Prop} {v : ZVs} (h : ZRf P v) : ZRm P v.plc v := h.1
theorem ZRf.ot {P : Nat → ZSt → Prop} {v : ZVs} (h : ZRf P v) : ∀ k, k < 24 → n32 (v.fn (25 * (1 - v.half) + 1 + k) 0) ≤ v.gen := h.2.1
theorem ZRf.oa {P : Nat → ZSt → Prop} {v : ZVs} (h : ZRf P v) : ∀ k, k < 24 → n32 (v.fn (25 * v.half + 1 + k) 0) = v.gen → n32 (v.fn (25 * v.half + 1 + k) 1) < v.opn := h.2.2
theorem ZRf.up {P : Nat → ZSt → Prop} {v : ZVs} (h : ZRf P v) : v.p.up = true := h.1.up
theorem ZRf.wf {P : Nat → ZSt → Prop} {v : ZVs} (h : ZRf P v) : v.wf = true := h.1.wf
theorem ZRf.sz {P : Nat → ZSt → Prop} {v : ZVs} (h : ZRf P v) : ZSz v.sets v.ways v.eps := h.1.sz
theorem ZRf.pd0 {P : Nat → ZSt → Prop} {v : ZVs} (h : ZRf P v) : (v.p.dv 0).pd = [] := h.1.pd0
theorem ZRf.hd {P : Nat → ZSt → Prop} {v : ZVs} (h : ZRf P v) : ZHead v.dn (n32 (v.dn 0 0)) v.landed := h.1.hd
theorem ZRf.h0 {P : Nat → ZSt → Prop} {v : ZVs} (h : ZRf P v) : v.dn 1 0 ≠ 1 := h.1.h0
theorem ZRf.fl {P : Nat → ZSt → Prop} {v : ZVs} (h : ZRf P v) : ZFl (P (v.p.na + 1)) v.sets v.ways v.eps v.dn v.fn (n32 (v.dn 0 0)) v.landed v.opn v.half v.gen v.plc v.sb v.se := h.1.fl
theorem ZRf.pdf {P : Nat → ZSt → Prop} {v : ZVs} (h : ZRf P v) : ∀ e ∈ (v.p.dv 1).pd, ∃ s, s < v.n ∧ e.1 = 50 + s ∧ ¬ (0 < v.se s ∧ v.se s < v.opn) := h.1.pdf
theorem ZRf.t0 {P : Nat → ZSt → Prop} {v : ZVs} (h : ZRf P v) : ∀ s, s < v.n → v.sb s = 0 → v.se s = 0 := h.1.t0
theorem ZRf.t1 {P : Nat → ZSt → Prop} {v : ZVs} (h : ZRf P v) : ∀ s, s < v.n → v.se s ≤ v.opn := h.1.t1
theorem ZRf.t2 {P : Nat → ZSt → Prop} {v : ZVs} (h : ZRf P v) : ∀ s, s < v.n → v.sb s ≠ 0 → v.sb s ≤ 106 ∧ s / v.ways = (v.sb s - 1) % v.sets := h.1.t2
theorem ZRf.t3 {P : Nat → ZSt → Prop} {v : ZVs} (h : ZRf P v) : ∀ s s', s < v.n → s' < v.n → v.sb s ≠ 0 → v.sb s = v.sb s' → v.se s = v.se s' ∨ v.se s = 0 → s = s' := h.1.t3
theorem ZRf.t4 {P : Nat → ZSt → Prop} {v : ZVs} (h : ZRf P v) : ∀ s, s < v.n → v.sb s ≠ 0 → v.se s = 0 → v.fn (50 + s) = v.dn (19 + (v.sb s - 1)) := h.1.t4
theorem ZRf.t5 {P : Nat → ZSt → Prop} {v : ZVs} (h : ZRf P v) : v.dirty v.opn ≤ 16 := h.1.t5
theorem ZRf.hh {P : Nat → ZSt → Prop} {v : ZVs} (h : ZRf P v) : ∀ set, v.hd set < v.ways := h.1.hh
theorem ZRf.n1 {P : Nat → ZSt → Prop} {v : ZVs} (h : ZRf P v) : n32 (v.dn 0 0) ≤ v.p.na + 1 := h.1.n1
theorem ZRf.n2 {P : Nat → ZSt → Prop} {v : ZVs} (h : ZRf P v) : v.opn ≤ v.p.na + 1 := h.1.n2
theorem ZRf.n3 {P : Nat → ZSt → Prop} {v : ZVs} (h : ZRf P v) : v.gen ≤ v.p.na + 1 := h.1.n3
theorem zov_notin {s : ZSt} {pd : List (Nat × ZBk)} {b : Nat} (h : ∀ e ∈ pd, e.1 ≠ b) : zov s pd b = s b := by
  induction pd generalizing s with
  | nil => rfl
  | cons e p ih =>
    show zov (zu s e.1 e.2) p b = s b
    rw [ih (fun e' he' => h e' (List.mem_cons_of_mem _ he')), zu_ne _ _ (fun hh => h e (List.mem_cons_self) hh.symm)]
theorem ZDv.out_notin {d : ZDv} {s : ZSt} {b : Nat} (h : d.out s) (hn : ∀ e ∈ d.pd, e.1 ≠ b) : s b = d.now b := by
  unfold ZDv.now
  rw [zov_notin hn]
  rcases h b with h | ⟨x, hx, _⟩
  · exact h
  · exact absurd rfl (hn _ hx)
theorem ZRm.opn1 {P : Nat → ZSt → Prop} {pl : Nat} {v : ZVs} (h : ZRm P pl v) : 1 ≤ v.opn := by have := h.fl.hLo; omega
theorem ZRm.notin {P : Nat → ZSt → Prop} {pl : Nat} {v : ZVs} (h : ZRm P pl v) {sf : ZSt} (ho : (v.p.dv 1).out sf) : (∀ b, b < 50 → sf b = v.fn b) ∧ ∀ s, s < v.n → 0 < v.se s → v.se s < v.opn → sf (50 + s) = v.fn (50 + s) := by
  constructor
  · intro b hb
    refine ZDv.out_notin ho (fun e he => ?_)
    obtain ⟨s, _, h2, _⟩ := h.pdf e he
    omega
  · intro s hs h1 h2
    refine ZDv.out_notin ho (fun e he hh => ?_)
    obtain ⟨s', _, h3, h4⟩ := h.pdf e he
    have : s' = s := by omega
    subst this
    exact h4 ⟨h1, h2⟩
theorem ZRm.cr {P : Nat → ZSt → Prop} {pl : Nat} {v : ZVs} (h : ZRm P pl v) : ZCr P v := by
  refine ⟨h.up, h.sz, fun sd sf hd hf => ?_⟩
  have e0 : sd = v.dn := by rw [ZDv.out_nil h.pd0 hd]; exact (ZDv.now_nil h.pd0).symm
  subst e0
  obtain ⟨q1, q2⟩ := h.notin hf
  have hn2 := h.n2; have hn3 := h.n3; have hLo := h.fl.hLo
  have hz : zDisc v.dn = zVol (zDisc v.dn) v.fn v.sb v.se (v.sets * v.ways) v.landed := by
    funext b
    unfold zVol
    rw [zNew_none.mpr]
    intro s hs hu
    obtain ⟨u1, u2, _⟩ := zUp_eq.mp hu
    have := (h.fl.tb s hs u1 (by omega)).1
    omega
  refine ⟨n32 (v.dn 0 0), v.landed, h.hd, h.n1, by omega, by rw [hz]; exact h.fl.vp _ (Nat.le_refl _) h.fl.hLo, Or.inr (Or.inr ⟨v.opn, v.half, v.gen, v.sb, fun s => if v.se s < v.opn then v.se s else 0, hn2, hn3, fun s hs => ?_, ?_⟩)⟩
  · dsimp only; split
    · assumption
    · exact h.opn1
  · refine h.fl.congr (fun _ q => q) h.fl.hpl (Nat.le_refl _) rfl q1 (fun s hs s1 s2 => ⟨if_pos s2, rfl, q2 s hs s1 s2⟩) (fun s hs s1 s2 => ?_)
    split
    · rfl
    · rename_i hx; rw [if_neg hx] at s1; omega
set_option linter.defProp false in
def ZRf.opn1 {P : Nat → ZSt → Prop} {v : ZVs} (h : ZRf P v) := @ZRm.opn1 P v.plc v h.toZRm
set_option linter.defProp false in
def ZRf.notin {P : Nat → ZSt → Prop} {v : ZVs} (h : ZRf P v) := @ZRm.notin P v.plc v h.toZRm
set_option linter.defProp false in
def ZRf.cr {P : Nat → ZSt → Prop} {v : ZVs} (h : ZRf P v) := @ZRm.cr P v.plc v h.toZRm
