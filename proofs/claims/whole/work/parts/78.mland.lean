/-! A WALK THROUGH A PRINTED FUNCTION -/
def wp {α : Type} (x : Option α) (Q : α → Prop) : Prop := ∃ r, x = some r ∧ Q r
theorem wp_some {α : Type} {r : α} {Q : α → Prop} (h : Q r) : wp (some r) Q := ⟨r, rfl, h⟩
theorem wp_bi {α : Type} {x : Option px_Res} {f : Int32 → px_S → px_W → Option α} {g : Nat → px_S → px_W → Option α} {Q : α → Prop} {v : Int32} {s : px_S} {t : px_W} (h : x = some (.inl (some (.int v)), s, t)) (k : wp (f v s t) Q) : wp (px_bi x f g) Q := by rw [h]; exact k
theorem wp_bv {α : Type} {x : Option px_Res} {f : px_S → px_W → Option α} {g : Nat → px_S → px_W → Option α} {Q : α → Prop} {s : px_S} {t : px_W} (h : x = some (.inl none, s, t)) (k : wp (f s t) Q) : wp (px_bv x f g) Q := by rw [h]; exact k
theorem wp_bix {α : Type} {x : Option px_Res} {f : Int32 → px_S → px_W → Option α} {g : Nat → px_S → px_W → Option α} {Q : α → Prop} {a : Nat} {s : px_S} {t : px_W} (h : x = some (.inr a, s, t)) (k : wp (g a s t) Q) : wp (px_bi x f g) Q := by rw [h]; exact k
theorem wp_bvx {α : Type} {x : Option px_Res} {f : px_S → px_W → Option α} {g : Nat → px_S → px_W → Option α} {Q : α → Prop} {a : Nat} {s : px_S} {t : px_W} (h : x = some (.inr a, s, t)) (k : wp (g a s t) Q) : wp (px_bv x f g) Q := by rw [h]; exact k
theorem wp_lp {α : Type} {x : Option px_LO} {f : Nat → List Int32 → px_S → px_W → Option α} {g : px_Res → Option α} {Q : α → Prop} {i : Nat} {vs : List Int32} {s : px_S} {t : px_W} (h : x = some (.inl (i, vs, s, t))) (k : wp (f i vs s t) Q) : wp (px_lp x f g) Q := by rw [h]; exact k
theorem wp_lpr {α : Type} {x : Option px_LO} {f : Nat → List Int32 → px_S → px_W → Option α} {g : px_Res → Option α} {Q : α → Prop} {z : px_Res} (h : x = some (.inr z)) (k : wp (g z) Q) : wp (px_lp x f g) Q := by rw [h]; exact k
theorem wp_gd {α : Type} {q : Prop} {x : Option α} {Q : α → Prop} (h : q) (k : wp x Q) : wp (px_gd q x) Q := by rw [px_gd_of h]; exact k
theorem wp_let {α β : Type} {x : β} {f : β → Option α} {Q : α → Prop} (k : wp (f x) Q) : wp (px_let x f) Q := k
theorem wp_if {α : Type} {c : Prop} [Decidable c] {x y : Option α} {Q : α → Prop} (h : c) (k : wp x Q) : wp (if c then x else y) Q := by rw [if_pos h]; exact k
theorem wp_ifn {α : Type} {c : Prop} [Decidable c] {x y : Option α} {Q : α → Prop} (h : ¬ c) (k : wp y Q) : wp (if c then x else y) Q := by rw [if_neg h]; exact k
/-- a call's outcome: it answers, the exceptions' list stays -/
def zA (v : Int32) (t : px_W) (R : px_S → Prop) (r : px_Res) : Prop := ∃ s, r = (.inl (some (.int v)), s, t) ∧ R s
def zB (t : px_W) (R : px_S → Prop) (r : px_Res) : Prop := ∃ s, r = (.inl none, s, t) ∧ R s
/-- a loop's outcome -/
def zC (i : Nat) (vs : List Int32) (t : px_W) (R : px_S → Prop) (z : px_LO) : Prop := ∃ s, z = .inl (i, vs, s, t) ∧ R s
theorem wp_A {x : Option px_Res} {v : Int32} {t : px_W} {R : px_S → Prop} (h : wp x (zA v t R)) : ∃ s, x = some (.inl (some (.int v)), s, t) ∧ R s := by
  obtain ⟨r, h1, s, h2, h3⟩ := h; exact ⟨s, by rw [h1, h2], h3⟩
theorem wp_B {x : Option px_Res} {t : px_W} {R : px_S → Prop} (h : wp x (zB t R)) : ∃ s, x = some (.inl none, s, t) ∧ R s := by
  obtain ⟨r, h1, s, h2, h3⟩ := h; exact ⟨s, by rw [h1, h2], h3⟩
theorem wp_C {x : Option px_LO} {i : Nat} {vs : List Int32} {t : px_W} {R : px_S → Prop} (h : wp x (zC i vs t R)) : ∃ s, x = some (.inl (i, vs, s, t)) ∧ R s := by
  obtain ⟨r, h1, s, h2, h3⟩ := h; exact ⟨s, by rw [h1, h2], h3⟩
theorem wp_rA {v : Int32} {s : px_S} {t : px_W} {R : px_S → Prop} (h : R s) : wp (some ((.inl (some (.int v)), s, t) : px_Res)) (zA v t R) := ⟨_, rfl, s, rfl, h⟩
theorem wp_rB {s : px_S} {t : px_W} {R : px_S → Prop} (h : R s) : wp (some ((.inl none, s, t) : px_Res)) (zB t R) := ⟨_, rfl, s, rfl, h⟩
theorem wp_rC {i : Nat} {vs : List Int32} {s : px_S} {t : px_W} {R : px_S → Prop} (h : R s) : wp (some (.inl (i, vs, s, t) : px_LO)) (zC i vs t R) := ⟨_, rfl, s, rfl, h⟩
theorem wp_imp {α : Type} {x : Option α} {Q Q' : α → Prop} (h : wp x Q) (hi : ∀ r, Q r → Q' r) : wp x Q' := by
  obtain ⟨r, h1, h2⟩ := h; exact ⟨r, h1, hi r h2⟩
/-! THE NEXT SLOT OF AN EPOCH (the reference) -/
def zNx (sb se : Nat → Nat) (e a : Nat) : Nat → Option Nat
  | 0 => none
  | i + 1 => if se i = e ∧ a < sb i then (match zNx sb se e a i with
    | none => some i
    | some j => if sb i < sb j then some i else some j) else zNx sb se e a i
theorem zNx_none {sb se : Nat → Nat} {e a : Nat} : ∀ {n : Nat}, zNx sb se e a n = none → ∀ i, i < n → se i = e → sb i ≤ a := by
  intro n
  induction n with
  | zero => intro _ i hi; omega
  | succ n ih =>
    intro h i hi he
    unfold zNx at h
    by_cases hc : se n = e ∧ a < sb n
    · rw [if_pos hc] at h
      split at h
      · cases h
      · split at h <;> cases h
    · rw [if_neg hc] at h
      by_cases hin : i = n
      · subst hin
        exact Nat.le_of_not_lt (fun hx => hc ⟨he, hx⟩)
      · exact ih h i (by omega) he
theorem zNx_some {sb se : Nat → Nat} {e a : Nat} : ∀ {n j : Nat}, zNx sb se e a n = some j → j < n ∧ se j = e ∧ a < sb j ∧ ∀ i, i < n → se i = e → a < sb i → sb j ≤ sb i := by
  intro n
  induction n with
  | zero => intro j h; cases h
  | succ n ih =>
    intro j h
    unfold zNx at h
    by_cases hc : se n = e ∧ a < sb n
    · rw [if_pos hc] at h
      cases hz : zNx sb se e a n with
      | none =>
        rw [hz] at h
        dsimp only at h
        cases h
        refine ⟨by omega, hc.1, hc.2, fun i hi he ha => ?_⟩
        by_cases hin : i = n
        · rw [hin]; exact Nat.le_refl _
        · have := zNx_none hz i (by omega) he; omega
      | some k =>
        rw [hz] at h
        dsimp only at h
        obtain ⟨k1, k2, k3, k4⟩ := ih hz
        by_cases hs : sb n < sb k
        · rw [if_pos hs] at h
          cases h
          refine ⟨by omega, hc.1, hc.2, fun i hi he ha => ?_⟩
          by_cases hin : i = n
          · rw [hin]; exact Nat.le_refl _
          · have := k4 i (by omega) he ha; omega
        · rw [if_neg hs] at h
          cases h
          refine ⟨by omega, k2, k3, fun i hi he ha => ?_⟩
          by_cases hin : i = n
          · rw [hin]; omega
          · exact k4 i (by omega) he ha
    · rw [if_neg hc] at h
      obtain ⟨k1, k2, k3, k4⟩ := ih h
      refine ⟨by omega, k2, k3, fun i hi he ha => ?_⟩
      by_cases hin : i = n
      · subst hin; exact absurd ⟨he, ha⟩ hc
      · exact k4 i (by omega) he ha
/-- a list of the epoch's slots whose blocks are above, rising -/
def zNl (v : ZVs) (e a : Nat) (l : List Nat) : Prop := (∀ i, i ∈ l ↔ i < v.n ∧ v.se i = e ∧ a < v.sb i) ∧ l.Pairwise (fun x y => v.sb x < v.sb y)
theorem zNl_nil {v : ZVs} {e a : Nat} (h : zNl v e a []) : zNx v.sb v.se e a v.n = none := by
  cases hz : zNx v.sb v.se e a v.n with
  | none => rfl
  | some j =>
    obtain ⟨j1, j2, j3, _⟩ := zNx_some hz
    have := (h.1 j).mpr ⟨j1, j2, j3⟩
    cases this
theorem zNl_cons {v : ZVs} {e a x : Nat} {l : List Nat} (h : zNl v e a (x :: l)) (hu : ∀ i j, i < v.n → j < v.n → v.se i = e → v.se j = e → v.sb i = v.sb j → i = j) : zNx v.sb v.se e a v.n = some x ∧ x < v.n ∧ v.se x = e ∧ a < v.sb x ∧ zNl v e (v.sb x) l := by
  obtain ⟨h1, h2⟩ := h
  obtain ⟨p1, p2⟩ := List.pairwise_cons.mp h2
  obtain ⟨x1, x2, x3⟩ := (h1 x).mp List.mem_cons_self
  refine ⟨?_, x1, x2, x3, fun i => ?_, p2⟩
  · cases hz : zNx v.sb v.se e a v.n with
    | none => have := zNx_none hz x x1 x2; omega
    | some j =>
      obtain ⟨j1, j2, j3, j4⟩ := zNx_some hz
      have hj := (h1 j).mpr ⟨j1, j2, j3⟩
      rcases List.mem_cons.mp hj with hj | hj
      · rw [hj]
      · have := p1 j hj
        have := j4 x x1 x2 x3
        omega
  · constructor
    · intro hi
      obtain ⟨i1, i2, i3⟩ := (h1 i).mp (List.mem_cons_of_mem _ hi)
      exact ⟨i1, i2, p1 i hi⟩
    · rintro ⟨i1, i2, i3⟩
      have hi := (h1 i).mpr ⟨i1, i2, by omega⟩
      rcases List.mem_cons.mp hi with hi | hi
      · subst hi; omega
      · exact hi
theorem zIns_sorted {sb : Nat → Nat} {s : Nat} : ∀ {l : List Nat}, l.Pairwise (fun x y => sb x < sb y) → (∀ x ∈ l, sb x ≠ sb s) → (zIns sb s l).Pairwise (fun x y => sb x < sb y) := by
  intro l
  induction l with
  | nil => intro _ _; unfold zIns; exact List.pairwise_singleton _ _
  | cons t l ih =>
    intro h hn
    obtain ⟨p1, p2⟩ := List.pairwise_cons.mp h
    unfold zIns
    by_cases hc : sb s < sb t
    · rw [if_pos hc]
      refine List.pairwise_cons.mpr ⟨fun y hy => ?_, h⟩
      rcases List.mem_cons.mp hy with hy | hy
      · rw [hy]; exact hc
      · have := p1 y hy; omega
    · rw [if_neg hc]
      refine List.pairwise_cons.mpr ⟨fun y hy => ?_, ih p2 (fun x hx => hn x (List.mem_cons_of_mem _ hx))⟩
      rcases mem_zIns.mp hy with hy | hy
      · rw [hy]; have := hn t List.mem_cons_self; omega
      · exact p1 y hy
theorem zSort_sorted {sb : Nat → Nat} : ∀ {l : List Nat}, l.Nodup → (∀ x ∈ l, ∀ y ∈ l, sb x = sb y → x = y) → (zSort sb l).Pairwise (fun x y => sb x < sb y) := by
  intro l
  induction l with
  | nil => intro _ _; exact List.Pairwise.nil
  | cons s l ih =>
    intro h hu
    obtain ⟨p1, p2⟩ := List.nodup_cons.mp h
    unfold zSort
    refine zIns_sorted (ih p2 (fun x hx y hy => hu x (List.mem_cons_of_mem _ hx) y (List.mem_cons_of_mem _ hy))) (fun x hx hq => ?_)
    have hxl := mem_zSort.mp hx
    have := hu x (List.mem_cons_of_mem _ hxl) s List.mem_cons_self hq
    subst this
    exact p1 hxl
theorem zNl_sort {v : ZVs} {e : Nat} (hb : ∀ i, i < v.n → v.se i = e → 1 ≤ v.sb i) (hu : ∀ i j, i < v.n → j < v.n → v.se i = e → v.se j = e → v.sb i = v.sb j → i = j) : zNl v e 0 (zSort v.sb (v.dl e)) := by
  refine ⟨fun i => ?_, zSort_sorted (zDl_nodup _ _ _) (fun x hx y hy hq => ?_)⟩
  · rw [mem_zSort]
    unfold ZVs.dl
    rw [mem_zDl]
    constructor
    · rintro ⟨h1, h2⟩; exact ⟨h1, h2, hb i h1 h2⟩
    · rintro ⟨h1, h2, _⟩; exact ⟨h1, h2⟩
  · obtain ⟨x1, x2⟩ := mem_zDl.mp hx
    obtain ⟨y1, y2⟩ := mem_zDl.mp hy
    exact hu x y x1 y1 x2 y2 hq
theorem sb_le {a b : Nat} (ha : a < 2147483648) (hb : b < 2147483648) : iN a - 1 ≤ iN b - 1 ↔ a ≤ b := by
  rw [Int32.le_iff_toInt_le]
  have h1 : ∀ x : Nat, x < 2147483648 → (iN x - 1).toInt = (x : Int) - 1 := by
    intro x hx
    by_cases h0 : x = 0
    · subst h0; rfl
    · have : iN x - 1 = iN (x - 1) := by rw [iL1, iN_sub (by omega)]
      rw [this, iN_toInt (by omega)]; omega
  rw [h1 a ha, h1 b hb]; omega
theorem m_nextOf_loop (K : px_K) (N : Nat) (hK : zKm K) (t : px_W) (s : px_S) (v : ZVs) (h : zRs s v) (hs : zSf v) (e a : Nat) (he : e < 2147483648) (ha : a < 2147483648) : ∀ (d i n : Nat), i + d = v.n → d < n → l_M_nextOf_28_4 K N n (iN e) (iN a - 1) (oN (zNx v.sb v.se e a i)) (iN i) s t = some (.inl (38, [oN (zNx v.sb v.se e a v.n)], s, t)) := by
  obtain ⟨r1, r2, r3, r4, r5, r6, r7, r8, r9, r10⟩ := h
  obtain ⟨hz, hsl, _⟩ := hs
  have hn64 : v.n ≤ 64 := hz.n64
  have en : s.1 26 * s.1 27 = iN v.n := by rw [r1, r2, iN_mul]
  intro d
  induction d with
  | zero =>
    intro i n hi hn
    obtain ⟨n, rfl⟩ : ∃ n', n = n' + 1 := ⟨n - 1, by omega⟩
    have hi : i = v.n := by omega
    rw [hi]
    unfold l_M_nextOf_28_4
    rw [en, if_pos ((iN_le (by omega) (by omega)).mpr (Nat.le_refl _))]
  | succ d ih =>
    intro i n hi hn
    obtain ⟨n, rfl⟩ : ∃ n', n = n' + 1 := ⟨n - 1, by omega⟩
    have hi64 : i < 64 := by omega
    obtain ⟨q1, q2, q3⟩ := r9 i hi64
    have e3 : iN i + (1 : Int32) = iN (i + 1) := by rw [iL1, iN_add]
    have hstep := ih (i + 1) n (by omega) (by omega)
    have hne : zNx v.sb v.se e a (i + 1) = if v.se i = e ∧ a < v.sb i then (match zNx v.sb v.se e a i with
      | none => some i
      | some j => if v.sb i < v.sb j then some i else some j) else zNx v.sb v.se e a i := rfl
    unfold l_M_nextOf_28_4
    rw [en, if_neg (by rw [iN_le (by omega) (by omega)]; omega), px_gd_of (by rw [hK.2.2.2.2.2.2.2.1]; exact iN_in (by omega) hi64), iN_nat (by omega), q1, q2, e3]
    by_cases hse : v.se i = e
    · rw [if_neg (by rw [iN_eq (hsl i hi64).2 he]; exact fun hx => hx hse), px_gd_of (by rw [hK.2.2.2.2.2.2.1]; exact iN_in (by omega) hi64)]
      by_cases hsb : a < v.sb i
      · rw [if_neg (by rw [sb_le (hsl i hi64).1 ha]; omega)]
        rw [if_pos ⟨hse, hsb⟩] at hne
        cases hz0 : zNx v.sb v.se e a i with
        | none =>
          rw [hz0] at hne
          dsimp only at hne
          rw [hne] at hstep
          rw [if_pos (by show (-1 : Int32) < 0; decide)]
          exact hstep
        | some j =>
          obtain ⟨j1, j2, j3, _⟩ := zNx_some hz0
          have hj64 : j < 64 := by omega
          rw [hz0] at hne
          dsimp only at hne
          have hoj : oN (some j) = iN j := rfl
          rw [if_neg (by show ¬ iN j < 0; exact iN_neg (by omega)), hoj, px_gd_of ⟨by rw [hK.2.2.2.2.2.2.1]; exact iN_in (by omega) hi64, by rw [hK.2.2.2.2.2.2.1]; exact iN_in (by omega) hj64⟩, iN_nat (by omega), (r9 j hj64).1]
          by_cases hlt : v.sb i < v.sb j
          · rw [if_neg (by rw [sb_le (hsl j hj64).1 (hsl i hi64).1]; omega)]
            rw [if_pos hlt] at hne
            rw [hne] at hstep
            exact hstep
          · rw [if_pos (by rw [sb_le (hsl j hj64).1 (hsl i hi64).1]; omega)]
            rw [if_neg hlt] at hne
            rw [hne] at hstep
            exact hstep
      · rw [if_pos (by rw [sb_le (hsl i hi64).1 ha]; omega)]
        rw [if_neg (fun hx => hsb hx.2)] at hne
        rw [hne] at hstep
        exact hstep
    · rw [if_pos (by rw [iN_eq (hsl i hi64).2 he]; exact hse)]
      rw [if_neg (fun hx => hse hx.1)] at hne
      rw [hne] at hstep
      exact hstep
theorem m_nextOf (K : px_K) (N : Nat) (hN : 100 ≤ N) (hK : zKm K) (t : px_W) (s : px_S) (v : ZVs) (h : zRs s v) (hs : zSf v) (e a : Nat) (he : e < 2147483648) (ha : a < 2147483648) : f_M_nextOf_28 K N (iN e) (iN a - 1) s t = some (.inl (some (.int (oN (zNx v.sb v.se e a v.n)))), s, t) := by
  have hn64 : v.n ≤ 64 := hs.1.n64
  have := m_nextOf_loop K N hK t s v h hs e a he ha v.n 0 N (by omega) (by omega)
  unfold f_M_nextOf_28
  have e0 : oN (zNx v.sb v.se e a 0) = (-1 : Int32) := rfl
  rw [e0, ← iL0] at this
  rw [this]
  rfl
/-! FRAMES AND ACTS of the reference's volume -/
/-- nothing changes but devices, power, slots, epochs and the rows 43, 45 -/
def zFv (s u : px_S) : Prop := (∀ c, c < 29 ∨ (38 < c ∧ c ≠ 43 ∧ c ≠ 45) → u.2.2.1 c = s.2.2.1 c) ∧ (∀ r, r < 29 ∨ 35 < r → u.1 r = s.1 r) ∧ u.2.1 = s.2.1 ∧ u.2.2.2 = s.2.2.2
theorem zFv_refl (s : px_S) : zFv s s := ⟨fun _ _ => rfl, fun _ _ => rfl, rfl, rfl⟩
theorem zFv_trans {s u v : px_S} (h1 : zFv s u) (h2 : zFv u v) : zFv s v := ⟨fun c hc => (h2.1 c hc).trans (h1.1 c hc), fun r a => (h2.2.1 r a).trans (h1.2.1 r a), h2.2.2.1.trans h1.2.2.1, h2.2.2.2.trans h1.2.2.2⟩
theorem zFv_fm {s u : px_S} (h : zFm s u) : zFv s u := ⟨fun c hc => h.1 c (by omega), fun r a => h.2.1 r (by omega) (by omega), h.2.2.1, h.2.2.2⟩
theorem zFv_fr1 {s u : px_S} (h : zFr1 s u) : zFv s u := ⟨fun c hc => h.1 c (by omega), fun r a => h.2.1 r (by omega) (by omega) (by omega), h.2.2.1, h.2.2.2⟩
theorem zFv_fs {s u : px_S} (h : zFs s u) : zFv s u := ⟨fun c hc => h.1 c (by omega), fun r a => by rw [h.2.1], h.2.2.1, h.2.2.2⟩
theorem zFv_sF {s : px_S} {c : Nat} {g : Nat → Int32} (hc : c = 43 ∨ c = 45) : zFv s (sF s c g) := ⟨fun d hd => sF_arr_ne (by omega), fun _ _ => rfl, rfl, rfl⟩
theorem zFv_sA {s : px_S} {c j : Nat} {x : Int32} (hc : (35 ≤ c ∧ c ≤ 38) ∨ c = 43 ∨ c = 45) : zFv s (sA s c j x) := ⟨fun d hd => by rw [sA_eq, sF_arr_ne (by omega)], fun _ _ => rfl, rfl, rfl⟩
theorem zFv_sR {s : px_S} {r : Nat} {x : Int32} (hr : 29 ≤ r ∧ r ≤ 35) : zFv s (sR s r x) := ⟨fun _ _ => rfl, fun q hq => by rw [sR_1, if_neg (by omega)], rfl, rfl⟩
theorem sA_arr (s : px_S) (c j : Nat) (x : Int32) : (sA s c j x).2.2.1 c = upd (s.2.2.1 c) j x := by rw [sA_eq, sF_arr]
theorem sA_arr_ne {s : px_S} {c d j : Nat} {x : Int32} (h : d ≠ c) : (sA s c j x).2.2.1 d = s.2.2.1 d := by rw [sA_eq, sF_arr_ne h]
theorem upd_self (f : Nat → Int32) (k : Nat) (x : Int32) : upd f k x k = x := if_pos rfl
theorem upd_ne {f : Nat → Int32} {k j : Nat} {x : Int32} (h : j ≠ k) : upd f k x j = f j := if_neg h
theorem zRv_row {s : px_S} {v : ZVs} (h : zRv s v) {c : Nat} {g : Nat → Int32} (hc : 38 < c) : zRv (sF s c g) v := ⟨zRw_row h.1 (by omega), zRs_row h.2 (by omega)⟩
theorem zRv_fm {s u : px_S} {v : ZVs} {p : ZPw} (h : zRv s v) (hf : zFm s u) (hw : zRw u p) : zRv u (v.s_p p) := ⟨hw, zRs_fm h.2 hf p⟩
theorem m_wr43 (K : px_K) (N : Nat) (hN : 2000 ≤ N) (hK : zKm K) (t : px_W) {s : px_S} {v : ZVs} (h : zRv s v) (k b : Nat) (x : ZBk) (hk : k < 2) (hb : b < zNb k) (hx : ∀ w, w < 16 → s.2.2.1 43 w = x w) : ∃ s', f_M_write_28_43 K N (iN k) (iN b) (iN 0) s t = some (.inl none, s', t) ∧ zRv s' (v.wr k b x) ∧ zFm s s' := by
  have hX : K.2.2 43 = 16 := hK.2.2.2.2.2.2.2.2.2.2.2.2.2.2.1
  obtain ⟨s', a1, a2, a3⟩ := m_write_43 K N hN hK t s v.p h.1 k b 0 x hk hb (by omega) (by omega) (fun w hw => by rw [Nat.zero_add]; exact hx w hw)
  exact ⟨s', a1, ⟨a2, zRs_fm h.2 a3 _⟩, a3⟩
theorem m_wr44 (K : px_K) (N : Nat) (hN : 2000 ≤ N) (hK : zKm K) (t : px_W) {s : px_S} {v : ZVs} (h : zRv s v) (k b : Nat) (x : ZBk) (hk : k < 2) (hb : b < zNb k) (hx : ∀ w, w < 16 → s.2.2.1 44 w = x w) : ∃ s', f_M_write_28_44 K N (iN k) (iN b) (iN 0) s t = some (.inl none, s', t) ∧ zRv s' (v.wr k b x) ∧ zFm s s' := by
  have hX : K.2.2 44 = 16 := hK.2.2.2.2.2.2.2.2.2.2.2.2.2.2.2.1
  obtain ⟨s', a1, a2, a3⟩ := m_write_44 K N hN hK t s v.p h.1 k b 0 x hk hb (by omega) (by omega) (fun w hw => by rw [Nat.zero_add]; exact hx w hw)
  exact ⟨s', a1, ⟨a2, zRs_fm h.2 a3 _⟩, a3⟩
theorem m_wr45 (K : px_K) (N : Nat) (hN : 2000 ≤ N) (hK : zKm K) (t : px_W) {s : px_S} {v : ZVs} (h : zRv s v) (k b : Nat) (x : ZBk) (hk : k < 2) (hb : b < zNb k) (hx : ∀ w, w < 16 → s.2.2.1 45 w = x w) : ∃ s', f_M_write_28_45 K N (iN k) (iN b) (iN 0) s t = some (.inl none, s', t) ∧ zRv s' (v.wr k b x) ∧ zFm s s' := by
  have hX : K.2.2 45 = 16 := hK.2.2.2.2.2.2.2.2.2.2.2.2.2.2.2.2
  obtain ⟨s', a1, a2, a3⟩ := m_write_45 K N hN hK t s v.p h.1 k b 0 x hk hb (by omega) (by omega) (fun w hw => by rw [Nat.zero_add]; exact hx w hw)
  exact ⟨s', a1, ⟨a2, zRs_fm h.2 a3 _⟩, a3⟩
theorem m_cp43 (K : px_K) (N : Nat) (hN : 2000 ≤ N) (hK : zKm K) (t : px_W) {s : px_S} {v : ZVs} (h : zRv s v) (k b : Nat) (hk : k < 2) (hb : b < zNb k) : ∃ s', f_M_copy_28_43 K N (iN k) (iN b) (iN 0) s t = some (.inl none, s', t) ∧ zRv s' v ∧ (∃ g, s' = sF s 43 g) ∧ ∀ w, w < 16 → s'.2.2.1 43 w = (v.p.dv k).now b w := by
  have hX : K.2.2 43 = 16 := hK.2.2.2.2.2.2.2.2.2.2.2.2.2.2.1
  have a1 := m_copy_43 K N (by omega) hK k b 0 hk hb (by omega) (by omega) v.p.dv s t h.1.1
  refine ⟨_, a1, zRv_row h (by omega), ⟨_, rfl⟩, fun w hw => ?_⟩
  rw [sF_arr]
  unfold va_cpy
  rw [if_pos (by omega)]
  have e : 0 + (w - 0) = w := by omega
  rw [e]
theorem m_th43 (K : px_K) (N : Nat) (hN : 2000 ≤ N) (hK : zKm K) (t : px_W) {s : px_S} {v : ZVs} (h : zRv s v) (a b c : Nat) : ∃ s', f_M_three_28_43 K N (iN a) (iN b) (iN c) s t = some (.inl none, s', t) ∧ zRv s' v ∧ (∃ g, s' = sF s 43 g) ∧ ∀ w, w < 16 → s'.2.2.1 43 w = zThree a b c w := by
  have hX : K.2.2 43 = 16 := hK.2.2.2.2.2.2.2.2.2.2.2.2.2.2.1
  obtain ⟨g, a1, a2⟩ := m_three_43 K N (by omega) hX a b c s t
  exact ⟨_, a1, zRv_row h (by omega), ⟨_, rfl⟩, fun w hw => by rw [sF_arr]; exact a2 w hw⟩
/-- a head is written and flushed -/
theorem m_head (K : px_K) (N : Nat) (hN : 2000 ≤ N) (hK : zKm K) (t : px_W) {s : px_S} {v : ZVs} (h : zRv s v) (k b : Nat) (x : ZBk) (hk : k < 2) (hb : b < zNb k) (hx : ∀ w, w < 16 → s.2.2.1 43 w = x w) {α : Type} {Q : α → Prop} {F : px_S → px_W → Option α} {g1 g2 : Nat → px_S → px_W → Option α} (hk2 : ∀ s', zRv s' ((v.wr k b x).fl k) → zFv s s' → wp (F s' t) Q) : wp (px_bv (f_M_write_28_43 K N (iN k) (iN b) (iN 0) s t) (fun u w => px_bv (f_M_flush_28 K N (iN k) u w) F g2) g1) Q := by
  obtain ⟨s1, a1, a2, a3⟩ := m_wr43 K N hN hK t h k b x hk hb hx
  obtain ⟨s2, b1, b2, b3⟩ := m_fl_act K N hN hK t s1 _ a2 k hk
  exact wp_bv a1 (wp_bv b1 (hk2 s2 b2 (zFv_trans (zFv_fm a3) (zFv_fm b3))))
/-! LANDING (the reference) -/
theorem m_ll0 (K : px_K) (N : Nat) (hX : K.2.2 45 = 16) (u1 u2 : Int32) (t : px_W) : ∀ (d m n : Nat) (s : px_S), m + d = 16 → d < n → wp (l_M_land1_28_15 K N n u1 u2 (iN m) s t) (zC 25 [] t (fun s' => (∃ g, s' = sF s 45 g) ∧ ∀ w, w < 16 → s'.2.2.1 45 w = if m ≤ w then 0 else s.2.2.1 45 w)) := by
  intro d
  induction d with
  | zero =>
    intro m n s hm hn
    obtain ⟨n, rfl⟩ : ∃ n', n = n' + 1 := ⟨n - 1, by omega⟩
    have hm : m = 16 := by omega
    subst hm
    unfold l_M_land1_28_15
    refine wp_if (by rw [iL16]; exact (iN_le (by omega) (by omega)).mpr (by omega)) (wp_rC ⟨⟨s.2.2.1 45, by rw [sF_triv]⟩, fun w hw => by rw [if_neg (by omega)]⟩)
  | succ d ih =>
    intro m n s hm hn
    obtain ⟨n, rfl⟩ : ∃ n', n = n' + 1 := ⟨n - 1, by omega⟩
    have e3 : iN m + (1 : Int32) = iN (m + 1) := by rw [iL1, iN_add]
    unfold l_M_land1_28_15
    rw [e3, iN_nat (by omega)]
    refine wp_ifn (by rw [iL16, iN_le (by omega) (by omega)]; omega) (wp_gd (by rw [hX]; exact iN_in (by omega) (by omega)) (wp_let ?_))
    refine wp_imp (ih (m + 1) n (sA s 45 m 0) (by omega) (by omega)) ?_
    rintro r ⟨s', h1, ⟨g, h2⟩, h3⟩
    refine ⟨s', h1, ⟨g, by rw [h2, sA_eq, sF_sF]⟩, fun w hw => ?_⟩
    rw [h3 w hw, sA_arr]
    by_cases hwm : w = m
    · subst hwm
      rw [if_neg (by omega), if_pos (by omega), upd_self]
    · rw [upd_ne hwm]
      by_cases hlt : m ≤ w
      · rw [if_pos (by omega), if_pos hlt]
      · rw [if_neg (by omega), if_neg hlt]
def zEp (v : ZVs) (e : Nat) : Prop := (∀ i, i < v.n → v.se i = e → 1 ≤ v.sb i ∧ v.sb i ≤ 106) ∧ (∀ i j, i < v.n → j < v.n → v.se i = e → v.se j = e → v.sb i = v.sb j → i = j) ∧ v.dirty e ≤ 16
theorem iN_pred {a : Nat} (h : 1 ≤ a) : iN a - 1 = iN (a - 1) := by rw [iL1, iN_sub h]
theorem m_ll1 (K : px_K) (N : Nat) (hN : 2000 ≤ N) (hK : zKm K) (t : px_W) (e : Nat) (he : e < 2147483648) : ∀ (l : List Nat) (j a n : Nat) (s : px_S) (v : ZVs), zRv s v → zSf v → zEp v e → zNl v e a l → j + l.length ≤ 16 → l.length < n → wp (l_M_land1_28_30 K N n (iN e) (iN j) (oN (zNx v.sb v.se e a v.n)) s t) (zC 68 [iN (j + l.length)] t (fun s' => zRv s' (ZVs.wrCopies l j v) ∧ zFv s s' ∧ ∀ w, w < 16 → s'.2.2.1 45 w = if j ≤ w ∧ w < j + l.length then iN (v.sb (l.getD (w - j) 0) - 1) else s.2.2.1 45 w)) := by
  have hX : K.2.2 45 = 16 := hK.2.2.2.2.2.2.2.2.2.2.2.2.2.2.2.2
  intro l
  induction l with
  | nil =>
    intro j a n s v h hs hp hl hj hn
    obtain ⟨n, rfl⟩ : ∃ n', n = n' + 1 := ⟨n - 1, by omega⟩
    rw [zNl_nil hl]
    unfold l_M_land1_28_30
    exact wp_if (by decide) (wp_rC ⟨h, zFv_refl s, fun w hw => by rw [if_neg (by rw [List.length_nil]; omega)]⟩)
  | cons x l ih =>
    intro j a n s v h hs hp hl hj hn
    obtain ⟨n, rfl⟩ : ∃ n', n = n' + 1 := ⟨n - 1, by omega⟩
    obtain ⟨x0, x1, x2, x3, x4⟩ := zNl_cons hl hp.2.1
    have hn64 : v.n ≤ 64 := hs.1.n64
    have hll : (x :: l).length = l.length + 1 := List.length_cons
    obtain ⟨b1, b2⟩ := hp.1 x x1 x2
    rw [x0]
    have hox : oN (some x) = iN x := rfl
    rw [hox]
    unfold l_M_land1_28_30
    have i50 : (50 : Int32) + iN x = iN (50 + x) := by have : (50 : Int32) = iN 50 := rfl
                                                       rw [this, iN_add]
    have i3 : (3 : Int32) + iN j = iN (3 + j) := by have : (3 : Int32) = iN 3 := rfl
                                                    rw [this, iN_add]
    have e3 : iN j + (1 : Int32) = iN (j + 1) := by rw [iL1, iN_add]
    rw [i50, i3, e3, iN_nat (by omega), iN_nat (by omega)]
    refine wp_ifn (iN_neg (by omega)) ?_
    obtain ⟨s1, c1, c2, ⟨g, c3⟩, c4⟩ := m_cp43 K N hN hK t h 1 (50 + x) (by omega) (by show 50 + x < 114; omega)
    refine wp_bv c1 ?_
    obtain ⟨s2, d1, d2, d3⟩ := m_wr43 K N hN hK t c2 0 (3 + j) (v.fn (50 + x)) (by omega) (by show 3 + j < 125; omega) c4
    refine wp_bv d1 ?_
    refine wp_gd ⟨by rw [hK.2.2.2.2.2.2.1]; exact iN_in (by omega) (by omega), by rw [hX]; exact iN_in (by omega) (by omega)⟩ (wp_let ?_)
    have f2 : zFv s s2 := zFv_trans (by rw [c3]; exact zFv_sF (Or.inl rfl)) (zFv_fm d3)
    have hv3 : zRv (sA s2 45 j (s2.2.2.1 35 x)) (v.wr 0 (3 + j) (v.fn (50 + x))) := zRv_row d2 (by omega)
    refine wp_gd (by rw [hK.2.2.2.2.2.2.1]; exact iN_in (by omega) (by omega)) ?_
    have e35 : (sA s2 45 j (s2.2.2.1 35 x)).2.2.1 35 x = iN (v.sb x) - 1 := (hv3.2.2.2.2.2.2.2.2.2.1 x (by omega)).1
    have e35' : s2.2.2.1 35 x = iN (v.sb x) - 1 := (d2.2.2.2.2.2.2.2.2.2.1 x (by omega)).1
    rw [e35]
    refine wp_bi (m_nextOf K N (by omega) hK t _ _ hv3.2 hs e (v.sb x) he (by omega)) ?_
    refine wp_imp (ih (j + 1) (v.sb x) n (sA s2 45 j (s2.2.2.1 35 x)) (v.wr 0 (3 + j) (v.fn (50 + x))) hv3 hs hp x4 (by omega) (by omega)) ?_
    rintro r ⟨s', h1, h2, h3, h4⟩
    refine ⟨s', ?_, h2, zFv_trans (zFv_trans f2 (zFv_sA (Or.inr (Or.inr rfl)))) h3, fun w hw => ?_⟩
    · rw [h1, hll]
      have : j + 1 + l.length = j + (l.length + 1) := by omega
      rw [this]
    · rw [h4 w hw, hll, sA_arr, e35', iN_pred b1]
      have f45 : s2.2.2.1 45 w = s.2.2.1 45 w := by rw [d3.1 45 (by omega), c3, sF_arr_ne (by omega)]
      by_cases hwj : w = j
      · subst hwj
        rw [if_neg (by omega), if_pos (by omega), upd_self, Nat.sub_self]; rfl
      · rw [upd_ne hwj]
        by_cases hin : j ≤ w ∧ w < j + (l.length + 1)
        · rw [if_pos (by omega), if_pos hin]
          have : w - j = (w - (j + 1)) + 1 := by omega
          rw [this]; rfl
        · rw [if_neg (by omega), if_neg hin, f45]
theorem m_ll2 (K : px_K) (N : Nat) (hN : 2000 ≤ N) (hK : zKm K) (t : px_W) (e : Nat) (he : e < 2147483648) : ∀ (l : List Nat) (a n : Nat) (s : px_S) (v : ZVs), zRv s v → zSf v → zEp v e → zNl v e a l → l.length < n → wp (l_M_land1_28_100 K N n (iN e) (oN (zNx v.sb v.se e a v.n)) s t) (zC 132 [] t (fun s' => zRv s' (ZVs.wrHomes l v) ∧ zFv s s')) := by
  intro l
  induction l with
  | nil =>
    intro a n s v h hs hp hl hn
    obtain ⟨n, rfl⟩ : ∃ n', n = n' + 1 := ⟨n - 1, by omega⟩
    rw [zNl_nil hl]
    unfold l_M_land1_28_100
    exact wp_if (by decide) (wp_rC ⟨h, zFv_refl s⟩)
  | cons x l ih =>
    intro a n s v h hs hp hl hn
    obtain ⟨n, rfl⟩ : ∃ n', n = n' + 1 := ⟨n - 1, by omega⟩
    obtain ⟨x0, x1, x2, x3, x4⟩ := zNl_cons hl hp.2.1
    have hn64 : v.n ≤ 64 := hs.1.n64
    have hll : (x :: l).length = l.length + 1 := List.length_cons
    obtain ⟨b1, b2⟩ := hp.1 x x1 x2
    rw [x0]
    have hox : oN (some x) = iN x := rfl
    rw [hox]
    unfold l_M_land1_28_100
    have i50 : (50 : Int32) + iN x = iN (50 + x) := by have : (50 : Int32) = iN 50 := rfl
                                                       rw [this, iN_add]
    rw [i50, iN_nat (by omega)]
    refine wp_ifn (iN_neg (by omega)) ?_
    obtain ⟨s1, c1, c2, ⟨g, c3⟩, c4⟩ := m_cp43 K N hN hK t h 1 (50 + x) (by omega) (by show 50 + x < 114; omega)
    refine wp_bv c1 ?_
    refine wp_gd (by rw [hK.2.2.2.2.2.2.1]; exact iN_in (by omega) (by omega)) ?_
    have e19 : (19 : Int32) + s1.2.2.1 35 x = iN (19 + (v.sb x - 1)) := by
      have : (19 : Int32) = iN 19 := rfl
      rw [(c2.2.2.2.2.2.2.2.2.2.1 x (by omega)).1, iN_pred b1, this, iN_add]
    rw [e19]
    obtain ⟨s2, d1, d2, d3⟩ := m_wr43 K N hN hK t c2 0 (19 + (v.sb x - 1)) (v.fn (50 + x)) (by omega) (by show _ < 125; omega) c4
    refine wp_bv d1 ?_
    refine wp_gd (by rw [hK.2.2.2.2.2.2.1]; exact iN_in (by omega) (by omega)) ?_
    rw [(d2.2.2.2.2.2.2.2.2.2.1 x (by omega)).1]
    refine wp_bi (m_nextOf K N (by omega) hK t _ _ d2.2 hs e (v.sb x) he (by omega)) ?_
    refine wp_imp (ih (v.sb x) n s2 (v.wr 0 (19 + (v.sb x - 1)) (v.fn (50 + x))) d2 hs hp x4 (by omega)) ?_
    rintro r ⟨s', h1, h2, h3⟩
    exact ⟨s', h1, h2, zFv_trans (zFv_trans (by rw [c3]; exact zFv_sF (Or.inl rfl)) (zFv_fm d3)) h3⟩
theorem setLanded_bd (e : Nat) : ∀ (i : Nat) (v : ZVs) (s : Nat), ((ZVs.setLanded e i v).sb s = v.sb s ∨ (ZVs.setLanded e i v).sb s = 0) ∧ ((ZVs.setLanded e i v).se s = v.se s ∨ (ZVs.setLanded e i v).se s = 0) ∧ (i ≤ s → (ZVs.setLanded e i v).sb s = v.sb s ∧ (ZVs.setLanded e i v).se s = v.se s) := by
  intro i
  induction i with
  | zero => intro v s; exact ⟨Or.inl rfl, Or.inl rfl, fun _ => ⟨rfl, rfl⟩⟩
  | succ i ih =>
    intro v s
    unfold ZVs.setLanded
    have key : ∀ u : ZVs, (u.sb s = v.sb s ∨ u.sb s = 0) ∧ (u.se s = v.se s ∨ u.se s = 0) ∧ (i ≤ s → u.sb s = v.sb s ∧ u.se s = v.se s) → ∀ x : ZVs, (x.sb = u.sb ∨ x.sb = zu u.sb i 0) → (x.se = u.se ∨ x.se = zu u.se i 0) → (x.sb s = v.sb s ∨ x.sb s = 0) ∧ (x.se s = v.se s ∨ x.se s = 0) ∧ (i + 1 ≤ s → x.sb s = v.sb s ∧ x.se s = v.se s) := by
      rintro u ⟨u1, u2, u3⟩ x x1 x2
      have a1 : x.sb s = u.sb s ∨ (x.sb s = 0 ∧ s = i) := by
        rcases x1 with x1 | x1
        · exact Or.inl (by rw [x1])
        · by_cases hsi : s = i
          · exact Or.inr ⟨by rw [x1, hsi, zu_self], hsi⟩
          · exact Or.inl (by rw [x1, zu_ne _ _ hsi])
      have a2 : x.se s = u.se s ∨ (x.se s = 0 ∧ s = i) := by
        rcases x2 with x2 | x2
        · exact Or.inl (by rw [x2])
        · by_cases hsi : s = i
          · exact Or.inr ⟨by rw [x2, hsi, zu_self], hsi⟩
          · exact Or.inl (by rw [x2, zu_ne _ _ hsi])
      refine ⟨?_, ?_, fun hs => ?_⟩
      · rcases a1 with a1 | a1
        · rw [a1]; exact u1
        · exact Or.inr a1.1
      · rcases a2 with a2 | a2
        · rw [a2]; exact u2
        · exact Or.inr a2.1
      · rcases a1 with a1 | a1
        · rcases a2 with a2 | a2
          · rw [a1, a2]; exact u3 (by omega)
          · omega
        · omega
    have hk := key _ (ih v s)
    dsimp only
    split
    · split
      · exact hk _ (Or.inl rfl) (Or.inr rfl)
      · split
        · exact hk _ (Or.inr rfl) (Or.inr rfl)
        · exact hk _ (Or.inl rfl) (Or.inr rfl)
    · exact hk _ (Or.inl rfl) (Or.inl rfl)
theorem setLanded_step (e i : Nat) (v : ZVs) : ZVs.setLanded e (i + 1) v = (if (ZVs.setLanded e i v).se i = e then (match ((ZVs.setLanded e i v).s_se (zu (ZVs.setLanded e i v).se i 0)).newest ((ZVs.setLanded e i v).sb i - 1) with
      | none => (ZVs.setLanded e i v).s_se (zu (ZVs.setLanded e i v).se i 0)
      | some j => if 0 < ((ZVs.setLanded e i v).s_se (zu (ZVs.setLanded e i v).se i 0)).se j then (((ZVs.setLanded e i v).s_se (zu (ZVs.setLanded e i v).se i 0)).s_sb (zu (ZVs.setLanded e i v).sb i 0)).s_mrk (zu (ZVs.setLanded e i v).mrk i false) else (ZVs.setLanded e i v).s_se (zu (ZVs.setLanded e i v).se i 0)) else ZVs.setLanded e i v) := by
  rfl
theorem zSf_of {v u : ZVs} (hs : zSf v) (h1 : u.sets = v.sets) (h2 : u.ways = v.ways) (h3 : u.eps = v.eps) (h4 : u.opn = v.opn) (h5 : ∀ s, (u.sb s = v.sb s ∨ u.sb s = 0) ∧ (u.se s = v.se s ∨ u.se s = 0)) : zSf u := by
  refine ⟨by rw [h1, h2, h3]; exact hs.1, fun i hi => ?_, by rw [h4]; exact hs.2.2⟩
  obtain ⟨a1, a2⟩ := hs.2.1 i hi
  obtain ⟨b1, b2⟩ := h5 i
  constructor
  · rcases b1 with b1 | b1 <;> rw [b1]
    · exact a1
    · omega
  · rcases b2 with b2 | b2 <;> rw [b2]
    · exact a2
    · omega
theorem m_ll3 (K : px_K) (N : Nat) (hN : 2000 ≤ N) (hK : zKm K) (t : px_W) (e : Nat) (he : e < 2147483648) (v : ZVs) (hs : zSf v) (hp : zEp v e) : ∀ (d i n : Nat) (s : px_S), zRv s (ZVs.setLanded e i v) → i + d = v.n → d < n → wp (l_M_land1_28_154 K N n (iN e) (iN i) s t) (zC 195 [] t (fun s' => zRv s' (ZVs.setLanded e v.n v) ∧ zFv s s')) := by
  have hn64 : v.n ≤ 64 := hs.1.n64
  intro d
  induction d with
  | zero =>
    intro i n s h hi hn
    obtain ⟨n, rfl⟩ : ∃ n', n = n' + 1 := ⟨n - 1, by omega⟩
    have hi : i = v.n := by omega
    subst hi
    obtain ⟨z1, _⟩ := zfr_setLanded e v.n v
    unfold l_M_land1_28_154
    have en : s.1 26 * s.1 27 = iN v.n := by rw [h.2.1, h.2.2.1, iN_mul, z1.s, z1.w]
    rw [en]
    exact wp_if ((iN_le (by omega) (by omega)).mpr (Nat.le_refl _)) (wp_rC ⟨h, zFv_refl s⟩)
  | succ d ih =>
    intro i n s h hi hn
    obtain ⟨n, rfl⟩ : ∃ n', n = n' + 1 := ⟨n - 1, by omega⟩
    obtain ⟨z1, z2, z3, z4, z5, z6, z7⟩ := zfr_setLanded e i v
    have hbd := setLanded_bd e i v
    have hst := setLanded_step e i v
    have e3 : iN i + (1 : Int32) = iN (i + 1) := by rw [iL1, iN_add]
    have key : ∀ u : ZVs, zRv s u → u.sets = v.sets → u.ways = v.ways → u.eps = v.eps → u.opn = v.opn → (∀ q, (u.sb q = v.sb q ∨ u.sb q = 0) ∧ (u.se q = v.se q ∨ u.se q = 0)) → u.sb i = v.sb i → u.se i = v.se i → ZVs.setLanded e (i + 1) v = (if u.se i = e then (match (u.s_se (zu u.se i 0)).newest (u.sb i - 1) with
      | none => u.s_se (zu u.se i 0)
      | some j => if 0 < (u.s_se (zu u.se i 0)).se j then ((u.s_se (zu u.se i 0)).s_sb (zu u.sb i 0)).s_mrk (zu u.mrk i false) else u.s_se (zu u.se i 0)) else u) → wp (l_M_land1_28_154 K N (n + 1) (iN e) (iN i) s t) (zC 195 [] t (fun s' => zRv s' (ZVs.setLanded e v.n v) ∧ zFv s s')) := by
      intro u hu u1 u2 u3 u4 u5 u6 u7 hstep
      have hun : u.n = v.n := by show u.sets * u.ways = v.sets * v.ways; rw [u1, u2]
      have hsu : zSf u := zSf_of hs u1 u2 u3 u4 u5
      have en : s.1 26 * s.1 27 = iN v.n := by rw [hu.2.1, hu.2.2.1, iN_mul, u1, u2]
      have hi64 : i < 64 := by omega
      obtain ⟨q1, q2, q3⟩ := hu.2.2.2.2.2.2.2.2.2.1 i hi64
      unfold l_M_land1_28_154
      rw [en, e3, iN_nat (by omega)]
      refine wp_ifn (by rw [iN_le (by omega) (by omega)]; omega) (wp_gd (by rw [hK.2.2.2.2.2.2.2.1]; exact iN_in (by omega) hi64) ?_)
      rw [q2]
      have hse31 := (hsu.2.1 i hi64).2
      by_cases hse : u.se i = e
      · rw [if_pos hse] at hstep
        obtain ⟨b1, b2⟩ := hp.1 i (by omega) (by rw [← u7]; exact hse)
        rw [← u6] at b1 b2
        refine wp_if ((iN_eq hse31 he).mpr hse) (wp_gd (by rw [hK.2.2.2.2.2.2.2.1]; exact iN_in (by omega) hi64) (wp_let (wp_gd (by rw [hK.2.2.2.2.2.2.1]; exact iN_in (by omega) hi64) ?_)))
        have hR1 : zRv (sA s 36 i (0 : Int32)) (u.s_se (zu u.se i 0)) := ⟨zRw_row hu.1 (by omega), zRs_se hu.2⟩
        have hs1 : zSf (u.s_se (zu u.se i 0)) := zSf_of hsu rfl rfl rfl rfl (fun q => ⟨Or.inl rfl, by
          by_cases hq : q = i
          · right; show zu u.se i 0 q = 0; rw [hq, zu_self]
          · left; show zu u.se i 0 q = u.se q; rw [zu_ne _ _ hq]⟩)
        have q1' : (sA s 36 i (0 : Int32)).2.2.1 35 i = iN (u.sb i - 1) := by rw [sA_arr_ne (by omega), q1, iN_pred b1]
        rw [q1']
        refine wp_bi (m_newest K N (by omega) hK t _ _ hR1.2 hs1 (u.sb i - 1) (by omega)) ?_
        cases hnw : (u.s_se (zu u.se i 0)).newest (u.sb i - 1) with
        | none =>
          exact absurd (show u.sb i = u.sb i - 1 + 1 by omega) (zNew_none.mp hnw i (by show i < u.n; omega))
        | some j =>
          obtain ⟨j1, j2, _⟩ := zNew_some hnw
          have hj64 : j < 64 := by have : j < u.n := j1; omega
          rw [hnw] at hstep
          dsimp only at hstep
          have hoj : oN (some j) = iN j := rfl
          rw [hoj, iN_nat (by omega)]
          refine wp_gd (by rw [hK.2.2.2.2.2.2.2.1]; exact iN_in (by omega) hj64) ?_
          rw [(hR1.2.2.2.2.2.2.2.2.2.1 j hj64).2.1]
          by_cases hpos : 0 < (u.s_se (zu u.se i 0)).se j
          · rw [if_pos hpos] at hstep
            refine wp_ifn (by rw [iL0, iN_le (hs1.2.1 j hj64).2 (by omega)]; omega) (wp_gd (by rw [hK.2.2.2.2.2.2.1]; exact iN_in (by omega) hi64) (wp_let (wp_gd (by rw [hK.2.2.2.2.2.2.2.2.1]; exact iN_in (by omega) hi64) (wp_let ?_))))
            have hR3 : zRv (sA (sA (sA s 36 i (0 : Int32)) 35 i (-1 : Int32)) 37 i (0 : Int32)) (((u.s_se (zu u.se i 0)).s_sb (zu u.sb i 0)).s_mrk (zu u.mrk i false)) := ⟨zRw_row (zRw_row hR1.1 (by omega)) (by omega), zRs_mrk (m := false) (zRs_sb (a := 0) hR1.2 rfl) rfl⟩
            rw [← hstep] at hR3
            refine wp_imp (ih (i + 1) n _ hR3 (by omega) (by omega)) ?_
            rintro r ⟨s', h1, h2, h3⟩
            exact ⟨s', h1, h2, zFv_trans (zFv_trans (zFv_trans (zFv_sA (by omega)) (zFv_sA (by omega))) (zFv_sA (by omega))) h3⟩
          · rw [if_neg hpos] at hstep
            refine wp_if (by rw [iL0, iN_le (hs1.2.1 j hj64).2 (by omega)]; omega) ?_
            rw [← hstep] at hR1
            refine wp_imp (ih (i + 1) n _ hR1 (by omega) (by omega)) ?_
            rintro r ⟨s', h1, h2, h3⟩
            exact ⟨s', h1, h2, zFv_trans (zFv_sA (by omega)) h3⟩
      · rw [if_neg hse] at hstep
        refine wp_ifn (fun hx => hse ((iN_eq hse31 he).mp hx)) ?_
        rw [← hstep] at hu
        exact ih (i + 1) n s hu (by omega) (by omega)
    exact key _ h z1.s z1.w z1.e z3 (fun q => ⟨(hbd q).1, (hbd q).2.1⟩) ((hbd i).2.2 (Nat.le_refl _)).1 ((hbd i).2.2 (Nat.le_refl _)).2 hst
theorem zList_row {v : ZVs} {l : List Nat} {g : Nat → Int32} (h : ∀ w, w < 16 → g w = if 0 ≤ w ∧ w < 0 + l.length then iN (v.sb (l.getD (w - 0) 0) - 1) else 0) : ∀ w, w < 16 → g w = zList l v.sb w := by
  intro w hw
  rw [h w hw]
  unfold zList
  by_cases hl : w < l.length
  · rw [if_pos (by omega), List.getElem?_eq_getElem hl, List.getD_eq_getElem?_getD, Nat.sub_zero, List.getElem?_eq_getElem hl]; rfl
  · rw [if_neg (by omega), List.getElem?_eq_none (by omega)]
/-- an epoch lands -/
theorem m_land1 (K : px_K) (N : Nat) (hN : 2000 ≤ N) (hK : zKm K) (t : px_W) (s : px_S) (v : ZVs) (h : zRv s v) (hs : zSf v) (hL : v.dn 1 1 = iN v.landed) (hl31 : v.landed + 1 < 2147483648) (hp : v.landed + 1 < v.opn → zEp v (v.landed + 1)) : ∃ s', f_M_land1_28 K N s t = some (.inl (some (.int (iN v.land1.1))), s', t) ∧ zRv s' v.land1.2 ∧ zFv s s' := by
  apply wp_A
  have hX : K.2.2 45 = 16 := hK.2.2.2.2.2.2.2.2.2.2.2.2.2.2.2.2
  have hlan := m_landed K N (by omega) hK t s v.p.dv h.1.1
  rw [show (v.p.dv 0).now 1 1 = iN v.landed from hL] at hlan
  have e1 : iN v.landed + (1 : Int32) = iN (v.landed + 1) := by rw [iL1, iN_add]
  unfold f_M_land1_28 ZVs.land1
  refine wp_bi hlan ?_
  rw [e1, h.2.2.2.2.2.1]
  by_cases hlt : v.landed + 1 < v.opn
  · have hep := hp hlt
    rw [if_pos hlt]
    dsimp only
    refine wp_if ((iN_lt hl31 hs.2.2).mpr hlt) ?_
    obtain ⟨e, hee⟩ : ∃ e, e = v.landed + 1 := ⟨_, rfl⟩
    rw [← hee] at hep ⊢
    have he31 : e < 2147483648 := by omega
    obtain ⟨s1, a1, ⟨g1, a2⟩, a3⟩ := wp_C (m_ll0 K N hX (iN e) (0 : Int32) t 16 0 N s (by omega) (by omega))
    refine wp_lp a1 (wp_if rfl ?_)
    show wp (px_bi _ _ _) _
    have h1 : zRv s1 v := by rw [a2]; exact zRv_row h (by omega)
    have hnl : zNl v e 0 (zSort v.sb (v.dl e)) := zNl_sort (fun i i1 i2 => (hep.1 i i1 i2).1) hep.2.1
    obtain ⟨l, hl⟩ : ∃ l, l = zSort v.sb (v.dl e) := ⟨_, rfl⟩
    have hlen : l.length ≤ 16 := by rw [hl, zSort_len]; exact hep.2.2
    rw [← hl] at hnl
    have hm1 : (-1 : Int32) = iN 0 - 1 := rfl
    rw [hm1]
    refine wp_bi (m_nextOf K N (by omega) hK t s1 v h1.2 hs e 0 he31 (by omega)) ?_
    obtain ⟨s2, b1, b2, b3, b4⟩ := wp_C (m_ll1 K N hN hK t e he31 l 0 0 N s1 v h1 hs hep hnl (by omega) (by omega))
    refine wp_lp b1 (wp_if rfl ?_)
    show wp (px_bv _ _ _) _
    rw [show (0 : Nat) + l.length = l.length from Nat.zero_add _] at *
    have hrow : ∀ w, w < 16 → s2.2.2.1 45 w = zList l v.sb w := by
      refine zList_row (fun w hw => ?_)
      rw [b4 w hw, a3 w hw, if_pos (c := 0 ≤ w) (Nat.zero_le _), Nat.zero_add]
    obtain ⟨z1, z2⟩ := zfr_wrCopies l 0 v
    obtain ⟨v1, hv1⟩ : ∃ v1, v1 = ZVs.wrCopies l 0 v := ⟨_, rfl⟩
    rw [← hv1] at b2 z1 z2
    obtain ⟨s3, c1, c2, c3⟩ := m_wr45 K N hN hK t b2 0 2 (zList l v.sb) (by omega) (by show 2 < 125; omega) hrow
    refine wp_bv c1 ?_
    obtain ⟨s4, d1, d2, d3⟩ := m_fl_act K N hN hK t s3 _ c2 0 (by omega)
    refine wp_bv d1 ?_
    obtain ⟨v2, hv2⟩ : ∃ v2, v2 = (v1.wr 0 2 (zList l v.sb)).fl 0 := ⟨_, rfl⟩
    rw [← hv2] at d2
    obtain ⟨s5, f1, f2, ⟨g5, f3⟩, f4⟩ := m_th43 K N hN hK t d2 1 e l.length
    refine wp_bv f1 ?_
    refine m_head K N hN hK t f2 0 1 (zThree 1 e l.length) (by omega) (by show 1 < 125; omega) f4 ?_
    intro s6 h6 k6
    obtain ⟨v3, hv3⟩ : ∃ v3, v3 = (v2.wr 0 1 (zThree 1 e l.length)).fl 0 := ⟨_, rfl⟩
    rw [← hv3] at h6
    have hm3 : v3.sb = v.sb ∧ v3.se = v.se ∧ v3.sets = v.sets ∧ v3.ways = v.ways ∧ v3.eps = v.eps ∧ v3.opn = v.opn := by
      rw [hv3, hv2]; exact ⟨z2.sb, z2.se, z1.s, z1.w, z1.e, z2.opn⟩
    obtain ⟨m1, m2, m3, m4, m5, m6⟩ := hm3
    have hn3 : v3.n = v.n := by show v3.sets * v3.ways = v.sets * v.ways; rw [m3, m4]
    have hs3 : zSf v3 := zSf_of hs m3 m4 m5 m6 (fun q => ⟨Or.inl (by rw [m1]), Or.inl (by rw [m2])⟩)
    have hep3 : zEp v3 e := by
      refine ⟨by rw [hn3, m1, m2]; exact hep.1, by rw [hn3, m1, m2]; exact hep.2.1, ?_⟩
      show (zDl v3.se e v3.n).length ≤ 16; rw [hn3, m2]; exact hep.2.2
    have hnl3 : zNl v3 e 0 l := by
      refine ⟨by rw [hn3, m1, m2]; exact hnl.1, by rw [m1]; exact hnl.2⟩
    refine wp_bi (m_nextOf K N (by omega) hK t s6 v3 h6.2 hs3 e 0 he31 (by omega)) ?_
    obtain ⟨s7, p1, p2, p3⟩ := wp_C (m_ll2 K N hN hK t e he31 l 0 N s6 v3 h6 hs3 hep3 hnl3 (by omega))
    refine wp_lp p1 (wp_if rfl ?_)
    show wp (px_bv _ _ _) _
    obtain ⟨y1, y2⟩ := zfr_wrHomes l v3
    obtain ⟨v4, hv4⟩ : ∃ v4, v4 = ZVs.wrHomes l v3 := ⟨_, rfl⟩
    rw [← hv4] at p2 y1 y2
    obtain ⟨s8, q1, q2, q3⟩ := m_fl_act K N hN hK t s7 _ p2 0 (by omega)
    refine wp_bv q1 ?_
    obtain ⟨s9, r1, r2, ⟨g9, r3⟩, r4⟩ := m_th43 K N hN hK t q2 0 e 0
    refine wp_bv r1 ?_
    refine m_head K N hN hK t r2 0 1 (zThree 0 e 0) (by omega) (by show 1 < 125; omega) r4 ?_
    intro s10 h10 k10
    obtain ⟨v5, hv5⟩ : ∃ v5, v5 = (((v4.fl 0).wr 0 1 (zThree 0 e 0)).fl 0) := ⟨_, rfl⟩
    rw [← hv5] at h10
    have hm5 : v5.sb = v.sb ∧ v5.se = v.se ∧ v5.sets = v.sets ∧ v5.ways = v.ways ∧ v5.eps = v.eps ∧ v5.opn = v.opn := by
      rw [hv5]; exact ⟨y2.sb.trans m1, y2.se.trans m2, y1.s.trans m3, y1.w.trans m4, y1.e.trans m5, y2.opn.trans m6⟩
    obtain ⟨x1, x2, x3, x4, x5, x6⟩ := hm5
    have hn5 : v5.n = v.n := by show v5.sets * v5.ways = v.sets * v.ways; rw [x3, x4]
    have hs5 : zSf v5 := zSf_of hs x3 x4 x5 x6 (fun q => ⟨Or.inl (by rw [x1]), Or.inl (by rw [x2])⟩)
    have hep5 : zEp v5 e := by
      refine ⟨by rw [hn5, x1, x2]; exact hep.1, by rw [hn5, x1, x2]; exact hep.2.1, ?_⟩
      show (zDl v5.se e v5.n).length ≤ 16; rw [hn5, x2]; exact hep.2.2
    obtain ⟨s11, w1, w2, w3⟩ := wp_C (m_ll3 K N hN hK t e he31 v5 hs5 hep5 v5.n 0 N s10 h10 (by omega) (by have : v5.n ≤ 64 := hs5.1.n64; omega))
    refine wp_lp w1 (wp_if rfl ?_)
    have hspec : ZVs.landOf e v = ZVs.setLanded e v5.n v5 := by
      rw [hv5, hv4, hv3, hv2, hv1, hl]; rfl
    rw [hspec]
    refine wp_rA ⟨w2, ?_⟩
    have k1 : zFv s s1 := by rw [a2]; exact zFv_sF (Or.inr rfl)
    have k5 : zFv s4 s5 := by rw [f3]; exact zFv_sF (Or.inl rfl)
    have k9 : zFv s8 s9 := by rw [r3]; exact zFv_sF (Or.inl rfl)
    exact zFv_trans k1 (zFv_trans b3 (zFv_trans (zFv_fm (zFm_trans c3 d3)) (zFv_trans k5 (zFv_trans k6 (zFv_trans p3 (zFv_trans (zFv_fm q3) (zFv_trans k9 (zFv_trans k10 w3))))))))
  · rw [if_neg hlt]
    exact wp_ifn (fun hx => hlt ((iN_lt hl31 hs.2.2).mp hx)) (wp_rA ⟨h, zFv_refl s⟩)
