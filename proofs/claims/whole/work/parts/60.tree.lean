/-! THE TREE: what its words say -/
def tI (T : ZSt) (i w : Nat) : Int32 := T (30 + i / 2) (8 * (i % 2) + w)
def tS (T : ZSt) (i : Nat) : Nat := n32 (tI T i 1)
def tF (T : ZSt) (i : Nat) : Nat := n32 (tI T i 6)
/-- the pointers: 0 to 3 direct, 4 to 19 by the indirect block, 20 the indirect block itself -/
def tP (T : ZSt) (i k : Nat) : Int32 := if k < 4 then tI T i (2 + k) else if k = 20 then tI T i 6 else if tF T i = 0 then 0 else T (tF T i) (k - 4)
def tB (T : ZSt) (i k : Nat) : Nat := n32 (tP T i k)
def tU (T : ZSt) (k : Nat) : Bool := (T 29 (k / 32)).toBitVec.getLsbD (k % 32)
def tN (T : ZSt) (d p : Nat) : Int32 := T (tB T d (p / 8)) (2 * (p % 8))
def tE (T : ZSt) (d p : Nat) : Int32 := T (tB T d (p / 8)) (2 * (p % 8) + 1)
/-- inodes and pointers -/
abbrev ZWa (T : ZSt) : Prop := (∀ i, i < 24 → tI T i 0 = 0 ∨ tI T i 0 = 1 ∨ tI T i 0 = 2) ∧ (tI T 0 0 = 1) ∧ (∀ i, i < 24 → tI T i 0 = 0 → ∀ w, w < 8 → tI T i w = 0) ∧ (∀ i, i < 24 → tI T i 0 = 1 → ∃ m, m ≤ 20 ∧ tI T i 1 = iN (8 * m) ∧ ∀ k, k < m → tB T i k ≠ 0) ∧ (∀ i, i < 24 → tI T i 0 = 2 → ∃ s, s ≤ 320 ∧ tI T i 1 = iN s) ∧ (∀ i k, i < 24 → k ≤ 20 → tP T i k = iN (tB T i k) ∧ (tB T i k = 0 ∨ (42 ≤ tB T i k ∧ tB T i k < 106))) ∧ (∀ i k j l, i < 24 → k ≤ 20 → j < 24 → l ≤ 20 → tB T i k ≠ 0 → tB T i k = tB T j l → i = j ∧ k = l) ∧ (∀ i k, i < 24 → k ≤ 20 → tB T i k ≠ 0 → tU T (tB T i k - 42) = true)
theorem ZWa.kd {T : ZSt} (h : ZWa T) : ∀ i, i < 24 → tI T i 0 = 0 ∨ tI T i 0 = 1 ∨ tI T i 0 = 2 := h.1
theorem ZWa.rt {T : ZSt} (h : ZWa T) : tI T 0 0 = 1 := h.2.1
theorem ZWa.fr {T : ZSt} (h : ZWa T) : ∀ i, i < 24 → tI T i 0 = 0 → ∀ w, w < 8 → tI T i w = 0 := h.2.2.1
theorem ZWa.ds {T : ZSt} (h : ZWa T) : ∀ i, i < 24 → tI T i 0 = 1 → ∃ m, m ≤ 20 ∧ tI T i 1 = iN (8 * m) ∧ ∀ k, k < m → tB T i k ≠ 0 := h.2.2.2.1
theorem ZWa.fs {T : ZSt} (h : ZWa T) : ∀ i, i < 24 → tI T i 0 = 2 → ∃ s, s ≤ 320 ∧ tI T i 1 = iN s := h.2.2.2.2.1
theorem ZWa.pv {T : ZSt} (h : ZWa T) : ∀ i k, i < 24 → k ≤ 20 → tP T i k = iN (tB T i k) ∧ (tB T i k = 0 ∨ (42 ≤ tB T i k ∧ tB T i k < 106)) := h.2.2.2.2.2.1
theorem ZWa.pd {T : ZSt} (h : ZWa T) : ∀ i k j l, i < 24 → k ≤ 20 → j < 24 → l ≤ 20 → tB T i k ≠ 0 → tB T i k = tB T j l → i = j ∧ k = l := h.2.2.2.2.2.2.1
theorem ZWa.pu {T : ZSt} (h : ZWa T) : ∀ i k, i < 24 → k ≤ 20 → tB T i k ≠ 0 → tU T (tB T i k - 42) = true := h.2.2.2.2.2.2.2
/-- an entry of a directory -/
def zEnt (T : ZSt) (d p i : Nat) : Prop := d < 24 ∧ tI T d 0 = 1 ∧ p < tS T d ∧ tN T d p ≠ 0 ∧ tE T d p = iN i
abbrev ZWb (T : ZSt) : Prop := (∀ d p, d < 24 → tI T d 0 = 1 → p < tS T d → tN T d p ≠ 0 → 0 < n32 (tN T d p) ∧ ∃ i, tE T d p = iN i ∧ 1 ≤ i ∧ i < 24 ∧ tI T i 0 ≠ 0) ∧ (∀ d p q, d < 24 → tI T d 0 = 1 → p < tS T d → q < tS T d → tN T d p ≠ 0 → tN T d p = tN T d q → p = q) ∧ (∀ d p e q i, zEnt T d p i → zEnt T e q i → d = e ∧ p = q) ∧ (∃ r : Nat → Nat, ∀ d p i, zEnt T d p i → i < 24 → r d < r i)
theorem ZWb.en {T : ZSt} (h : ZWb T) : ∀ d p, d < 24 → tI T d 0 = 1 → p < tS T d → tN T d p ≠ 0 → 0 < n32 (tN T d p) ∧ ∃ i, tE T d p = iN i ∧ 1 ≤ i ∧ i < 24 ∧ tI T i 0 ≠ 0 := h.1
theorem ZWb.eu {T : ZSt} (h : ZWb T) : ∀ d p q, d < 24 → tI T d 0 = 1 → p < tS T d → q < tS T d → tN T d p ≠ 0 → tN T d p = tN T d q → p = q := h.2.1
theorem ZWb.ep {T : ZSt} (h : ZWb T) : ∀ d p e q i, zEnt T d p i → zEnt T e q i → d = e ∧ p = q := h.2.2.1
theorem ZWb.er {T : ZSt} (h : ZWb T) : ∃ r : Nat → Nat, ∀ d p i, zEnt T d p i → i < 24 → r d < r i := h.2.2.2
/-- what lies behind a file's end -/
def zWc (T : ZSt) : Prop := ∀ i k w, i < 24 → tI T i 0 = 2 → k < 20 → w < 16 → tS T i ≤ 16 * k + w → tB T i k ≠ 0 → T (tB T i k) w = 0
abbrev ZW (T : ZSt) : Prop := (ZWa T) ∧ (ZWb T) ∧ (zWc T)
theorem ZW.a {T : ZSt} (h : ZW T) : ZWa T := h.1
theorem ZW.b {T : ZSt} (h : ZW T) : ZWb T := h.2.1
theorem ZW.c {T : ZSt} (h : ZW T) : zWc T := h.2.2
theorem ZWa.dsz {T : ZSt} (h : ZWa T) {i : Nat} (hi : i < 24) (hk : tI T i 0 = 1) : ∃ m, m ≤ 20 ∧ tS T i = 8 * m ∧ tI T i 1 = iN (8 * m) ∧ ∀ k, k < m → tB T i k ≠ 0 := by
  obtain ⟨m, h1, h2, h3⟩ := h.ds i hi hk
  exact ⟨m, h1, by unfold tS; rw [h2]; exact n32_iN (by omega), h2, h3⟩
/-! the same words where it matters -/
theorem tS_of {T T' : ZSt} {i : Nat} (h : tI T' i 1 = tI T i 1) : tS T' i = tS T i := by unfold tS; rw [h]
theorem ZWa.congr {T T' : ZSt} (h : ZWa T) (h1 : ∀ i w, i < 24 → w < 8 → tI T' i w = tI T i w) (h2 : ∀ i k, i < 24 → k ≤ 20 → tP T' i k = tP T i k) (h3 : ∀ i k, i < 24 → k ≤ 20 → tB T i k ≠ 0 → tU T' (tB T i k - 42) = true) : ZWa T' := by
  have hB : ∀ i k, i < 24 → k ≤ 20 → tB T' i k = tB T i k := fun i k hi hk => by unfold tB; rw [h2 i k hi hk]
  refine ⟨fun i hi => by rw [h1 i 0 hi (by omega)]; exact h.kd i hi, by rw [h1 0 0 (by omega) (by omega)]; exact h.rt, fun i hi hk w hw => ?_, fun i hi hk => ?_, fun i hi hk => ?_, fun i k hi hk => ?_, fun i k j l hi hk hj hl hn he => ?_, fun i k hi hk hn => ?_⟩
  · rw [h1 i 0 hi (by omega)] at hk; rw [h1 i w hi hw]; exact h.fr i hi hk w hw
  · rw [h1 i 0 hi (by omega)] at hk
    obtain ⟨m, m1, m2, m3⟩ := h.ds i hi hk
    exact ⟨m, m1, by rw [h1 i 1 hi (by omega)]; exact m2, fun k hk => by rw [hB i k hi (by omega)]; exact m3 k hk⟩
  · rw [h1 i 0 hi (by omega)] at hk; rw [h1 i 1 hi (by omega)]; exact h.fs i hi hk
  · rw [h2 i k hi hk, hB i k hi hk]; exact h.pv i k hi hk
  · rw [hB i k hi hk] at hn he; rw [hB j l hj hl] at he; exact h.pd i k j l hi hk hj hl hn he
  · rw [hB i k hi hk] at hn ⊢; exact h3 i k hi hk hn
theorem zEnt_congr {T T' : ZSt} {d p i : Nat} (h0 : d < 24 → tI T' d 0 = tI T d 0) (h1 : d < 24 → tI T d 0 = 1 → tI T' d 1 = tI T d 1) (h2 : d < 24 → tI T d 0 = 1 → p < tS T d → tN T' d p = tN T d p ∧ tE T' d p = tE T d p) : zEnt T' d p i ↔ zEnt T d p i := by
  unfold zEnt
  constructor
  · rintro ⟨a1, a2, a3, a4, a5⟩
    rw [h0 a1] at a2
    rw [tS_of (h1 a1 a2)] at a3
    have := h2 a1 a2 a3
    rw [this.1] at a4; rw [this.2] at a5
    exact ⟨a1, a2, a3, a4, a5⟩
  · rintro ⟨a1, a2, a3, a4, a5⟩
    have := h2 a1 a2 a3
    exact ⟨a1, by rw [h0 a1]; exact a2, by rw [tS_of (h1 a1 a2)]; exact a3, by rw [this.1]; exact a4, by rw [this.2]; exact a5⟩
theorem ZWb.congr {T T' : ZSt} (h : ZWb T) (h0 : ∀ i, i < 24 → tI T' i 0 = tI T i 0) (h1 : ∀ d, d < 24 → tI T d 0 = 1 → tI T' d 1 = tI T d 1) (h2 : ∀ d p, d < 24 → tI T d 0 = 1 → p < tS T d → tN T' d p = tN T d p ∧ tE T' d p = tE T d p) : ZWb T' := by
  have hE : ∀ d p i, zEnt T' d p i ↔ zEnt T d p i := fun d p i => zEnt_congr (fun hd => h0 d hd) (fun hd hk => h1 d hd hk) (fun hd hk hp => h2 d p hd hk hp)
  refine ⟨fun d p hd hk hp hn => ?_, fun d p q hd hk hp hq hn he => ?_, fun d p e q i a b => ?_, ?_⟩
  · rw [h0 d hd] at hk
    rw [tS_of (h1 d hd hk)] at hp
    obtain ⟨e1, e2⟩ := h2 d p hd hk hp
    rw [e1] at hn ⊢
    obtain ⟨q1, i, q2, q3, q4, q5⟩ := h.en d p hd hk hp hn
    exact ⟨q1, i, by rw [e2]; exact q2, q3, q4, by rw [h0 i q4]; exact q5⟩
  · rw [h0 d hd] at hk
    rw [tS_of (h1 d hd hk)] at hp hq
    rw [(h2 d p hd hk hp).1] at hn he
    rw [(h2 d q hd hk hq).1] at he
    exact h.eu d p q hd hk hp hq hn he
  · exact h.ep d p e q i ((hE d p i).mp a) ((hE e q i).mp b)
  · obtain ⟨r, hr⟩ := h.er
    exact ⟨r, fun d p i a hi => hr d p i ((hE d p i).mp a) hi⟩
theorem zWc_congr {T T' : ZSt} (h : zWc T) (h1 : ∀ i w, i < 24 → w < 8 → tI T' i w = tI T i w) (h2 : ∀ i k, i < 24 → k < 20 → tB T' i k = tB T i k) (h3 : ∀ i k w, i < 24 → tI T i 0 = 2 → k < 20 → w < 16 → tB T i k ≠ 0 → tS T i ≤ 16 * k + w → T' (tB T i k) w = T (tB T i k) w) : zWc T' := by
  intro i k w hi hk hkk hw hs hn
  rw [h1 i 0 hi (by omega)] at hk
  rw [tS_of (h1 i 1 hi (by omega))] at hs
  rw [h2 i k hi hkk] at hn ⊢
  rw [h3 i k w hi hk hkk hw hn hs]
  exact h i k w hi hk hkk hw hs hn
/-! ONE WORD -/
def zt (T : ZSt) (b w : Nat) (x : Int32) : ZSt := zu T b (zu (T b) w x)
theorem zt_self (T : ZSt) (b w : Nat) (x : Int32) : zt T b w x b w = x := by unfold zt; rw [zu_self, zu_self]
theorem zt_blk {T : ZSt} {b c w : Nat} {x : Int32} (h : c ≠ b) : zt T b w x c = T c := zu_ne _ _ h
theorem zt_wrd {T : ZSt} {b w v : Nat} {x : Int32} (h : v ≠ w) : zt T b w x b v = T b v := by unfold zt; rw [zu_self, zu_ne _ _ h]
theorem zt_ne {T : ZSt} {b c w v : Nat} {x : Int32} (h : c ≠ b ∨ v ≠ w) : zt T b w x c v = T c v := by
  by_cases hc : c = b
  · subst hc
    exact zt_wrd (by rcases h with h | h; exact absurd rfl h; exact h)
  · rw [zt_blk hc]
theorem tI_out {T T' : ZSt} (h : ∀ b, 30 ≤ b → b < 42 → T' b = T b) {i w : Nat} (hi : i < 24) : tI T' i w = tI T i w := by
  unfold tI; rw [h _ (by omega) (by omega)]
/-- nothing in the inodes changes, nor in an indirect block -/
theorem tP_out {T T' : ZSt} {i k : Nat} (hi : i < 24) (hk : k ≤ 20) (h : ∀ b, 30 ≤ b → b < 42 → T' b = T b) (h2 : tF T i ≠ 0 → 4 ≤ k → k < 20 → T' (tF T i) (k - 4) = T (tF T i) (k - 4)) : tP T' i k = tP T i k := by
  have hF : tF T' i = tF T i := by unfold tF; rw [tI_out h hi]
  unfold tP
  by_cases h4 : k < 4
  · rw [if_pos h4, if_pos h4, tI_out h hi]
  · rw [if_neg h4, if_neg h4]
    by_cases h20 : k = 20
    · rw [if_pos h20, if_pos h20, tI_out h hi]
    · rw [if_neg h20, if_neg h20, hF]
      by_cases hf : tF T i = 0
      · rw [if_pos hf, if_pos hf]
      · rw [if_neg hf, if_neg hf]; exact h2 hf (by omega) (by omega)
theorem tF_eq (T : ZSt) (i : Nat) : tF T i = tB T i 20 := by unfold tB tP tF; rfl
/-- a write into a block that no inode has for a pointer block or a directory -/
theorem ZW.data {T T' : ZSt} (h : ZW T) {b : Nat} (hb : 42 ≤ b) (hT : ∀ c, c ≠ b → T' c = T c) (hf : ∀ i, i < 24 → tF T i ≠ b) (hd : ∀ d k, d < 24 → tI T d 0 = 1 → 8 * k < tS T d → tB T d k ≠ b) (hz : ∀ i k w, i < 24 → tI T i 0 = 2 → k < 20 → w < 16 → tB T i k = b → tS T i ≤ 16 * k + w → T' b w = 0) : ZW T' := by
  have e1 : ∀ c, 30 ≤ c → c < 42 → T' c = T c := fun c _ h2 => hT c (by omega)
  have e2 : ∀ i k, i < 24 → k ≤ 20 → tP T' i k = tP T i k := fun i k hi hk => tP_out hi hk e1 (fun _ _ _ => by rw [hT _ (hf i hi)])
  have e3 : ∀ i k, i < 24 → k ≤ 20 → tB T' i k = tB T i k := fun i k hi hk => by unfold tB; rw [e2 i k hi hk]
  refine ⟨h.a.congr (fun i w hi _ => tI_out e1 hi) e2 (fun i k hi hk hn => ?_), h.b.congr (fun i hi => tI_out e1 hi) (fun d hd' _ => tI_out e1 hd') (fun d p hd' hk hp => ?_), ?_⟩
  · have := h.a.pu i k hi hk hn
    unfold tU at *; rw [hT 29 (by omega)]; exact this
  · obtain ⟨m, m1, m2, _⟩ := h.a.dsz hd' hk
    have := hd d (p / 8) hd' hk (by omega)
    unfold tN tE
    rw [e3 d (p / 8) hd' (by omega), hT _ this]
    exact ⟨rfl, rfl⟩
  · intro i k w hi hk hkk hw hs hn
    rw [tI_out e1 hi] at hk
    rw [tS_of (tI_out e1 hi)] at hs
    rw [e3 i k hi (by omega)] at hn ⊢
    by_cases hc : tB T i k = b
    · rw [hc]; exact hz i k w hi hk hkk hw hc hs
    · rw [hT _ hc]; exact h.c i k w hi hk hkk hw hs hn
/-- the map of used blocks may say more -/
theorem ZW.map {T T' : ZSt} (h : ZW T) (hT : ∀ c, c ≠ 29 → T' c = T c) (hu : ∀ i k, i < 24 → k ≤ 20 → tB T i k ≠ 0 → tU T' (tB T i k - 42) = true) : ZW T' := by
  have e1 : ∀ c, 30 ≤ c → c < 42 → T' c = T c := fun c _ h2 => hT c (by omega)
  have hf : ∀ i, i < 24 → tF T i ≠ 29 := fun i hi hx => by
    have := (h.a.pv i 20 hi (by omega)).2; rw [← tF_eq] at this; omega
  have e2 : ∀ i k, i < 24 → k ≤ 20 → tP T' i k = tP T i k := fun i k hi hk => tP_out hi hk e1 (fun _ _ _ => by rw [hT _ (hf i hi)])
  have e3 : ∀ i k, i < 24 → k ≤ 20 → tB T' i k = tB T i k := fun i k hi hk => by unfold tB; rw [e2 i k hi hk]
  have e4 : ∀ i k, i < 24 → k ≤ 20 → tB T i k ≠ 29 := fun i k hi hk hx => by
    have := (h.a.pv i k hi hk).2; omega
  refine ⟨h.a.congr (fun i w hi _ => tI_out e1 hi) e2 hu, h.b.congr (fun i hi => tI_out e1 hi) (fun d hd' _ => tI_out e1 hd') (fun d p hd' hk hp => ?_), zWc_congr h.c (fun i w hi _ => tI_out e1 hi) (fun i k hi hk => e3 i k hi (by omega)) (fun i k w hi _ hk _ _ _ => by rw [hT _ (e4 i k hi (by omega))])⟩
  obtain ⟨m, m1, m2, _⟩ := h.a.dsz hd' hk
  unfold tN tE
  rw [e3 d (p / 8) hd' (by omega), hT _ (e4 d (p / 8) hd' (by omega))]
  exact ⟨rfl, rfl⟩
theorem tI_zt {T : ZSt} {i w j v : Nat} {x : Int32} (hw : w < 8) (hv : v < 8) : tI (zt T (30 + i / 2) (8 * (i % 2) + w) x) j v = if j = i ∧ v = w then x else tI T j v := by
  unfold tI
  by_cases h : j = i ∧ v = w
  · rw [if_pos h, h.1, h.2]; exact zt_self _ _ _ _
  · rw [if_neg h]
    refine zt_ne ?_
    by_cases hji : j = i
    · right; subst hji; have : v ≠ w := fun hx => h ⟨rfl, hx⟩; omega
    · by_cases h2 : 30 + j / 2 = 30 + i / 2
      · right; omega
      · exact Or.inl h2
/-- the pointers after an inode's word has changed -/
theorem tP_zt {T : ZSt} {i w j k : Nat} {x : Int32} (hi : i < 24) (hw : w < 8) (hj : j < 24) (hk : k ≤ 20) (hf : tF T j < 30 ∨ 42 ≤ tF T j) (hx : w = 6 → j = i → k < 4 ∨ k = 20) (hv : ¬ (j = i ∧ ((k < 4 ∧ w = 2 + k) ∨ (k = 20 ∧ w = 6)))) : tP (zt T (30 + i / 2) (8 * (i % 2) + w) x) j k = tP T j k := by
  unfold tP
  by_cases h4 : k < 4
  · rw [if_pos h4, if_pos h4, tI_zt hw (by omega), if_neg]
    rintro ⟨h1, h2⟩; exact hv ⟨h1, Or.inl ⟨h4, h2.symm⟩⟩
  · rw [if_neg h4, if_neg h4]
    by_cases h20 : k = 20
    · rw [if_pos h20, if_pos h20, tI_zt hw (by omega), if_neg]
      rintro ⟨h1, h2⟩; exact hv ⟨h1, Or.inr ⟨h20, h2.symm⟩⟩
    · rw [if_neg h20, if_neg h20]
      have hF : tF (zt T (30 + i / 2) (8 * (i % 2) + w) x) j = tF T j := by
        unfold tF
        rw [tI_zt hw (by omega), if_neg]
        rintro ⟨h1, h2⟩
        rcases hx h2.symm h1 with q | q
        · exact h4 q
        · exact h20 q
      rw [hF]
      by_cases hf0 : tF T j = 0
      · rw [if_pos hf0, if_pos hf0]
      · rw [if_neg hf0, if_neg hf0]
        rw [zt_ne]
        left
        intro hh
        omega
/-! THE TREE STAYS WELL FORMED: elementary changes -/
/-- a pointer is set to a fresh block, or to none -/
theorem ZW.setPtr {T T' : ZSt} (h : ZW T) {i k b : Nat} (hi : i < 24) (hk : k ≤ 20) (hk0 : tI T i 0 ≠ 0) (hb : b = 0 ∨ (42 ≤ b ∧ b < 106 ∧ (∀ j l, j < 24 → l ≤ 20 → tB T j l ≠ b) ∧ tU T (b - 42) = true))
    (hI : ∀ j w, j < 24 → w < 8 → ¬ (j = i ∧ ((k < 4 ∧ w = 2 + k) ∨ (k = 20 ∧ w = 6))) → tI T' j w = tI T j w)
    (hP : ∀ j l, j < 24 → l ≤ 20 → ¬ (j = i ∧ l = k) → tP T' j l = tP T j l) (hPk : tP T' i k = iN b) (hU : ∀ q, tU T' q = tU T q)
    (hD : tI T i 0 = 1 → tS T i ≤ 8 * k) (hz : tI T i 0 = 2 → k < 20 → b ≠ 0 → ∀ w, w < 16 → T' b w = 0)
    (hB : ∀ j l, j < 24 → l < 20 → tB T j l ≠ 0 → T' (tB T j l) = T (tB T j l)) : ZW T' := by
  have hb31 : b < 2147483648 := by omega
  have hBk : tB T' i k = b := by unfold tB; rw [hPk]; exact n32_iN hb31
  have hBo : ∀ j l, j < 24 → l ≤ 20 → ¬ (j = i ∧ l = k) → tB T' j l = tB T j l := fun j l hj hl hx => by unfold tB; rw [hP j l hj hl hx]
  have e0 : ∀ j, j < 24 → tI T' j 0 = tI T j 0 := fun j hj => hI j 0 hj (by omega) (by omega)
  have e1 : ∀ j, j < 24 → tI T' j 1 = tI T j 1 := fun j hj => hI j 1 hj (by omega) (by omega)
  have hin : ∀ d p, d < 24 → tI T d 0 = 1 → p < tS T d → ¬ (d = i ∧ p / 8 = k) ∧ p / 8 < 20 ∧ tB T d (p / 8) ≠ 0 := by
    intro d p hd hkd hp
    obtain ⟨m, m1, m2, m3, m4⟩ := h.a.dsz hd hkd
    refine ⟨fun hx => ?_, by omega, m4 _ (by omega)⟩
    have hkd' := hkd
    rw [hx.1] at hkd' hp
    have := hD hkd'
    omega
  refine ⟨⟨fun j hj => by rw [e0 j hj]; exact h.a.kd j hj, by rw [e0 0 (by omega)]; exact h.a.rt, fun j hj hj0 w hw => ?_, fun j hj hj1 => ?_, fun j hj hj2 => ?_, fun j l hj hl => ?_, fun j l j' l' hj hl hj' hl' hn he => ?_, fun j l hj hl hn => ?_⟩, h.b.congr e0 (fun d hd _ => e1 d hd) (fun d p hd hkd hp => ?_), ?_⟩
  · rw [e0 j hj] at hj0
    have hji : j ≠ i := fun hx => hk0 (hx ▸ hj0)
    rw [hI j w hj hw (fun hx => hji hx.1)]
    exact h.a.fr j hj hj0 w hw
  · rw [e0 j hj] at hj1
    obtain ⟨m, m1, m2, m3⟩ := h.a.ds j hj hj1
    refine ⟨m, m1, by rw [e1 j hj]; exact m2, fun l hl => ?_⟩
    by_cases hx : j = i ∧ l = k
    · rw [hx.1] at hj1 m2
      have := hD hj1
      unfold tS at this
      rw [m2, n32_iN (by omega)] at this
      omega
    · rw [hBo j l hj (by omega) hx]; exact m3 l hl
  · rw [e0 j hj] at hj2; rw [e1 j hj]; exact h.a.fs j hj hj2
  · by_cases hx : j = i ∧ l = k
    · rw [hx.1, hx.2, hBk, hPk]
      exact ⟨rfl, by omega⟩
    · rw [hP j l hj hl hx, hBo j l hj hl hx]; exact h.a.pv j l hj hl
  · by_cases hx : j = i ∧ l = k
    · by_cases hx' : j' = i ∧ l' = k
      · omega
      · exfalso
        rw [hx.1, hx.2, hBk] at hn he
        rw [hBo j' l' hj' hl' hx'] at he
        rcases hb with hb | hb
        · exact hn hb
        · exact hb.2.2.1 j' l' hj' hl' he.symm
    · rw [hBo j l hj hl hx] at hn he
      by_cases hx' : j' = i ∧ l' = k
      · exfalso
        rw [hx'.1, hx'.2, hBk] at he
        rcases hb with hb | hb
        · exact hn (he.trans hb)
        · exact hb.2.2.1 j l hj hl he
      · rw [hBo j' l' hj' hl' hx'] at he
        exact h.a.pd j l j' l' hj hl hj' hl' hn he
  · rw [hU]
    by_cases hx : j = i ∧ l = k
    · rw [hx.1, hx.2, hBk] at hn ⊢
      rcases hb with hb | hb
      · exact absurd hb hn
      · exact hb.2.2.2
    · rw [hBo j l hj hl hx] at hn ⊢; exact h.a.pu j l hj hl hn
  · obtain ⟨q1, q2, q3⟩ := hin d p hd hkd hp
    unfold tN tE
    rw [hBo d (p / 8) hd (by omega) q1, hB d (p / 8) hd q2 q3]
    exact ⟨rfl, rfl⟩
  · intro j l w hj hj2 hl hw hs hn
    rw [e0 j hj] at hj2
    rw [tS_of (e1 j hj)] at hs
    by_cases hx : j = i ∧ l = k
    · rw [hx.1] at hj2
      rw [hx.1, hx.2, hBk] at hn ⊢
      exact hz hj2 (by omega) hn w hw
    · rw [hBo j l hj (by omega) hx] at hn ⊢
      rw [hB j l hj hl hn]
      exact h.c j l w hj hj2 hl hw hs hn
/-- nothing of the inodes changes but a size -/
theorem ZW.setSize {T T' : ZSt} (h : ZW T) {i s : Nat} (hi : i < 24) (hs : s ≤ 320) (hI : ∀ j w, j < 24 → w < 8 → ¬ (j = i ∧ w = 1) → tI T' j w = tI T j w) (hI1 : tI T' i 1 = iN s)
    (hP : ∀ j l, j < 24 → l ≤ 20 → tP T' j l = tP T j l) (hU : ∀ q, tU T' q = tU T q) (hB : ∀ j l, j < 24 → l < 20 → tB T j l ≠ 0 → T' (tB T j l) = T (tB T j l)) (hk0 : tI T i 0 ≠ 0)
    (hd : tI T i 0 = 1 → ∃ m, m ≤ 20 ∧ s = 8 * m ∧ tS T i ≤ s ∧ (∀ k, k < m → tB T i k ≠ 0) ∧ ∀ p, tS T i ≤ p → p < s → tN T i p = 0)
    (hf : tI T i 0 = 2 → ∀ k w, k < 20 → w < 16 → s ≤ 16 * k + w → tB T i k ≠ 0 → T (tB T i k) w = 0) : ZW T' := by
  have hBo : ∀ j l, j < 24 → l ≤ 20 → tB T' j l = tB T j l := fun j l hj hl => by unfold tB; rw [hP j l hj hl]
  have e0 : ∀ j, j < 24 → tI T' j 0 = tI T j 0 := fun j hj => hI j 0 hj (by omega) (by omega)
  have e1 : ∀ j, j < 24 → j ≠ i → tI T' j 1 = tI T j 1 := fun j hj hx => hI j 1 hj (by omega) (by omega)
  have hS : tS T' i = s := by unfold tS; rw [hI1]; exact n32_iN (by omega)
  have hNE : ∀ d p, d < 24 → p / 8 < 20 → tB T d (p / 8) ≠ 0 → tN T' d p = tN T d p ∧ tE T' d p = tE T d p := by
    intro d p hd hp hn
    unfold tN tE
    rw [hBo d (p / 8) hd (by omega), hB d (p / 8) hd hp hn]
    exact ⟨rfl, rfl⟩
  -- entries are the same
  have hE : ∀ d p, d < 24 → tI T d 0 = 1 → p < tS T' d → tN T' d p ≠ 0 → p < tS T d ∧ tN T' d p = tN T d p ∧ tE T' d p = tE T d p := by
    intro d p hd' hkd hp hn
    by_cases hdi : d = i
    · subst hdi
      obtain ⟨m, m1, m2, m3, m4, m5⟩ := hd hkd
      rw [hS] at hp
      obtain ⟨n1, n2⟩ := hNE d p hd' (by omega) (m4 _ (by omega))
      refine ⟨?_, n1, n2⟩
      by_cases hlt : p < tS T d
      · exact hlt
      · exact absurd (n1.trans (m5 p (by omega) hp)) hn
    · rw [tS_of (e1 d hd' hdi)] at hp
      obtain ⟨m, m1, m2, m3, m4⟩ := h.a.dsz hd' hkd
      obtain ⟨n1, n2⟩ := hNE d p hd' (by omega) (m4 _ (by omega))
      exact ⟨hp, n1, n2⟩
  have hE2 : ∀ d p, d < 24 → tI T d 0 = 1 → p < tS T d → p < tS T' d := by
    intro d p hd' hkd hp
    by_cases hdi : d = i
    · subst hdi
      obtain ⟨m, m1, m2, m3, _⟩ := hd hkd
      rw [hS]; omega
    · rw [tS_of (e1 d hd' hdi)]; exact hp
  have hEnt : ∀ d p j, zEnt T' d p j → zEnt T d p j := by
    rintro d p j ⟨a1, a2, a3, a4, a5⟩
    rw [e0 d a1] at a2
    obtain ⟨b1, b2, b3⟩ := hE d p a1 a2 a3 a4
    rw [b2] at a4; rw [b3] at a5
    exact ⟨a1, a2, b1, a4, a5⟩
  refine ⟨⟨fun j hj => by rw [e0 j hj]; exact h.a.kd j hj, by rw [e0 0 (by omega)]; exact h.a.rt, fun j hj hj0 w hw => ?_, fun j hj hj1 => ?_, fun j hj hj2 => ?_, fun j l hj hl => by rw [hP j l hj hl, hBo j l hj hl]; exact h.a.pv j l hj hl, fun j l j' l' hj hl hj' hl' hn he => ?_, fun j l hj hl hn => ?_⟩, ⟨fun d p hd' hkd hp hn => ?_, fun d p q hd' hkd hp hq hn he => ?_, fun d p e q j a b => h.b.ep d p e q j (hEnt d p j a) (hEnt e q j b), ?_⟩, ?_⟩
  · rw [e0 j hj] at hj0
    have hji : j ≠ i := fun hx => hk0 (hx ▸ hj0)
    rw [hI j w hj hw (fun hx => hji hx.1)]
    exact h.a.fr j hj hj0 w hw
  · rw [e0 j hj] at hj1
    by_cases hji : j = i
    · subst hji
      obtain ⟨m, m1, m2, m3, m4, m5⟩ := hd hj1
      exact ⟨m, m1, by rw [hI1, m2], fun k hk => by rw [hBo j k hj (by omega)]; exact m4 k hk⟩
    · obtain ⟨m, m1, m2, m3⟩ := h.a.ds j hj hj1
      exact ⟨m, m1, by rw [e1 j hj hji]; exact m2, fun k hk => by rw [hBo j k hj (by omega)]; exact m3 k hk⟩
  · rw [e0 j hj] at hj2
    by_cases hji : j = i
    · subst hji; exact ⟨s, hs, hI1⟩
    · rw [e1 j hj hji]; exact h.a.fs j hj hj2
  · rw [hBo j l hj hl] at hn he; rw [hBo j' l' hj' hl'] at he
    exact h.a.pd j l j' l' hj hl hj' hl' hn he
  · rw [hBo j l hj hl] at hn ⊢; rw [hU]; exact h.a.pu j l hj hl hn
  · rw [e0 d hd'] at hkd
    obtain ⟨b1, b2, b3⟩ := hE d p hd' hkd hp hn
    rw [b2] at hn ⊢
    obtain ⟨c1, j, c2, c3, c4, c5⟩ := h.b.en d p hd' hkd b1 hn
    exact ⟨c1, j, by rw [b3]; exact c2, c3, c4, by rw [e0 j c4]; exact c5⟩
  · rw [e0 d hd'] at hkd
    obtain ⟨b1, b2, b3⟩ := hE d p hd' hkd hp hn
    have hn' : tN T' d q ≠ 0 := by rw [← he]; exact hn
    obtain ⟨c1, c2, c3⟩ := hE d q hd' hkd hq hn'
    rw [b2] at hn he; rw [c2] at he
    exact h.b.eu d p q hd' hkd b1 c1 hn he
  · obtain ⟨r, hr⟩ := h.b.er
    exact ⟨r, fun d p j a hj => hr d p j (hEnt d p j a) hj⟩
  · intro j l w hj hj2 hl hw hs' hn
    rw [e0 j hj] at hj2
    rw [hBo j l hj (by omega)] at hn ⊢
    rw [hB j l hj hl hn]
    by_cases hji : j = i
    · subst hji; rw [hS] at hs'; exact hf hj2 l w hl hw hs' hn
    · rw [tS_of (e1 j hj hji)] at hs'; exact h.c j l w hj hj2 hl hw hs' hn
/-- a free inode becomes a directory or a file -/
theorem ZW.setKind {T T' : ZSt} (h : ZW T) {i : Nat} {x : Int32} (hi : i < 24) (hx : x = 1 ∨ x = 2) (h0 : tI T i 0 = 0) (hI : ∀ j w, j < 24 → w < 8 → ¬ (j = i ∧ w = 0) → tI T' j w = tI T j w) (hI0 : tI T' i 0 = x)
    (hP : ∀ j l, j < 24 → l ≤ 20 → tP T' j l = tP T j l) (hU : ∀ q, tU T' q = tU T q) (hB : ∀ j l, j < 24 → l < 20 → tB T j l ≠ 0 → T' (tB T j l) = T (tB T j l)) : ZW T' := by
  have hBo : ∀ j l, j < 24 → l ≤ 20 → tB T' j l = tB T j l := fun j l hj hl => by unfold tB; rw [hP j l hj hl]
  have e0 : ∀ j, j < 24 → j ≠ i → tI T' j 0 = tI T j 0 := fun j hj hx => hI j 0 hj (by omega) (by omega)
  have e1 : ∀ j, j < 24 → tI T' j 1 = tI T j 1 := fun j hj => hI j 1 hj (by omega) (by omega)
  have hfr := h.a.fr i hi h0
  have hS : tS T' i = 0 := by unfold tS; rw [e1 i hi, hfr 1 (by omega)]; rfl
  have hBz : ∀ k, k < 20 → tB T i k = 0 := by
    intro k hk
    unfold tB tP
    by_cases h4 : k < 4
    · rw [if_pos h4, hfr (2 + k) (by omega)]; rfl
    · rw [if_neg h4, if_neg (by omega), if_pos]
      · rfl
      · unfold tF; rw [hfr 6 (by omega)]; rfl
  have hdir : ∀ d p, d < 24 → tI T' d 0 = 1 → p < tS T' d → d ≠ i := fun d p hd hk hp hx => by subst hx; rw [hS] at hp; omega
  have hNE : ∀ d p, d < 24 → tI T d 0 = 1 → p < tS T d → tN T' d p = tN T d p ∧ tE T' d p = tE T d p := by
    intro d p hd hk hp
    obtain ⟨m, m1, m2, m3, m4⟩ := h.a.dsz hd hk
    unfold tN tE
    rw [hBo d (p / 8) hd (by omega), hB d (p / 8) hd (by omega) (m4 _ (by omega))]
    exact ⟨rfl, rfl⟩
  have hEnt : ∀ d p j, zEnt T' d p j → zEnt T d p j := by
    rintro d p j ⟨a1, a2, a3, a4, a5⟩
    have hdi := hdir d p a1 a2 a3
    rw [e0 d a1 hdi] at a2
    rw [tS_of (e1 d a1)] at a3
    obtain ⟨b2, b3⟩ := hNE d p a1 a2 a3
    rw [b2] at a4; rw [b3] at a5
    exact ⟨a1, a2, a3, a4, a5⟩
  refine ⟨⟨fun j hj => ?_, ?_, fun j hj hj0 w hw => ?_, fun j hj hj1 => ?_, fun j hj hj2 => ?_, fun j l hj hl => by rw [hP j l hj hl, hBo j l hj hl]; exact h.a.pv j l hj hl, fun j l j' l' hj hl hj' hl' hn he => ?_, fun j l hj hl hn => ?_⟩, ⟨fun d p hd' hkd hp hn => ?_, fun d p q hd' hkd hp hq hn he => ?_, fun d p e q j a b => h.b.ep d p e q j (hEnt d p j a) (hEnt e q j b), ?_⟩, ?_⟩
  · by_cases hji : j = i
    · rw [hji, hI0]; exact Or.inr hx
    · rw [e0 j hj hji]; exact h.a.kd j hj
  · by_cases h0i : 0 = i
    · exfalso; rw [← h0i, h.a.rt] at h0; exact absurd h0 (by decide)
    · rw [e0 0 (by omega) h0i]; exact h.a.rt
  · have hji : j ≠ i := fun hx' => by
      subst hx'; rw [hI0] at hj0
      rcases hx with hx | hx <;> rw [hx] at hj0 <;> exact absurd hj0 (by decide)
    rw [e0 j hj hji] at hj0
    rw [hI j w hj hw (fun hx => hji hx.1)]
    exact h.a.fr j hj hj0 w hw
  · by_cases hji : j = i
    · exact ⟨0, by omega, by rw [hji, e1 i hi, hfr 1 (by omega)]; rfl, fun k hk => by omega⟩
    · rw [e0 j hj hji] at hj1
      obtain ⟨m, m1, m2, m3⟩ := h.a.ds j hj hj1
      exact ⟨m, m1, by rw [e1 j hj]; exact m2, fun k hk => by rw [hBo j k hj (by omega)]; exact m3 k hk⟩
  · by_cases hji : j = i
    · exact ⟨0, by omega, by rw [hji, e1 i hi, hfr 1 (by omega)]; rfl⟩
    · rw [e0 j hj hji] at hj2; rw [e1 j hj]; exact h.a.fs j hj hj2
  · rw [hBo j l hj hl] at hn he; rw [hBo j' l' hj' hl'] at he
    exact h.a.pd j l j' l' hj hl hj' hl' hn he
  · rw [hBo j l hj hl] at hn ⊢; rw [hU]; exact h.a.pu j l hj hl hn
  · have hdi := hdir d p hd' hkd hp
    rw [e0 d hd' hdi] at hkd
    rw [tS_of (e1 d hd')] at hp
    obtain ⟨b2, b3⟩ := hNE d p hd' hkd hp
    rw [b2] at hn ⊢
    obtain ⟨c1, j, c2, c3, c4, c5⟩ := h.b.en d p hd' hkd hp hn
    have hji : j ≠ i := fun hx => by rw [hx, h0] at c5; exact c5 rfl
    exact ⟨c1, j, by rw [b3]; exact c2, c3, c4, by rw [e0 j c4 hji]; exact c5⟩
  · have hdi := hdir d p hd' hkd hp
    rw [e0 d hd' hdi] at hkd
    rw [tS_of (e1 d hd')] at hp hq
    rw [(hNE d p hd' hkd hp).1] at hn he
    rw [(hNE d q hd' hkd hq).1] at he
    exact h.b.eu d p q hd' hkd hp hq hn he
  · obtain ⟨r, hr⟩ := h.b.er
    exact ⟨r, fun d p j a hj => hr d p j (hEnt d p j a) hj⟩
  · intro j l w hj hj2 hl hw hs' hn
    rw [hBo j l hj (by omega)] at hn ⊢
    by_cases hji : j = i
    · rw [hji, hBz l hl] at hn; exact absurd rfl hn
    · rw [e0 j hj hji] at hj2
      rw [tS_of (e1 j hj)] at hs'
      rw [hB j l hj hl hn]
      exact h.c j l w hj hj2 hl hw hs' hn
/-- a directory's place is not another's -/
theorem ZW.place {T : ZSt} (h : ZW T) {d p e q : Nat} (hd : d < 24) (he : e < 24) (hkd : tI T d 0 = 1) (hke : tI T e 0 = 1) (hp : p < tS T d) (hq : q < tS T e) (hb : tB T d (p / 8) = tB T e (q / 8)) : d = e ∧ p / 8 = q / 8 := by
  obtain ⟨m, m1, m2, m3, m4⟩ := h.a.dsz hd hkd
  obtain ⟨m', m1', m2', m3', m4'⟩ := h.a.dsz he hke
  exact h.a.pd d (p / 8) e (q / 8) hd (by omega) he (by omega) (m4 _ (by omega)) hb
/-- a place of a directory gets another name and inode: what all entries are then -/
theorem ZW.atPlace {T T' : ZSt} (h : ZW T) {d p : Nat} {x y : Int32} (hd : d < 24) (hkd : tI T d 0 = 1) (hp : p < tS T d) (hT : T' = zt (zt T (tB T d (p / 8)) (2 * (p % 8)) x) (tB T d (p / 8)) (2 * (p % 8) + 1) y) :
    (∀ j w, j < 24 → tI T' j w = tI T j w) ∧ (∀ j l, j < 24 → l ≤ 20 → tP T' j l = tP T j l) ∧ (∀ q, tU T' q = tU T q) ∧ tN T' d p = x ∧ tE T' d p = y ∧ (∀ e q, e < 24 → tI T e 0 = 1 → q < tS T e → ¬ (e = d ∧ q = p) → tN T' e q = tN T e q ∧ tE T' e q = tE T e q) ∧ (∀ c, c ≠ tB T d (p / 8) → T' c = T c) := by
  obtain ⟨m, m1, m2, m3, m4⟩ := h.a.dsz hd hkd
  have hb0 := m4 (p / 8) (by omega)
  have hbr := (h.a.pv d (p / 8) hd (by omega)).2
  generalize hb : tB T d (p / 8) = b at *
  have hc : ∀ c, c ≠ b → T' c = T c := fun c hx => by rw [hT, zt_blk hx, zt_blk hx]
  have e1 : ∀ c, 30 ≤ c → c < 42 → T' c = T c := fun c _ h2 => hc c (by omega)
  have hI : ∀ j w, j < 24 → tI T' j w = tI T j w := fun j w hj => tI_out e1 hj
  have hF : ∀ j, j < 24 → tF T j ≠ 0 → tF T j ≠ b := by
    intro j hj _ hx
    rw [tF_eq, ← hb] at hx
    have := (h.a.pd j 20 d (p / 8) hj (by omega) hd (by omega) (by rw [hx, hb]; exact hb0) hx).2
    omega
  have hP : ∀ j l, j < 24 → l ≤ 20 → tP T' j l = tP T j l := fun j l hj hl => tP_out hj hl e1 (fun hf _ _ => by rw [hc _ (hF j hj hf)])
  have hB : ∀ j l, j < 24 → l ≤ 20 → tB T' j l = tB T j l := fun j l hj hl => by unfold tB; rw [hP j l hj hl]
  refine ⟨hI, hP, fun q => by unfold tU; rw [hc 29 (by omega)], ?_, ?_, fun e q he hke hq hx => ?_, hc⟩
  · unfold tN
    rw [hB d (p / 8) hd (by omega), hb, hT, zt_wrd (by omega), zt_self]
  · unfold tE
    rw [hB d (p / 8) hd (by omega), hb, hT, zt_self]
  · obtain ⟨n, n1, n2, n3, n4⟩ := h.a.dsz he hke
    unfold tN tE
    rw [hB e (q / 8) he (by omega)]
    by_cases hbb : tB T e (q / 8) = b
    · have hpl := h.place he hd hke hkd hq hp (by rw [hbb, hb])
      have hqp : q % 8 ≠ p % 8 := by
        intro hm
        exact hx ⟨hpl.1, by omega⟩
      rw [hbb, hT]
      constructor
      · rw [zt_wrd (by omega), zt_wrd (by omega)]
      · rw [zt_wrd (by omega), zt_wrd (by omega)]
    · rw [hc _ hbb]; exact ⟨rfl, rfl⟩
/-- an entry goes -/
theorem ZW.clrEntry {T T' : ZSt} (h : ZW T) {d p : Nat} {y : Int32} (hd : d < 24) (hkd : tI T d 0 = 1) (hp : p < tS T d) (hT : T' = zt (zt T (tB T d (p / 8)) (2 * (p % 8)) 0) (tB T d (p / 8)) (2 * (p % 8) + 1) y) : ZW T' ∧ (∀ e q j, zEnt T' e q j ↔ zEnt T e q j ∧ ¬ (e = d ∧ q = p)) := by
  obtain ⟨hI, hP, hU, hN, hE, hO, hC⟩ := h.atPlace hd hkd hp hT
  obtain ⟨m, m1, m2, m3, m4⟩ := h.a.dsz hd hkd
  have hB : ∀ j l, j < 24 → l ≤ 20 → tB T' j l = tB T j l := fun j l hj hl => by unfold tB; rw [hP j l hj hl]
  have hS : ∀ j, j < 24 → tS T' j = tS T j := fun j hj => tS_of (hI j 1 hj)
  have hEnt : ∀ e q j, zEnt T' e q j ↔ zEnt T e q j ∧ ¬ (e = d ∧ q = p) := by
    intro e q j
    constructor
    · rintro ⟨a1, a2, a3, a4, a5⟩
      rw [hI e 0 a1] at a2
      rw [hS e a1] at a3
      have hx : ¬ (e = d ∧ q = p) := by
        rintro ⟨rfl, rfl⟩; exact a4 hN
      obtain ⟨b1, b2⟩ := hO e q a1 a2 a3 hx
      rw [b1] at a4; rw [b2] at a5
      exact ⟨⟨a1, a2, a3, a4, a5⟩, hx⟩
    · rintro ⟨⟨a1, a2, a3, a4, a5⟩, hx⟩
      obtain ⟨b1, b2⟩ := hO e q a1 a2 a3 hx
      exact ⟨a1, by rw [hI e 0 a1]; exact a2, by rw [hS e a1]; exact a3, by rw [b1]; exact a4, by rw [b2]; exact a5⟩
  refine ⟨⟨h.a.congr (fun j w hj _ => hI j w hj) hP (fun j l hj hl hn => by rw [hU]; exact h.a.pu j l hj hl hn), ⟨fun e q he hke hq hn => ?_, fun e q q' he hke hq hq' hn hx => ?_, fun e q e' q' j a b => h.b.ep e q e' q' j ((hEnt e q j).mp a).1 ((hEnt e' q' j).mp b).1, ?_⟩, ?_⟩, hEnt⟩
  · rw [hI e 0 he] at hke
    rw [hS e he] at hq
    have hx : ¬ (e = d ∧ q = p) := by
      rintro ⟨rfl, rfl⟩; exact hn hN
    obtain ⟨b1, b2⟩ := hO e q he hke hq hx
    rw [b1] at hn ⊢
    obtain ⟨c1, j, c2, c3, c4, c5⟩ := h.b.en e q he hke hq hn
    exact ⟨c1, j, by rw [b2]; exact c2, c3, c4, by rw [hI j 0 c4]; exact c5⟩
  · rw [hI e 0 he] at hke
    rw [hS e he] at hq hq'
    have hy : ¬ (e = d ∧ q = p) := by
      rintro ⟨rfl, rfl⟩; exact hn hN
    have hy' : ¬ (e = d ∧ q' = p) := by
      rintro ⟨rfl, rfl⟩; rw [hx] at hn; exact hn hN
    rw [(hO e q he hke hq hy).1] at hn hx
    rw [(hO e q' he hke hq' hy').1] at hx
    exact h.b.eu e q q' he hke hq hq' hn hx
  · obtain ⟨r, hr⟩ := h.b.er
    exact ⟨r, fun e q j a hj => hr e q j ((hEnt e q j).mp a).1 hj⟩
  · refine zWc_congr h.c (fun j w hj _ => hI j w hj) (fun j l hj hl => hB j l hj (by omega)) (fun j l w hj hj2 hl hw hn _ => ?_)
    rw [hC]
    intro hx
    have := (h.a.pd j l d (p / 8) hj (by omega) hd (by omega) hn hx).1
    rw [this, hkd] at hj2
    exact absurd hj2 (by decide)
/-- an entry comes at a free place -/
theorem ZW.setEntry {T T' : ZSt} (h : ZW T) {d p i : Nat} {x : Int32} (hd : d < 24) (hkd : tI T d 0 = 1) (hp : p < tS T d) (hT : T' = zt (zt T (tB T d (p / 8)) (2 * (p % 8)) x) (tB T d (p / 8)) (2 * (p % 8) + 1) (iN i)) (hx : 0 < n32 x) (hfree : tN T d p = 0) (hnew : ∀ q, q < tS T d → tN T d q ≠ x) (hi1 : 1 ≤ i) (hi : i < 24) (hki : tI T i 0 ≠ 0) (hno : ∀ e q, ¬ zEnt T e q i) (hr : ∃ r : Nat → Nat, (∀ e q j, zEnt T e q j → j < 24 → r e < r j) ∧ r d < r i) : ZW T' := by
  obtain ⟨hI, hP, hU, hN, hE, hO, hC⟩ := h.atPlace hd hkd hp hT
  obtain ⟨m, m1, m2, m3, m4⟩ := h.a.dsz hd hkd
  have hx0 : x ≠ 0 := fun hh => by rw [hh] at hx; exact absurd hx (by decide)
  have hB : ∀ j l, j < 24 → l ≤ 20 → tB T' j l = tB T j l := fun j l hj hl => by unfold tB; rw [hP j l hj hl]
  have hS : ∀ j, j < 24 → tS T' j = tS T j := fun j hj => tS_of (hI j 1 hj)
  have hEnt : ∀ e q j, zEnt T' e q j → (zEnt T e q j ∧ ¬ (e = d ∧ q = p)) ∨ (e = d ∧ q = p ∧ iN j = iN i) := by
    rintro e q j ⟨a1, a2, a3, a4, a5⟩
    rw [hI e 0 a1] at a2
    rw [hS e a1] at a3
    by_cases hxx : e = d ∧ q = p
    · right
      refine ⟨hxx.1, hxx.2, ?_⟩
      rw [hxx.1, hxx.2, hE] at a5
      exact a5.symm
    · left
      obtain ⟨b1, b2⟩ := hO e q a1 a2 a3 hxx
      rw [b1] at a4; rw [b2] at a5
      exact ⟨⟨a1, a2, a3, a4, a5⟩, hxx⟩
  refine ⟨h.a.congr (fun j w hj _ => hI j w hj) hP (fun j l hj hl hn => by rw [hU]; exact h.a.pu j l hj hl hn), ⟨fun e q he hke hq hn => ?_, fun e q q' he hke hq hq' hn hxx => ?_, fun e q e' q' j a b => ?_, ?_⟩, ?_⟩
  · rw [hI e 0 he] at hke
    rw [hS e he] at hq
    by_cases hxx : e = d ∧ q = p
    · rw [hxx.1, hxx.2, hN]
      exact ⟨hx, i, by rw [hE], hi1, hi, by rw [hI i 0 hi]; exact hki⟩
    · obtain ⟨b1, b2⟩ := hO e q he hke hq hxx
      rw [b1] at hn ⊢
      obtain ⟨c1, j, c2, c3, c4, c5⟩ := h.b.en e q he hke hq hn
      exact ⟨c1, j, by rw [b2]; exact c2, c3, c4, by rw [hI j 0 c4]; exact c5⟩
  · rw [hI e 0 he] at hke
    rw [hS e he] at hq hq'
    by_cases h1 : e = d ∧ q = p
    · by_cases h2 : e = d ∧ q' = p
      · omega
      · exfalso
        rw [(hO e q' he hke hq' h2).1] at hxx
        rw [h1.1, h1.2, hN] at hxx
        rw [h1.1] at hq'
        exact hnew q' hq' hxx.symm
    · by_cases h2 : e = d ∧ q' = p
      · exfalso
        rw [(hO e q he hke hq h1).1] at hxx
        rw [h2.1, h2.2, hN] at hxx
        rw [h2.1] at hq
        exact hnew q hq hxx
      · rw [(hO e q he hke hq h1).1] at hn hxx
        rw [(hO e q' he hke hq' h2).1] at hxx
        exact h.b.eu e q q' he hke hq hq' hn hxx
  · have hji : ∀ e q, zEnt T e q j → iN j ≠ iN i := by
      intro e q hq hx
      exact hno e q ⟨hq.1, hq.2.1, hq.2.2.1, hq.2.2.2.1, by rw [hq.2.2.2.2, hx]⟩
    rcases hEnt e q j a with ⟨a1, _⟩ | ⟨a1, a2, a3⟩
    · rcases hEnt e' q' j b with ⟨b1, _⟩ | ⟨b1, b2, b3⟩
      · exact h.b.ep e q e' q' j a1 b1
      · exact absurd b3 (hji e q a1)
    · rcases hEnt e' q' j b with ⟨b1, _⟩ | ⟨b1, b2, b3⟩
      · exact absurd a3 (hji e' q' b1)
      · omega
  · obtain ⟨r, hr1, hr2⟩ := hr
    refine ⟨r, fun e q j a hj => ?_⟩
    rcases hEnt e q j a with ⟨a1, _⟩ | ⟨a1, a2, a3⟩
    · exact hr1 e q j a1 hj
    · have := iN_inj (by omega) (by omega) a3
      rw [a1, this]; exact hr2
  · refine zWc_congr h.c (fun j w hj _ => hI j w hj) (fun j l hj hl => hB j l hj (by omega)) (fun j l w hj hj2 hl hw hn _ => ?_)
    rw [hC]
    intro hx
    have := (h.a.pd j l d (p / 8) hj (by omega) hd (by omega) hn hx).1
    rw [this, hkd] at hj2
    exact absurd hj2 (by decide)
/-- an inode that has no entry goes, with its blocks -/
theorem ZW.rmInode {T T' : ZSt} (h : ZW T) {i : Nat} (hi1 : 1 ≤ i) (hi : i < 24) (hno : ∀ e q, ¬ zEnt T e q i) (hI : ∀ j w, j < 24 → w < 8 → j ≠ i → tI T' j w = tI T j w) (hI0 : ∀ w, w < 8 → tI T' i w = 0)
    (hP : ∀ j l, j < 24 → l ≤ 20 → j ≠ i → tP T' j l = tP T j l) (hU : ∀ j l, j < 24 → l ≤ 20 → j ≠ i → tB T j l ≠ 0 → tU T' (tB T j l - 42) = true) (hB : ∀ j l, j < 24 → l < 20 → j ≠ i → tB T j l ≠ 0 → T' (tB T j l) = T (tB T j l)) : ZW T' := by
  have hBo : ∀ j l, j < 24 → l ≤ 20 → j ≠ i → tB T' j l = tB T j l := fun j l hj hl hx => by unfold tB; rw [hP j l hj hl hx]
  have hPz : ∀ k, k ≤ 20 → tP T' i k = 0 := by
    intro k hk
    unfold tP
    by_cases h4 : k < 4
    · rw [if_pos h4]; exact hI0 _ (by omega)
    · rw [if_neg h4]
      by_cases h20 : k = 20
      · rw [if_pos h20]; exact hI0 _ (by omega)
      · rw [if_neg h20, if_pos]
        unfold tF; rw [hI0 6 (by omega)]; rfl
  have hBz : ∀ k, k ≤ 20 → tB T' i k = 0 := fun k hk => by unfold tB; rw [hPz k hk]; rfl
  have hne : ∀ d, tI T' d 0 ≠ 0 → d ≠ i := fun d hd hx => by subst hx; exact hd (hI0 0 (by omega))
  have hk1 : ∀ d, tI T' d 0 = 1 → d ≠ i := fun d hd => hne d (by rw [hd]; decide)
  have e0 : ∀ j, j < 24 → j ≠ i → tI T' j 0 = tI T j 0 := fun j hj hx => hI j 0 hj (by omega) hx
  have e1 : ∀ j, j < 24 → j ≠ i → tI T' j 1 = tI T j 1 := fun j hj hx => hI j 1 hj (by omega) hx
  have hNE : ∀ d p, d < 24 → d ≠ i → tI T d 0 = 1 → p < tS T d → tN T' d p = tN T d p ∧ tE T' d p = tE T d p := by
    intro d p hd hx hk hp
    obtain ⟨m, m1, m2, m3, m4⟩ := h.a.dsz hd hk
    unfold tN tE
    rw [hBo d (p / 8) hd (by omega) hx, hB d (p / 8) hd (by omega) hx (m4 _ (by omega))]
    exact ⟨rfl, rfl⟩
  have hEnt : ∀ d p j, zEnt T' d p j → zEnt T d p j := by
    rintro d p j ⟨a1, a2, a3, a4, a5⟩
    have hdi := hk1 d a2
    rw [e0 d a1 hdi] at a2
    rw [tS_of (e1 d a1 hdi)] at a3
    obtain ⟨b2, b3⟩ := hNE d p a1 hdi a2 a3
    rw [b2] at a4; rw [b3] at a5
    exact ⟨a1, a2, a3, a4, a5⟩
  refine ⟨⟨fun j hj => ?_, ?_, fun j hj hj0 w hw => ?_, fun j hj hj1 => ?_, fun j hj hj2 => ?_, fun j l hj hl => ?_, fun j l j' l' hj hl hj' hl' hn he => ?_, fun j l hj hl hn => ?_⟩, ⟨fun d p hd' hkd hp hn => ?_, fun d p q hd' hkd hp hq hn he => ?_, fun d p e q j a b => h.b.ep d p e q j (hEnt d p j a) (hEnt e q j b), ?_⟩, ?_⟩
  · by_cases hji : j = i
    · rw [hji, hI0 0 (by omega)]; exact Or.inl rfl
    · rw [e0 j hj hji]; exact h.a.kd j hj
  · rw [e0 0 (by omega) (by omega)]; exact h.a.rt
  · by_cases hji : j = i
    · rw [hji]; exact hI0 w hw
    · rw [e0 j hj hji] at hj0; rw [hI j w hj hw hji]; exact h.a.fr j hj hj0 w hw
  · have hji := hk1 j hj1
    rw [e0 j hj hji] at hj1
    obtain ⟨m, m1, m2, m3⟩ := h.a.ds j hj hj1
    exact ⟨m, m1, by rw [e1 j hj hji]; exact m2, fun k hk => by rw [hBo j k hj (by omega) hji]; exact m3 k hk⟩
  · have hji : j ≠ i := hne j (by rw [hj2]; decide)
    rw [e0 j hj hji] at hj2; rw [e1 j hj hji]; exact h.a.fs j hj hj2
  · by_cases hji : j = i
    · rw [hji, hPz l hl, hBz l hl]; exact ⟨rfl, Or.inl rfl⟩
    · rw [hP j l hj hl hji, hBo j l hj hl hji]; exact h.a.pv j l hj hl
  · have hji : j ≠ i := fun hx => by rw [hx, hBz l hl] at hn; exact hn rfl
    rw [hBo j l hj hl hji] at hn he
    have hji' : j' ≠ i := fun hx => by rw [hx, hBz l' hl'] at he; exact hn he
    rw [hBo j' l' hj' hl' hji'] at he
    exact h.a.pd j l j' l' hj hl hj' hl' hn he
  · have hji : j ≠ i := fun hx => by rw [hx, hBz l hl] at hn; exact hn rfl
    rw [hBo j l hj hl hji] at hn ⊢; exact hU j l hj hl hji hn
  · have hdi := hk1 d hkd
    rw [e0 d hd' hdi] at hkd
    rw [tS_of (e1 d hd' hdi)] at hp
    obtain ⟨b2, b3⟩ := hNE d p hd' hdi hkd hp
    rw [b2] at hn ⊢
    obtain ⟨c1, j, c2, c3, c4, c5⟩ := h.b.en d p hd' hkd hp hn
    have hji : j ≠ i := fun hx => hno d p ⟨hd', hkd, hp, hn, by rw [c2, hx]⟩
    exact ⟨c1, j, by rw [b3]; exact c2, c3, c4, by rw [e0 j c4 hji]; exact c5⟩
  · have hdi := hk1 d hkd
    rw [e0 d hd' hdi] at hkd
    rw [tS_of (e1 d hd' hdi)] at hp hq
    rw [(hNE d p hd' hdi hkd hp).1] at hn he
    rw [(hNE d q hd' hdi hkd hq).1] at he
    exact h.b.eu d p q hd' hkd hp hq hn he
  · obtain ⟨r, hr⟩ := h.b.er
    exact ⟨r, fun d p j a hj => hr d p j (hEnt d p j a) hj⟩
  · intro j l w hj hj2 hl hw hs' hn
    have hji : j ≠ i := hne j (by rw [hj2]; decide)
    rw [e0 j hj hji] at hj2
    rw [tS_of (e1 j hj hji)] at hs'
    rw [hBo j l hj (by omega) hji] at hn ⊢
    rw [hB j l hj hl hji hn]
    exact h.c j l w hj hj2 hl hw hs' hn
/-! THE MAP OF USED BLOCKS -/
def zset (x : Int32) (k : Nat) : Int32 := Int32.ofBitVec (x.toBitVec ||| (1#32 <<< k))
def zclr (x : Int32) (k : Nat) : Int32 := Int32.ofBitVec (x.toBitVec &&& ~~~(1#32 <<< k))
theorem bit_one {j k : Nat} (hj : j < 32) : (1#32 <<< k).getLsbD j = decide (j = k) := by
  rw [BitVec.getLsbD_shiftLeft]
  by_cases h : j < k
  · have h1 : ¬ j = k := by omega
    simp [h, h1]
  · by_cases h2 : j = k
    · subst h2
      simp [hj]
    · have h3 : j - k ≠ 0 := by omega
      simp [hj, h, h2, BitVec.getLsbD_one, h3]
theorem zset_bit {x : Int32} {j k : Nat} (hj : j < 32) : (zset x k).toBitVec.getLsbD j = (x.toBitVec.getLsbD j || decide (j = k)) := by
  unfold zset
  show (x.toBitVec ||| (1#32 <<< k)).getLsbD j = _
  rw [BitVec.getLsbD_or, bit_one hj]
theorem zclr_bit {x : Int32} {j k : Nat} (hj : j < 32) : (zclr x k).toBitVec.getLsbD j = (x.toBitVec.getLsbD j && !decide (j = k)) := by
  unfold zclr
  show (x.toBitVec &&& ~~~(1#32 <<< k)).getLsbD j = _
  rw [BitVec.getLsbD_and, BitVec.getLsbD_not, bit_one hj]
  simp [hj]
theorem tU_set {T : ZSt} {q k : Nat} : tU (zt T 29 (k / 32) (zset (T 29 (k / 32)) (k % 32))) q = (tU T q || decide (q = k)) := by
  unfold tU
  by_cases h : q / 32 = k / 32
  · rw [h, zt_self, zset_bit (Nat.mod_lt _ (by omega))]
    by_cases h2 : q = k
    · simp [h2]
    · have h3 : ¬ q % 32 = k % 32 := by omega
      simp [h2, h3]
  · have h2 : ¬ q = k := fun hx => h (by rw [hx])
    rw [zt_wrd h]
    simp [h2]
theorem tU_clr {T : ZSt} {q k : Nat} : tU (zt T 29 (k / 32) (zclr (T 29 (k / 32)) (k % 32))) q = (tU T q && !decide (q = k)) := by
  unfold tU
  by_cases h : q / 32 = k / 32
  · rw [h, zt_self, zclr_bit (Nat.mod_lt _ (by omega))]
    by_cases h2 : q = k
    · simp [h2]
    · have h3 : ¬ q % 32 = k % 32 := by omega
      simp [h2, h3]
  · have h2 : ¬ q = k := fun hx => h (by rw [hx])
    rw [zt_wrd h]
    simp [h2]
/-- a block is given back that no inode has -/
theorem ZW.give {T : ZSt} (h : ZW T) {k : Nat} (hno : ∀ j l, j < 24 → l ≤ 20 → tB T j l ≠ 42 + k) : ZW (zt T 29 (k / 32) (zclr (T 29 (k / 32)) (k % 32))) := by
  refine h.map (fun c hc => zt_blk hc) (fun j l hj hl hn => ?_)
  rw [tU_clr, h.a.pu j l hj hl hn]
  have h1 := (h.a.pv j l hj hl).2
  have h2 := hno j l hj hl
  have h3 : ¬ tB T j l - 42 = k := by omega
  simp [h3]
/-- a block is taken: it is marked, and 0 in all words -/
def tTake (T : ZSt) (k : Nat) : ZSt := fun b => if b = 42 + k then (fun w => if w < 16 then 0 else T (42 + k) w) else zt T 29 (k / 32) (zset (T 29 (k / 32)) (k % 32)) b
theorem tTake_out {T : ZSt} {k b : Nat} (h1 : b ≠ 42 + k) (h2 : b ≠ 29) : tTake T k b = T b := by
  unfold tTake; rw [if_neg h1, zt_blk h2]
theorem tTake_new {T : ZSt} {k w : Nat} (hw : w < 16) : tTake T k (42 + k) w = 0 := by
  unfold tTake; rw [if_pos rfl, if_pos hw]
theorem tTake_tU {T : ZSt} {k q : Nat} : tU (tTake T k) q = (tU T q || decide (q = k)) := by
  rw [← tU_set (T := T)]
  unfold tU
  have : tTake T k 29 = zt T 29 (k / 32) (zset (T 29 (k / 32)) (k % 32)) 29 := by unfold tTake; rw [if_neg (by omega)]
  rw [this]
theorem ZW.unref {T : ZSt} (h : ZW T) {k : Nat} (hf : tU T k = false) {j l : Nat} (hj : j < 24) (hl : l ≤ 20) : tB T j l ≠ 42 + k := by
  intro hx
  have := h.a.pu j l hj hl (by omega)
  rw [hx] at this
  have e : 42 + k - 42 = k := by omega
  rw [e, hf] at this
  cases this
theorem ZW.take {T : ZSt} (h : ZW T) {k : Nat} (hf : tU T k = false) : ZW (tTake T k) ∧ (∀ j w, j < 24 → tI (tTake T k) j w = tI T j w) ∧ (∀ j l, j < 24 → l ≤ 20 → tP (tTake T k) j l = tP T j l) := by
  have h1 : ZW (zt T 29 (k / 32) (zset (T 29 (k / 32)) (k % 32))) := by
    refine h.map (fun c hc => zt_blk hc) (fun j l hj hl hn => ?_)
    rw [tU_set, h.a.pu j l hj hl hn]; rfl
  have eB : ∀ j w, j < 24 → tI (zt T 29 (k / 32) (zset (T 29 (k / 32)) (k % 32))) j w = tI T j w := fun j w hj => tI_out (fun c c1 c2 => zt_blk (by omega)) hj
  have eP : ∀ j l, j < 24 → l ≤ 20 → tP (zt T 29 (k / 32) (zset (T 29 (k / 32)) (k % 32))) j l = tP T j l := fun j l hj hl => tP_out hj hl (fun c c1 c2 => zt_blk (by omega)) (fun hF _ _ => by
    rw [zt_blk]
    have := (h.a.pv j 20 hj (by omega)).2
    rw [← tF_eq] at this
    omega)
  have eB2 : ∀ j l, j < 24 → l ≤ 20 → tB (zt T 29 (k / 32) (zset (T 29 (k / 32)) (k % 32))) j l = tB T j l := fun j l hj hl => by unfold tB; rw [eP j l hj hl]
  have hu : ∀ j l, j < 24 → l ≤ 20 → tB T j l ≠ 42 + k := fun j l hj hl => h.unref hf hj hl
  have hout : ∀ c, c ≠ 42 + k → tTake T k c = zt T 29 (k / 32) (zset (T 29 (k / 32)) (k % 32)) c := fun c hc => by unfold tTake; rw [if_neg hc]
  refine ⟨h1.data (b := 42 + k) (by omega) hout (fun i hi => ?_) (fun d l hd hkd hl => ?_) (fun i l w hi hk2 hl hw hb _ => ?_), fun j w hj => ?_, fun j l hj hl => ?_⟩
  · rw [tF_eq, eB2 i 20 hi (by omega)]; exact hu i 20 hi (by omega)
  · rw [eB d 0 hd] at hkd
    rw [tS_of (eB d 1 hd)] at hl
    obtain ⟨m, m1, m2, m3, m4⟩ := h.a.dsz hd hkd
    rw [eB2 d l hd (by omega)]; exact hu d l hd (by omega)
  · rw [eB2 i l hi (by omega)] at hb
    exact absurd hb (hu i l hi (by omega))
  · exact tI_out (fun c c1 c2 => tTake_out (by omega) (by omega)) hj
  · refine tP_out hj hl (fun c c1 c2 => tTake_out (by omega) (by omega)) (fun hF _ _ => ?_)
    rw [tTake_out]
    · rw [tF_eq]; exact hu j 20 hj (by omega)
    · have := (h.a.pv j 20 hj (by omega)).2
      rw [← tF_eq] at this
      omega
/-- an inode's word with a pointer gets a fresh block -/
theorem ZW.ptrI {T : ZSt} (h : ZW T) {i k b : Nat} (hi : i < 24) (hk : k < 4 ∨ k = 20) (hk0 : tI T i 0 ≠ 0) (hb : b = 0 ∨ (42 ≤ b ∧ b < 106 ∧ (∀ j l, j < 24 → l ≤ 20 → tB T j l ≠ b) ∧ tU T (b - 42) = true)) (hz : b ≠ 0 → ∀ w, w < 16 → T b w = 0) (hD : tI T i 0 = 1 → tS T i ≤ 8 * k) (hfar : k = 20 → (∀ l, 4 ≤ l → l < 20 → tP T i l = 0)) : ZW (zt T (30 + i / 2) (8 * (i % 2) + (if k = 20 then 6 else 2 + k)) (iN b)) := by
  have hFr : ∀ j, j < 24 → tF T j < 30 ∨ 42 ≤ tF T j := fun j hj => by
    have := (h.a.pv j 20 hj (by omega)).2; rw [← tF_eq] at this; omega
  have hb31 : b < 2147483648 := by omega
  rcases hk with hk | hk
  · rw [if_neg (by omega)]
    refine h.setPtr hi (by omega) hk0 hb (fun j w hj hw hx => ?_) (fun j l hj hl hx => ?_) ?_ (fun q => ?_) hD (fun _ _ hb0 w hw => ?_) (fun j l hj hl hn => ?_)
    · rw [tI_zt (by omega) hw, if_neg]
      rintro ⟨h1, h2⟩; exact hx ⟨h1, Or.inl ⟨hk, h2⟩⟩
    · refine tP_zt hi (by omega) hj hl (hFr j hj) (fun h6 => by omega) ?_
      rintro ⟨h1, h2⟩
      exact hx ⟨h1, by omega⟩
    · unfold tP; rw [if_pos hk, tI_zt (by omega) (by omega), if_pos ⟨rfl, rfl⟩]
    · unfold tU; rw [zt_blk (by omega)]
    · rw [zt_blk (by omega)]; exact hz hb0 w hw
    · have := (h.a.pv j l hj (by omega)).2
      exact zt_blk (by omega)
  · subst hk
    rw [if_pos rfl]
    refine h.setPtr hi (by omega) hk0 hb (fun j w hj hw hx => ?_) (fun j l hj hl hx => ?_) ?_ (fun q => ?_) hD (fun _ hx => by omega) (fun j l hj hl hn => ?_)
    · rw [tI_zt (by omega) hw, if_neg]
      rintro ⟨h1, h2⟩; exact hx ⟨h1, Or.inr ⟨rfl, h2⟩⟩
    · by_cases hji : j = i
      · subst hji
        by_cases h4 : l < 4
        · exact tP_zt hi (by omega) hj hl (hFr j hj) (fun _ _ => Or.inl h4) (by omega)
        · have hl20 : l ≠ 20 := fun hx' => hx ⟨rfl, hx'⟩
          rw [hfar rfl l (by omega) (by omega)]
          unfold tP
          rw [if_neg h4, if_neg hl20]
          have hF : tF (zt T (30 + j / 2) (8 * (j % 2) + 6) (iN b)) j = b := by
            unfold tF; rw [tI_zt (by omega) (by omega), if_pos ⟨rfl, rfl⟩]; exact n32_iN hb31
          rw [hF]
          by_cases hb0 : b = 0
          · rw [if_pos hb0]
          · rw [if_neg hb0, zt_blk (by omega)]; exact hz hb0 _ (by omega)
      · exact tP_zt hi (by omega) hj hl (hFr j hj) (fun _ hx => absurd hx hji) (fun hx => hji hx.1)
    · unfold tP; rw [if_neg (by omega), if_pos rfl, tI_zt (by omega) (by omega), if_pos ⟨rfl, rfl⟩]
    · unfold tU; rw [zt_blk (by omega)]
    · have := (h.a.pv j l hj (by omega)).2
      exact zt_blk (by omega)
/-- a word of an indirect block gets a fresh block -/
theorem ZW.ptrF {T : ZSt} (h : ZW T) {i k b : Nat} (hi : i < 24) (hk4 : 4 ≤ k) (hk : k < 20) (hk0 : tI T i 0 ≠ 0) (hF : tF T i ≠ 0) (hb : b = 0 ∨ (42 ≤ b ∧ b < 106 ∧ (∀ j l, j < 24 → l ≤ 20 → tB T j l ≠ b) ∧ tU T (b - 42) = true)) (hz : b ≠ 0 → ∀ w, w < 16 → T b w = 0) (hD : tI T i 0 = 1 → tS T i ≤ 8 * k) : ZW (zt T (tF T i) (k - 4) (iN b)) := by
  have hFr := (h.a.pv i 20 hi (by omega)).2
  rw [← tF_eq] at hFr
  have hFb : tF T i = b → False := by
    intro hx
    rcases hb with hb | hb
    · exact hF (hx.trans hb)
    · exact hb.2.2.1 i 20 hi (by omega) (by rw [← tF_eq]; exact hx)
  have hFd : ∀ j l, j < 24 → l < 20 → tB T j l ≠ 0 → tB T j l ≠ tF T i := by
    intro j l hj hl hn hx
    rw [tF_eq] at hx
    have := (h.a.pd j l i 20 hj (by omega) hi (by omega) hn hx).2
    omega
  have hFF : ∀ j, j < 24 → j ≠ i → tF T j ≠ 0 → tF T j ≠ tF T i := by
    intro j hj hji hn hx
    rw [tF_eq] at hn
    rw [tF_eq T j, tF_eq T i] at hx
    exact hji (h.a.pd j 20 i 20 hj (by omega) hi (by omega) hn hx).1
  have hI : ∀ j w, j < 24 → tI (zt T (tF T i) (k - 4) (iN b)) j w = tI T j w := fun j w hj => tI_out (fun c c1 c2 => zt_blk (by omega)) hj
  refine h.setPtr (k := k) hi (by omega) hk0 hb (fun j w hj _ _ => hI j w hj) (fun j l hj hl hx => ?_) ?_ (fun q => ?_) hD (fun _ _ hb0 w hw => ?_) (fun j l hj hl hn => ?_)
  · refine tP_out hj hl (fun c c1 c2 => zt_blk (by omega)) (fun hf l4 l20 => ?_)
    by_cases hji : j = i
    · subst hji
      exact zt_wrd (by have : l ≠ k := fun h => hx ⟨rfl, h⟩; omega)
    · rw [zt_blk (hFF j hj hji hf)]
  · unfold tP
    have hF' : tF (zt T (tF T i) (k - 4) (iN b)) i = tF T i := congrArg n32 (hI i 6 hi)
    rw [if_neg (by omega), if_neg (by omega), hF', if_neg hF, zt_self]
  · unfold tU; rw [zt_blk (by omega)]
  · rw [zt_blk (fun hx => hFb hx.symm)]; exact hz hb0 w hw
  · exact zt_blk (hFd j l hj hl hn)
