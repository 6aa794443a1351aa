/-! THE JOURNAL -/
def zE1 (x : Int32) : Nat := if x = 1 then 1 else if x = 2 then 2 else 0
def zEn (wd : ZSt) : List Nat → Nat
  | [] => 0
  | b :: l => zE1 (wd b 0) + 4 * zEn wd l
def zHdr (sq : Nat) (l : List Nat) (wd : ZSt) : ZBk := fun w =>
  if w = 0 then 1 else if w = 1 then iN sq else if w = 2 then iN l.length else if w = 15 then iN (zEn wd l)
  else match l[w - 3]? with
    | some b => iN b
    | none => 0
def zEsc (x : ZBk) : ZBk := fun w => if w = 0 ∧ zE1 (x 0) ≠ 0 then 0 else x w
def u32 (x : Int32) : Nat := x.toBitVec.toNat
theorem u32_iN {n : Nat} (h : n < 2147483648) : u32 (iN n) = n := by
  have e : u32 (iN n) = n % 4294967296 := by unfold u32 iN; simp
  rw [e]; omega
def zDec (V : ZSt) (fr j : Nat) : ZBk := fun w => if w = 0 ∧ u32 (V fr 15) / 4 ^ j % 4 ≠ 0 then iN (u32 (V fr 15) / 4 ^ j % 4) else V (fr + 1 + j) w
/-- a commit of these blocks lies there -/
def zCm (V : ZSt) (fr sq : Nat) (l : List Nat) : Prop := V fr 0 = 1 ∧ V fr 1 = iN sq ∧ V fr 2 = iN l.length ∧ 1 ≤ l.length ∧ l.length ≤ 12 ∧ fr + l.length + 1 ≤ 28 ∧ V (fr + l.length + 1) 0 = 2 ∧ V (fr + l.length + 1) 1 = iN sq ∧ ∀ j, j < l.length → V fr (3 + j) = iN (l.getD j 0) ∧ 29 ≤ l.getD j 0 ∧ l.getD j 0 < 106
def zLen : List (List Nat) → Nat
  | [] => 0
  | l :: cs => l.length + 2 + zLen cs
def zCh (V : ZSt) : Nat → Nat → List (List Nat) → Prop
  | _, _, [] => True
  | fr, sq, l :: cs => zCm V fr sq l ∧ zCh V (fr + (l.length + 2)) (sq + 1) cs
def zPj (V : ZSt) (fr : Nat) (l : List Nat) : List (Nat × ZBk) := (List.range l.length).map fun j => (l.getD j 0, zDec V fr j)
def zPr (V : ZSt) : Nat → List (List Nat) → List (Nat × ZBk)
  | _, [] => []
  | fr, l :: cs => zPj V fr l ++ zPr V (fr + (l.length + 2)) cs
def zNT (V : ZSt) (s : Nat) : Prop := ∀ k, 1 ≤ k → k ≤ 28 → V k 0 = 2 → n32 (V k 1) < s
def zGood (W : ZSt → Prop) (m : Nat) (V : ZSt) : Prop := ∃ s0 cs, V 0 0 = iN s0 ∧ 1 ≤ s0 ∧ s0 + cs.length ≤ m ∧ zCh V 1 s0 cs ∧ zNT V (s0 + cs.length) ∧ W (zov V (zPr V 1 cs))
theorem zGood_mono (W : ZSt → Prop) : ∀ m m' V, m ≤ m' → zGood W m V → zGood W m' V := by
  intro m m' V hm h
  obtain ⟨s0, cs, h1, h2, h3, h4⟩ := h
  exact ⟨s0, cs, h1, h2, by omega, h4⟩
theorem zE1_lt (x : Int32) : zE1 x < 3 := by unfold zE1; split; omega; split <;> omega
theorem zEn_lt (wd : ZSt) : ∀ l : List Nat, zEn wd l < 4 ^ l.length := by
  intro l
  induction l with
  | nil => exact Nat.one_pos
  | cons b l ih =>
    have := zE1_lt (wd b 0)
    unfold zEn
    rw [List.length_cons, Nat.pow_succ]
    omega
theorem zEn_at (wd : ZSt) : ∀ (l : List Nat) (j : Nat), j < l.length → zEn wd l / 4 ^ j % 4 = zE1 (wd (l.getD j 0) 0) := by
  intro l
  induction l with
  | nil => intro j hj; exact absurd hj (Nat.not_lt_zero _)
  | cons b l ih =>
    intro j hj
    have h3 := zE1_lt (wd b 0)
    unfold zEn
    cases j with
    | zero =>
      show (zE1 (wd b 0) + 4 * zEn wd l) / 4 ^ 0 % 4 = zE1 (wd b 0)
      rw [Nat.pow_zero, Nat.div_one]; omega
    | succ j =>
      rw [Nat.pow_succ, Nat.mul_comm (4 ^ j) 4, ← Nat.div_div_eq_div_mul]
      have h4 : (zE1 (wd b 0) + 4 * zEn wd l) / 4 = zEn wd l := by omega
      rw [h4]
      exact ih j (by simp at hj; omega)
theorem iN_zE1 {x : Int32} (h : zE1 x ≠ 0) : iN (zE1 x) = x := by
  unfold zE1 at *
  split
  · rename_i h1; rw [h1]; rfl
  · rename_i h1
    rw [if_neg h1] at h
    split
    · rename_i h2; rw [h2]; rfl
    · rename_i h2; rw [if_neg h2] at h; exact absurd rfl h
/-- what was escaped comes back -/
theorem zDec_eq {V : ZSt} {fr j : Nat} {l : List Nat} {wd : ZSt} (hl : l.length ≤ 12) (h15 : V fr 15 = iN (zEn wd l)) (hj : j < l.length) (hr : V (fr + 1 + j) = zEsc (wd (l.getD j 0))) : zDec V fr j = wd (l.getD j 0) := by
  have hlt : zEn wd l < 2147483648 := Nat.lt_of_lt_of_le (zEn_lt wd l) (Nat.le_trans (Nat.pow_le_pow_right (by omega) hl) (by decide))
  have hb : u32 (V fr 15) / 4 ^ j % 4 = zE1 (wd (l.getD j 0) 0) := by rw [h15, u32_iN hlt]; exact zEn_at wd l j hj
  funext w
  unfold zDec
  rw [hb, hr]
  by_cases hw : w = 0
  · subst hw
    by_cases he : zE1 (wd (l.getD j 0) 0) = 0
    · rw [if_neg (fun h => h.2 he)]
      unfold zEsc
      rw [if_neg (fun h => h.2 he)]
    · rw [if_pos ⟨rfl, he⟩, iN_zE1 he]
  · rw [if_neg (fun h => hw h.1)]
    unfold zEsc
    rw [if_neg (fun h => hw h.1)]
theorem zEsc_0 (x : ZBk) : zEsc x 0 ≠ 2 := by
  unfold zEsc
  by_cases h : zE1 (x 0) = 0
  · rw [if_neg (fun hh => hh.2 h)]
    intro hx
    rw [hx] at h
    exact absurd h (by decide)
  · rw [if_pos ⟨rfl, h⟩]; decide
/-! chains -/
theorem zCm_congr {V V' : ZSt} {fr sq : Nat} {l : List Nat} (h : zCm V fr sq l) (hv : ∀ k, fr ≤ k → k < fr + (l.length + 2) → V' k = V k) : zCm V' fr sq l := by
  obtain ⟨h1, h2, h3, h4, h5, h6, h7, h8, h9⟩ := h
  have e1 := hv fr (Nat.le_refl _) (by omega)
  have e2 := hv (fr + l.length + 1) (by omega) (by omega)
  exact ⟨by rw [e1]; exact h1, by rw [e1]; exact h2, by rw [e1]; exact h3, h4, h5, h6, by rw [e2]; exact h7, by rw [e2]; exact h8, fun j hj => by rw [e1]; exact h9 j hj⟩
theorem zPj_congr {V V' : ZSt} {fr : Nat} {l : List Nat} (hv : ∀ k, fr ≤ k → k < fr + (l.length + 2) → V' k = V k) : zPj V' fr l = zPj V fr l := by
  unfold zPj
  apply List.map_congr_left
  intro j hj
  have hj := List.mem_range.mp hj
  have : zDec V' fr j = zDec V fr j := by
    funext w; unfold zDec
    rw [hv fr (Nat.le_refl _) (by omega), hv (fr + 1 + j) (by omega) (by omega)]
  rw [this]
theorem zCh_congr {V V' : ZSt} : ∀ {cs : List (List Nat)} {fr sq : Nat}, zCh V fr sq cs → (∀ k, fr ≤ k → k < fr + zLen cs → V' k = V k) → zCh V' fr sq cs ∧ zPr V' fr cs = zPr V fr cs := by
  intro cs
  induction cs with
  | nil => intro fr sq _ _; exact ⟨trivial, rfl⟩
  | cons l cs ih =>
    intro fr sq h hv
    have hv : ∀ k, fr ≤ k → k < fr + (l.length + 2 + zLen cs) → V' k = V k := hv
    obtain ⟨h1, h2⟩ := h
    obtain ⟨i1, i2⟩ := ih h2 (fun k k1 k2 => hv k (by omega) (by omega))
    refine ⟨⟨zCm_congr h1 (fun k k1 k2 => hv k k1 (by omega)), i1⟩, ?_⟩
    show zPj V' fr l ++ zPr V' (fr + (l.length + 2)) cs = _
    rw [zPj_congr (fun k k1 k2 => hv k k1 (by omega)), i2]; rfl
theorem zCh_len {V : ZSt} : ∀ {cs : List (List Nat)} {fr sq : Nat}, zCh V fr sq cs → fr ≤ 29 → fr + zLen cs ≤ 29 := by
  intro cs
  induction cs with
  | nil => intro fr sq _ h; exact h
  | cons l cs ih =>
    intro fr sq h hf
    obtain ⟨h1, h2⟩ := h
    obtain ⟨_, _, _, _, _, h6, _⟩ := h1
    have := ih h2 (by omega)
    show fr + (l.length + 2 + zLen cs) ≤ 29
    omega
theorem zPr_key {V : ZSt} : ∀ {cs : List (List Nat)} {fr sq : Nat}, zCh V fr sq cs → ∀ e ∈ zPr V fr cs, 29 ≤ e.1 ∧ e.1 < 106 := by
  intro cs
  induction cs with
  | nil => intro fr sq _ e he; cases he
  | cons l cs ih =>
    intro fr sq h e he
    obtain ⟨h1, h2⟩ := h
    rcases List.mem_append.mp he with he | he
    · obtain ⟨j, hj, rfl⟩ := List.mem_map.mp he
      exact (h1.2.2.2.2.2.2.2.2 j (List.mem_range.mp hj)).2
    · exact ih h2 e he
theorem zCh_snoc {V : ZSt} : ∀ {cs : List (List Nat)} {fr sq : Nat} {l : List Nat}, zCh V fr sq cs → zCm V (fr + zLen cs) (sq + cs.length) l → zCh V fr sq (cs ++ [l]) ∧ zPr V fr (cs ++ [l]) = zPr V fr cs ++ zPj V (fr + zLen cs) l := by
  intro cs
  induction cs with
  | nil =>
    intro fr sq l _ h
    refine ⟨⟨h, trivial⟩, ?_⟩
    show zPj V fr l ++ [] = [] ++ zPj V (fr + 0) l
    rw [List.append_nil, List.nil_append, Nat.add_zero]
  | cons l0 cs ih =>
    intro fr sq l h hc
    obtain ⟨h1, h2⟩ := h
    have e1 : fr + (l0.length + 2) + zLen cs = fr + zLen (l0 :: cs) := by show _ = fr + (l0.length + 2 + zLen cs); omega
    have e2 : sq + 1 + cs.length = sq + (l0 :: cs).length := by rw [List.length_cons]; omega
    obtain ⟨i1, i2⟩ := ih (l := l) h2 (by rw [e1, e2]; exact hc)
    refine ⟨⟨h1, i1⟩, ?_⟩
    show zPj V fr l0 ++ zPr V (fr + (l0.length + 2)) (cs ++ [l]) = (zPj V fr l0 ++ zPr V (fr + (l0.length + 2)) cs) ++ _
    rw [i2, e1, List.append_assoc]
theorem zLen_snoc (cs : List (List Nat)) (l : List Nat) : zLen (cs ++ [l]) = zLen cs + (l.length + 2) := by
  induction cs with
  | nil => show l.length + 2 + 0 = 0 + (l.length + 2); omega
  | cons l0 cs ih =>
    show l0.length + 2 + zLen (cs ++ [l]) = l0.length + 2 + zLen cs + (l.length + 2)
    rw [ih]; omega
/-! the phases of a commit and of a coming home -/
/-- where the journal stands in a volume -/
abbrev ZJn (C : ZSt) (s0 sq jr : Nat) (cs : List (List Nat)) : Prop := (C 0 0 = iN s0) ∧ (1 ≤ s0) ∧ (zCh C 1 s0 cs) ∧ (sq = s0 + cs.length) ∧ (jr = 1 + zLen cs) ∧ (zNT C sq)
theorem ZJn.c0 {C : ZSt} {s0 sq jr : Nat} {cs : List (List Nat)} (h : ZJn C s0 sq jr cs) : C 0 0 = iN s0 := h.1
theorem ZJn.s1 {C : ZSt} {s0 sq jr : Nat} {cs : List (List Nat)} (h : ZJn C s0 sq jr cs) : 1 ≤ s0 := h.2.1
theorem ZJn.ch {C : ZSt} {s0 sq jr : Nat} {cs : List (List Nat)} (h : ZJn C s0 sq jr cs) : zCh C 1 s0 cs := h.2.2.1
theorem ZJn.sq {C : ZSt} {s0 sq jr : Nat} {cs : List (List Nat)} (h : ZJn C s0 sq jr cs) : sq = s0 + cs.length := h.2.2.2.1
theorem ZJn.jr {C : ZSt} {s0 sq jr : Nat} {cs : List (List Nat)} (h : ZJn C s0 sq jr cs) : jr = 1 + zLen cs := h.2.2.2.2.1
theorem ZJn.nt {C : ZSt} {s0 sq jr : Nat} {cs : List (List Nat)} (h : ZJn C s0 sq jr cs) : zNT C sq := h.2.2.2.2.2
theorem ZJn.same {W : ZSt → Prop} (hW : ∀ T T', (∀ b, 29 ≤ b → T b = T' b) → W T → W T') {C V : ZSt} {s0 sq jr m : Nat} {cs : List (List Nat)} (h : ZJn C s0 sq jr cs) (hm : sq ≤ m) (hw : W (zov C (zPr C 1 cs))) (h0 : V 0 = C 0) (h1 : ∀ b, 1 ≤ b → b < jr → V b = C b) (h2 : ∀ b, 29 ≤ b → V b = C b ∨ ∃ e ∈ zPr C 1 cs, e.1 = b) (hn : ∀ k, jr ≤ k → k ≤ 28 → V k = C k ∨ V k 0 ≠ 2) : zGood W m V := by
  have hjr := h.jr
  have hsq := h.sq
  obtain ⟨i1, i2⟩ := zCh_congr (V' := V) h.ch (fun k k1 k2 => h1 k k1 (by omega))
  refine ⟨s0, cs, by rw [h0]; exact h.c0, h.s1, by omega, i1, ?_, ?_⟩
  · intro k k1 k2 hk
    rw [← hsq]
    by_cases hkj : k < jr
    · rw [h1 k k1 hkj] at hk ⊢; exact h.nt k k1 k2 hk
    · rcases hn k (by omega) k2 with q | q
      · rw [q] at hk ⊢; exact h.nt k k1 k2 hk
      · exact absurd hk q
  · rw [i2]
    refine hW _ _ (fun b hb => zov_agree (fun hk => ?_)) hw
    rcases h2 b hb with q | ⟨e, he, q⟩
    · exact q.symm
    · exact absurd q (hk e he)
def zRows (jr : Nat) (l : List Nat) (wd : ZSt) : List (Nat × ZBk) := (List.range l.length).map fun j => (jr + 1 + j, zEsc (wd (l.getD j 0)))
theorem zRows_at {jr : Nat} {l : List Nat} {wd C : ZSt} {j : Nat} (hj : j < l.length) : zov C (zRows jr l wd) (jr + 1 + j) = zEsc (wd (l.getD j 0)) := by
  refine zov_all (fun e he hb => ?_) (Or.inr ⟨(jr + 1 + j, zEsc (wd (l.getD j 0))), List.mem_map.mpr ⟨j, List.mem_range.mpr hj, rfl⟩, rfl⟩)
  obtain ⟨i, hi, rfl⟩ := List.mem_map.mp he
  have : i = j := by dsimp only at hb; omega
  rw [this]
theorem zRows_out {jr : Nat} {l : List Nat} {wd C : ZSt} {b : Nat} (hb : b ≤ jr ∨ jr + l.length < b) : zov C (zRows jr l wd) b = C b := by
  refine zov_notin (fun e he hx => ?_)
  obtain ⟨i, hi, rfl⟩ := List.mem_map.mp he
  have := List.mem_range.mp hi
  dsimp only at hx; omega
theorem zHdr_list {sq j : Nat} {l : List Nat} {wd : ZSt} (hj : j < l.length) (hl : l.length ≤ 12) : zHdr sq l wd (3 + j) = iN (l.getD j 0) := by
  unfold zHdr
  rw [if_neg (by omega), if_neg (by omega), if_neg (by omega), if_neg (by omega)]
  have : 3 + j - 3 = j := by omega
  rw [this, List.getElem?_eq_getElem hj]
  dsimp only
  rw [List.getD_eq_getElem?_getD, List.getElem?_eq_getElem hj]; rfl
/-- once the last block is there the commit counts -/
theorem ZJn.commit {C C1 C2 : ZSt} {s0 sq jr : Nat} {cs : List (List Nat)} {l : List Nat} {wd : ZSt} (h : ZJn C s0 sq jr cs) (hsq : sq < 2147483648) (l1 : 1 ≤ l.length) (l2 : l.length ≤ 12) (lr : jr + l.length + 1 ≤ 28) (lb : ∀ j, j < l.length → 29 ≤ l.getD j 0 ∧ l.getD j 0 < 106)
    (h1 : C1 = zov (zu C jr (zHdr sq l wd)) (zRows jr l wd)) (h2 : C2 = zu C1 (jr + l.length + 1) (zThree 2 sq 0)) :
    ZJn C2 s0 (sq + 1) (jr + (l.length + 2)) (cs ++ [l]) ∧ ∀ b, 29 ≤ b → zov C2 (zPr C2 1 (cs ++ [l])) b = zov (zov C (zPr C 1 cs)) (zPj C2 jr l) b := by
  have hjr := h.jr
  have hq := h.sq
  have e0 : ∀ b, b < jr ∨ jr + l.length + 1 < b → C2 b = C b := by
    intro b hb
    rw [h2, zu_ne _ _ (by omega), h1, zRows_out (by omega), zu_ne _ _ (by omega)]
  have ej : C2 jr = zHdr sq l wd := by
    rw [h2, zu_ne _ _ (by omega), h1, zRows_out (by omega), zu_self]
  have et : C2 (jr + l.length + 1) = zThree 2 sq 0 := by rw [h2, zu_self]
  have er : ∀ j, j < l.length → C2 (jr + 1 + j) = zEsc (wd (l.getD j 0)) := by
    intro j hj; rw [h2, zu_ne _ _ (by omega), h1]; exact zRows_at hj
  have hcm : zCm C2 (1 + zLen cs) (s0 + cs.length) l := by
    rw [← hjr, ← hq]
    refine ⟨by rw [ej]; rfl, by rw [ej]; rfl, by rw [ej]; rfl, l1, l2, lr, by rw [et]; rfl, by rw [et]; rfl, fun j hj => ⟨by rw [ej]; exact zHdr_list hj l2, lb j hj⟩⟩
  obtain ⟨i1, i2⟩ := zCh_congr (V' := C2) h.ch (fun k k1 k2 => e0 k (by omega))
  obtain ⟨g1, g2⟩ := zCh_snoc i1 hcm
  refine ⟨⟨by rw [e0 0 (by omega)]; exact h.c0, h.s1, g1, by rw [List.length_append, List.length_singleton]; omega, by rw [zLen_snoc]; omega, ?_⟩, ?_⟩
  · intro k k1 k2 hk
    by_cases hk1 : k < jr ∨ jr + l.length + 1 < k
    · rw [e0 k hk1] at hk ⊢
      have := h.nt k k1 k2 hk; omega
    · by_cases hk2 : k = jr
      · rw [hk2, ej] at hk; exact absurd hk (by show (1 : Int32) ≠ 2; decide)
      · by_cases hk3 : k = jr + l.length + 1
        · rw [hk3, et, zThree_1, n32_iN hsq]; omega
        · exfalso
          have e : k = jr + 1 + (k - jr - 1) := by omega
          rw [e, er (k - jr - 1) (by omega)] at hk
          exact zEsc_0 _ hk
  · intro b hb
    rw [g2, i2, zov_append, ← hjr]
    exact zov_agree (fun _ => zov_agree (fun _ => e0 b (by omega)))
theorem zPj_eq {C2 : ZSt} {sq jr : Nat} {l : List Nat} {wd : ZSt} (l2 : l.length ≤ 12) (ej : C2 jr = zHdr sq l wd) (er : ∀ j, j < l.length → C2 (jr + 1 + j) = zEsc (wd (l.getD j 0))) : zPj C2 jr l = (List.range l.length).map fun j => (l.getD j 0, wd (l.getD j 0)) := by
  unfold zPj
  apply List.map_congr_left
  intro j hj
  have hj := List.mem_range.mp hj
  rw [zDec_eq l2 (by rw [ej]; rfl) hj (er j hj)]
/-! THE TREE'S STATE: commit, coming home -/
def ZTs : Type := (ZVs) × (ZSt) × (ZSt) × (Nat → Bool) × (Nat → Bool) × (Nat) × (Nat)
def ZTs.mk (x0 : ZVs) (x1 : ZSt) (x2 : ZSt) (x3 : Nat → Bool) (x4 : Nat → Bool) (x5 : Nat) (x6 : Nat) : ZTs := (x0, x1, x2, x3, x4, x5, x6)
def ZTs.tv (v : ZTs) : ZVs := v.1
def ZTs.wd (v : ZTs) : ZSt := v.2.1
def ZTs.kp (v : ZTs) : ZSt := v.2.2.1
def ZTs.ch (v : ZTs) : Nat → Bool := v.2.2.2.1
def ZTs.kt (v : ZTs) : Nat → Bool := v.2.2.2.2.1
def ZTs.sq (v : ZTs) : Nat := v.2.2.2.2.2.1
def ZTs.jr (v : ZTs) : Nat := v.2.2.2.2.2.2
def ZTs.s_tv (v : ZTs) (x : ZVs) : ZTs := ZTs.mk x v.wd v.kp v.ch v.kt v.sq v.jr
def ZTs.s_wd (v : ZTs) (x : ZSt) : ZTs := ZTs.mk v.tv x v.kp v.ch v.kt v.sq v.jr
def ZTs.s_kp (v : ZTs) (x : ZSt) : ZTs := ZTs.mk v.tv v.wd x v.ch v.kt v.sq v.jr
def ZTs.s_ch (v : ZTs) (x : Nat → Bool) : ZTs := ZTs.mk v.tv v.wd v.kp x v.kt v.sq v.jr
def ZTs.s_kt (v : ZTs) (x : Nat → Bool) : ZTs := ZTs.mk v.tv v.wd v.kp v.ch x v.sq v.jr
def ZTs.s_sq (v : ZTs) (x : Nat) : ZTs := ZTs.mk v.tv v.wd v.kp v.ch v.kt x v.jr
def ZTs.s_jr (v : ZTs) (x : Nat) : ZTs := ZTs.mk v.tv v.wd v.kp v.ch v.kt v.sq x
def zCl (f : Nat → Bool) : List Nat := (List.range 106).filter f
theorem mem_zCl {f : Nat → Bool} {b : Nat} : b ∈ zCl f ↔ b < 106 ∧ f b = true := by unfold zCl; simp
noncomputable def ZVs.wrAll : List (Nat × ZBk) → ZVs → ZVs
  | [], v => v
  | e :: l, v => ZVs.wrAll l (v.wrv e.1 e.2)
noncomputable def ZTs.home (t : ZTs) : ZTs :=
  if zCl t.kt = [] then t else
  (ZTs.mk ((((ZVs.wrAll ((zCl t.kt).map fun b => (b, t.kp b)) t.tv).flv).wrv 0 (zThree t.sq 0 0)).flv) (ZTs.wd t) (ZTs.kp t) (ZTs.ch t) (fun _ => false) (ZTs.sq t) 1)
/-- the acts of a commit -/
noncomputable def zCmt (l : List Nat) (wd : ZSt) (sq jr : Nat) (v : ZVs) : ZVs := (((ZVs.wrAll ((jr, zHdr sq l wd) :: zRows jr l wd) v).flv).wrv (jr + l.length + 1) (zThree 2 sq 0)).flv
noncomputable def zCmt1 (t1 : ZTs) (l : List Nat) : ZTs := (ZTs.mk (zCmt l t1.wd t1.sq t1.jr t1.tv) (ZTs.wd t1) (fun b => if t1.ch b = true then t1.wd b else t1.kp b) (fun _ => false) (fun b => t1.kt b || t1.ch b) (t1.sq + 1) (t1.jr + (l.length + 2)))
noncomputable def ZTs.commit (t : ZTs) : ZTs :=
  if zCl t.ch = [] then t else
  zCmt1 (if 29 - t.jr < (zCl t.ch).length + 2 then t.home else t) (zCl t.ch)
/-- the committed tree -/
def zTc (t : ZTs) : ZSt := fun b => if t.kt b = true then t.kp b else t.tv.cur b
abbrev ZTi (W : ZSt → Prop) (t : ZTs) : Prop := (ZIv (zGood W) (fun V => V = t.tv.cur) t.tv) ∧ (∃ s0 cs, ZJn t.tv.cur s0 t.sq t.jr cs ∧ (∀ b, t.kt b = true ↔ ∃ e ∈ zPr t.tv.cur 1 cs, e.1 = b) ∧ (∀ b, t.kt b = true → t.kp b = zov t.tv.cur (zPr t.tv.cur 1 cs) b)) ∧ (W (zTc t)) ∧ (W t.wd) ∧ (∀ b, 29 ≤ b → t.ch b = false → t.wd b = zTc t b) ∧ (∀ b, t.ch b = true → 29 ≤ b ∧ b < 106) ∧ ((zCl t.ch).length ≤ 12) ∧ (t.sq ≤ t.tv.p.na + 1)
theorem ZTi.iv {W : ZSt → Prop} {t : ZTs} (h : ZTi W t) : ZIv (zGood W) (fun V => V = t.tv.cur) t.tv := h.1
theorem ZTi.jn {W : ZSt → Prop} {t : ZTs} (h : ZTi W t) : ∃ s0 cs, ZJn t.tv.cur s0 t.sq t.jr cs ∧ (∀ b, t.kt b = true ↔ ∃ e ∈ zPr t.tv.cur 1 cs, e.1 = b) ∧ (∀ b, t.kt b = true → t.kp b = zov t.tv.cur (zPr t.tv.cur 1 cs) b) := h.2.1
theorem ZTi.wt {W : ZSt → Prop} {t : ZTs} (h : ZTi W t) : W (zTc t) := h.2.2.1
theorem ZTi.ww {W : ZSt → Prop} {t : ZTs} (h : ZTi W t) : W t.wd := h.2.2.2.1
theorem ZTi.wc {W : ZSt → Prop} {t : ZTs} (h : ZTi W t) : ∀ b, 29 ≤ b → t.ch b = false → t.wd b = zTc t b := h.2.2.2.2.1
theorem ZTi.cb {W : ZSt → Prop} {t : ZTs} (h : ZTi W t) : ∀ b, t.ch b = true → 29 ≤ b ∧ b < 106 := h.2.2.2.2.2.1
theorem ZTi.cn {W : ZSt → Prop} {t : ZTs} (h : ZTi W t) : (zCl t.ch).length ≤ 12 := h.2.2.2.2.2.2.1
theorem ZTi.ns {W : ZSt → Prop} {t : ZTs} (h : ZTi W t) : t.sq ≤ t.tv.p.na + 1 := h.2.2.2.2.2.2.2
def ZTOk (W : ZSt → Prop) (A : ZTs → Prop) (t : ZTs) : Prop := (t.tv.p.up = true ∧ A t) ∨ ZDn (zGood W) t.tv
theorem ZOk.bindZ {P : Nat → ZSt → Prop} {A B : ZVs → Prop} {v : ZVs} {f : ZVs → ZVs} {c : Nat} (h : ZOk P A v) (hf : ∀ u : ZVs, ZSz u.sets u.ways u.eps → ZFr c u (f u)) (hi : ∀ u, u.p.up = true → A u → ZOk P B (f u)) : ZOk P B (f v) := by
  rcases h with ⟨h1, h2⟩ | h
  · exact hi v h1 h2
  · exact Or.inr ((hf v h.sz).dnn h)
set_option maxRecDepth 20000 in
theorem zBnd (a n : Nat) (h1 : a + 1000000 < 2147483648) (h2 : n ≤ 12) : a + 7276 * (n + 1) + 30000 < 2147483648 := by omega
theorem zfr_wrAll : ∀ (l : List (Nat × ZBk)) (v : ZVs), ZSz v.sets v.ways v.eps → ZFr (7276 * l.length) v (ZVs.wrAll l v) := by
  intro l
  induction l with
  | nil => intro v _; exact ZFr.refl v
  | cons e l ih =>
    intro v hz
    have h1 := zfr_wrv v e.1 e.2 hz
    have key : ∀ u : ZVs, ZFr 7276 v u → ZFr (7276 * (e :: l).length) v (ZVs.wrAll l u) := fun u hu => (hu.trans (ih u (hu.sz hz))).mono (by rw [List.length_cons]; omega)
    exact key _ h1
theorem zfr_cmtTail (k b : Nat) (x : ZBk) (l : List (Nat × ZBk)) (hl : l.length ≤ k) (v : ZVs) (hz : ZSz v.sets v.ways v.eps) : ZFr (7276 * k + 8146) v ((((ZVs.wrAll l v).flv).wrv b x).flv) := by
  have k1 : ∀ u : ZVs, ZFr (7276 * k) v u → ZFr (7276 * k + 435) v u.flv := fun u hu => hu.trans (zfr_flv u (hu.sz hz))
  have k2 : ∀ u : ZVs, ZFr (7276 * k + 435) v u → ZFr (7276 * k + 7711) v (u.wrv b x) := fun u hu => (hu.trans (zfr_wrv u b x (hu.sz hz))).mono (by omega)
  have k3 : ∀ u : ZVs, ZFr (7276 * k + 7711) v u → ZFr (7276 * k + 8146) v u.flv := fun u hu => (hu.trans (zfr_flv u (hu.sz hz))).mono (by omega)
  exact k3 _ (k2 _ (k1 _ ((zfr_wrAll l v hz).mono (Nat.mul_le_mul_left _ hl))))
section
theorem ZIv.wrAll {P : Nat → ZSt → Prop} (hP : ∀ m m' V, m ≤ m' → P m V → P m' V) {Q : ZSt → Prop} : ∀ (l : List (Nat × ZBk)) (v : ZVs), ZIv P Q v → (∀ e ∈ l, e.1 < 106 ∧ ∀ V, Q V → Q (zu V e.1 e.2)) → v.p.na + 7276 * l.length + 10000 < 2147483648 → ZOk P (fun u => ZIv P Q u ∧ u.cur = zov v.cur l ∧ v.p.na + l.length ≤ u.p.na ∧ u.p.na ≤ v.p.na + 7276 * l.length) (ZVs.wrAll l v) := by
  intro l
  induction l with
  | nil => intro v h _ _; exact Or.inl ⟨h.up, h, rfl, Nat.le_refl _, Nat.le_refl _⟩
  | cons e l ih =>
    intro v h hq hn
    rw [List.length_cons] at hn
    obtain ⟨q1, q2⟩ := hq e (List.mem_cons_self)
    have hz := (zfr_wrv v e.1 e.2 h.sz).n2
    have s1 : ZOk P (fun u => (ZIv P Q u ∧ u.cur = zu v.cur e.1 e.2 ∧ v.p.na + 1 ≤ u.p.na) ∧ u.p.na ≤ v.p.na + 7276) (v.wrv e.1 e.2) := (h.wrv hP q1 q2 (by omega)).imp (fun _ q => ⟨q, hz⟩)
    refine s1.bindZ (f := ZVs.wrAll l) (fun u hu => zfr_wrAll l u hu) (fun u _ q => ?_)
    obtain ⟨⟨r1, r2, r3⟩, r4⟩ := q
    refine (ih u r1 (fun e' he' => hq e' (List.mem_cons_of_mem _ he')) (by omega)).impG (fun w _ t => ?_)
    obtain ⟨t1, t2, t3, t4⟩ := t
    exact ⟨t1, by rw [t2, r2]; rfl, by rw [List.length_cons]; omega, by rw [List.length_cons]; omega⟩
/-- a phase, a flush, one block, a flush -/
theorem ZIv.two {P : Nat → ZSt → Prop} (hP : ∀ m m' V, m ≤ m' → P m V → P m' V) {v : ZVs} {l : List (Nat × ZBk)} {b : Nat} {x : ZBk} {Q1 : ZSt → Prop} (h : ZIv P (fun V => V = v.cur) v) (hq0 : Q1 v.cur) (hq1 : ∀ e ∈ l, e.1 < 106 ∧ ∀ V, Q1 V → Q1 (zu V e.1 e.2)) (hg1 : ∀ V, Q1 V → P (v.p.na + 1) V) (hb : b < 106) (hl : 0 < l.length) (hg2 : P (v.p.na + 2) (zu (zov v.cur l) b x)) (hn : v.p.na + 7276 * l.length + 30000 < 2147483648) :
    ZOk P (fun u => ZIv P (fun V => V = u.cur) u ∧ u.cur = zu (zov v.cur l) b x ∧ v.p.na + 1 ≤ u.p.na) ((((ZVs.wrAll l v).flv).wrv b x).flv) := by
  have h1 : ZIv P Q1 v := h.re (fun V hV => by rw [hV]; exact hq0) hg1
  have s1 := ZIv.wrAll hP l v h1 hq1 (by omega)
  have s2 : ZOk P (fun u => ZIv P (fun V => V = u.cur) u ∧ u.cur = zov v.cur l ∧ v.p.na + 1 ≤ u.p.na ∧ u.p.na ≤ v.p.na + 7276 * l.length + 435) ((ZVs.wrAll l v).flv) := by
    refine s1.bindZ (f := fun u => u.flv) (fun u hu => zfr_flv u hu) (fun u _ q => ?_)
    obtain ⟨q1, q2, q3, q4⟩ := q
    have hz := zfr_flv u q1.sz
    have hz1 := hz.n1; have hz2 := hz.n2
    refine (q1.flv hP (by omega)).imp (fun _ r => ?_)
    refine ⟨?_, by rw [r.2, q2], by omega, by omega⟩
    have e := r.2
    refine r.1.re (fun V hV => by rw [hV, e]) (fun V hV => ?_)
    rw [hV, e]
    exact hP _ _ _ (by omega) (q1.qp _ q1.q)
  have s3 : ZOk P (fun u => ZIv P (fun V => V = zov v.cur l ∨ V = zu (zov v.cur l) b x) u ∧ u.cur = zu (zov v.cur l) b x ∧ v.p.na + 1 ≤ u.p.na ∧ u.p.na ≤ v.p.na + 7276 * l.length + 8000) (((ZVs.wrAll l v).flv).wrv b x) := by
    refine s2.bindZ (f := fun u => u.wrv b x) (fun u hu => zfr_wrv u b x hu) (fun u _ q => ?_)
    obtain ⟨q1, q2, q3, q4⟩ := q
    have hz := zfr_wrv u b x q1.sz
    have hz1 := hz.n1; have hz2 := hz.n2
    have h2 : ZIv P (fun V => V = zov v.cur l ∨ V = zu (zov v.cur l) b x) u := by
      refine q1.re (fun V hV => Or.inl (by rw [hV, q2])) (fun V hV => ?_)
      rcases hV with hV | hV
      · rw [hV, ← q2]; exact q1.qp _ rfl
      · rw [hV]; exact hP _ _ _ (by omega) hg2
    refine (h2.wrv hP hb (fun V hV => ?_) (by omega)).imp (fun _ r => ?_)
    · right
      rcases hV with hV | hV
      · rw [hV]
      · rw [hV, zu_zu]
    · exact ⟨r.1, by rw [r.2.1, q2], by omega, by omega⟩
  refine s3.bindZ (f := fun u => u.flv) (fun u hu => zfr_flv u hu) (fun u _ q => ?_)
  obtain ⟨q1, q2, q3, q4⟩ := q
  have hz := zfr_flv u q1.sz
  have hz1 := hz.n1
  refine (q1.flv hP (by omega)).imp (fun _ r => ?_)
  refine ⟨?_, by rw [r.2, q2], by omega⟩
  have e := r.2
  refine r.1.re (fun V hV => by rw [hV, e]) (fun V hV => ?_)
  rw [hV, e]
  exact hP _ _ _ (by omega) (q1.qp _ q1.q)
end
theorem zov_map_mem {l : List Nat} {f C : ZSt} {b : Nat} (hb : b ∈ l) : zov C (l.map fun b => (b, f b)) b = f b := by
  refine zov_all (fun e he hx => ?_) (Or.inr ⟨(b, f b), List.mem_map.mpr ⟨b, hb, rfl⟩, rfl⟩)
  obtain ⟨c, _, rfl⟩ := List.mem_map.mp he
  dsimp only at hx ⊢
  rw [hx]
theorem zov_map_out {l : List Nat} {f C : ZSt} {b : Nat} (hb : b ∉ l) : zov C (l.map fun b => (b, f b)) b = C b := by
  refine zov_notin (fun e he hx => ?_)
  obtain ⟨c, hc, rfl⟩ := List.mem_map.mp he
  dsimp only at hx
  exact hb (hx ▸ hc)
section
variable {W : ZSt → Prop} (hW : ∀ T T', (∀ b, 29 ≤ b → T b = T' b) → W T → W T')
theorem ZTi.tc {W : ZSt → Prop} {t : ZTs} {s0 : Nat} {cs : List (List Nat)} (hj : ZJn t.tv.cur s0 t.sq t.jr cs) (hk : ∀ b, t.kt b = true ↔ ∃ e ∈ zPr t.tv.cur 1 cs, e.1 = b) (hp : ∀ b, t.kt b = true → t.kp b = zov t.tv.cur (zPr t.tv.cur 1 cs) b) : zTc t = zov t.tv.cur (zPr t.tv.cur 1 cs) := by
  funext b
  unfold zTc
  split
  · rename_i h; exact hp b h
  · rename_i h
    rw [zov_notin]
    intro e he hx
    exact h ((hk b).mpr ⟨e, he, hx⟩)
theorem ZTi.kb {W : ZSt → Prop} {t : ZTs} {s0 : Nat} {cs : List (List Nat)} (hj : ZJn t.tv.cur s0 t.sq t.jr cs) (hk : ∀ b, t.kt b = true ↔ ∃ e ∈ zPr t.tv.cur 1 cs, e.1 = b) {b : Nat} (hb : t.kt b = true) : 29 ≤ b ∧ b < 106 := by
  obtain ⟨e, he, hx⟩ := (hk b).mp hb
  have := zPr_key hj.ch e he
  omega
/-- what is committed comes home -/
theorem ZTi.home {W : ZSt → Prop} (hW : ∀ T T', (∀ b, 29 ≤ b → T b = T' b) → W T → W T') {t : ZTs} (h : ZTi W t) (hn : t.tv.p.na + 1000000 < 2147483648) : ZTOk W (fun u => ZTi W u ∧ u.wd = t.wd ∧ u.ch = t.ch ∧ u.sq = t.sq ∧ u.jr = 1 ∧ ∀ b, u.kt b = false) t.home := by
  obtain ⟨s0, cs, hj, hk, hp⟩ := h.jn
  have htc := ZTi.tc (W := W) hj hk hp
  have hns := h.ns
  unfold ZTs.home
  split
  · rename_i hc
    have hkf : ∀ b, t.kt b = false := by
      intro b
      cases hb : t.kt b with
      | false => rfl
      | true =>
        exfalso
        have : b ∈ zCl t.kt := mem_zCl.mpr ⟨(ZTi.kb (W := W) hj hk hb).2, hb⟩
        rw [hc] at this; cases this
    have hcs : cs = [] := by
      cases cs with
      | nil => rfl
      | cons l cs =>
        exfalso
        have hcm := hj.ch.1
        have : (l.getD 0 0, zDec t.tv.cur 1 0) ∈ zPr t.tv.cur 1 (l :: cs) := List.mem_append_left _ (List.mem_map.mpr ⟨0, List.mem_range.mpr (by have := hcm.2.2.2.1; omega), rfl⟩)
        have hh := (hk (l.getD 0 0)).mpr ⟨_, this, rfl⟩
        rw [hkf] at hh; cases hh
    refine Or.inl ⟨h.iv.up, h, rfl, rfl, rfl, ?_, hkf⟩
    rw [hj.jr, hcs]; rfl
  · rename_i hc
    have hlen : 0 < ((zCl t.kt).map fun b => (b, t.kp b)).length := by rw [List.length_map]; exact List.length_pos_iff.mpr hc
    have hlen2 : ((zCl t.kt).map fun b => (b, t.kp b)).length ≤ 106 := by
      rw [List.length_map]; unfold zCl; exact Nat.le_trans (List.length_filter_le _ _) (by simp)
    have hjl := zCh_len hj.ch (by omega)
    have hjr := hj.jr
    -- the volume with all at home
    have hov : ∀ b, 29 ≤ b → zov t.tv.cur ((zCl t.kt).map fun b => (b, t.kp b)) b = zTc t b := by
      intro b _
      unfold zTc
      split
      · rename_i hb; exact zov_map_mem (mem_zCl.mpr ⟨(ZTi.kb (W := W) hj hk hb).2, hb⟩)
      · rename_i hb; exact zov_map_out (fun hx => hb (mem_zCl.mp hx).2)
    have hlo : ∀ b, b < 29 → zov t.tv.cur ((zCl t.kt).map fun b => (b, t.kp b)) b = t.tv.cur b := by
      intro b hb
      refine zov_map_out (fun hx => ?_)
      have := ZTi.kb (W := W) hj hk (mem_zCl.mp hx).2
      omega
    let Q1 : ZSt → Prop := fun V => ∀ b, V b = t.tv.cur b ∨ (t.kt b = true ∧ V b = t.kp b)
    have hQ1 : ∀ V, Q1 V → zGood W (t.tv.p.na + 1) V := by
      intro V hV
      have hv : ∀ b, b < 29 → V b = t.tv.cur b := by
        intro b hb
        rcases hV b with q | q
        · exact q
        · have := ZTi.kb (W := W) hj hk q.1; omega
      refine hj.same hW hns (by rw [← htc]; exact h.wt) (hv 0 (by omega)) (fun b _ hb => hv b (by omega)) (fun b hb => ?_) (fun k _ hk2 => Or.inl (hv k (by omega)))
      rcases hV b with q | q
      · exact Or.inl q
      · exact Or.inr ((hk b).mp q.1)
    have hG2 : zGood W (t.tv.p.na + 2) (zu (zov t.tv.cur ((zCl t.kt).map fun b => (b, t.kp b))) 0 (zThree t.sq 0 0)) := by
      refine ⟨t.sq, [], by rw [zu_self]; rfl, by have := hj.s1; have := hj.sq; omega, by show t.sq + 0 ≤ _; omega, trivial, ?_, ?_⟩
      · intro k k1 k2 hx
        rw [zu_ne _ _ (by omega), hlo k (by omega)] at hx ⊢
        exact hj.nt k k1 k2 hx
      · refine hW _ _ (fun b hb => ?_) h.wt
        show zTc t b = zu _ 0 _ b
        rw [zu_ne _ _ (by omega), hov b hb]
    have s1 := ZIv.two (zGood_mono W) (l := (zCl t.kt).map fun b => (b, t.kp b)) (b := 0) (x := zThree t.sq 0 0) (Q1 := Q1) h.iv (fun b => Or.inl rfl) (fun e he => by
      obtain ⟨c, hc, rfl⟩ := List.mem_map.mp he
      have hc := mem_zCl.mp hc
      refine ⟨hc.1, fun V hV b => ?_⟩
      by_cases hb : b = c
      · right; rw [hb, zu_self]; exact ⟨hc.2, rfl⟩
      · rw [zu_ne _ _ hb]; exact hV b) hQ1 (by omega) hlen hG2 (by omega)
    -- what is left
    have key : ∀ u : ZVs, u.p.up = true → (ZIv (zGood W) (fun V => V = u.cur) u ∧ u.cur = zu (zov t.tv.cur ((zCl t.kt).map fun b => (b, t.kp b))) 0 (zThree t.sq 0 0) ∧ t.tv.p.na + 1 ≤ u.p.na) → ZTi W (ZTs.mk u (ZTs.wd t) (ZTs.kp t) (ZTs.ch t) (fun _ => false) (ZTs.sq t) 1) := by
      intro u hup q
      obtain ⟨q1, q2, q3⟩ := q
      have hcur : ∀ b, 29 ≤ b → u.cur b = zTc t b := by
        intro b hb; rw [q2, zu_ne _ _ (by omega), hov b hb]
      have htu : ∀ b, 29 ≤ b → zTc (ZTs.mk u (ZTs.wd t) (ZTs.kp t) (ZTs.ch t) (fun _ => false) (ZTs.sq t) 1) b = zTc t b := fun b hb => hcur b hb
      refine ⟨q1, ⟨t.sq, [], ⟨by show u.cur 0 0 = _; rw [q2, zu_self]; rfl, by have := hj.s1; have := hj.sq; omega, trivial, rfl, rfl, ?_⟩, fun b => ⟨fun hx => (by cases hx), fun hx => ?_⟩, fun b hx => (by cases hx)⟩, ?_, h.ww, fun b hb hcb => ?_, h.cb, h.cn, ?_⟩
      · intro k k1 k2 hx
        have hx : u.cur k 0 = 2 := hx
        show n32 (u.cur k 1) < t.sq
        rw [q2, zu_ne _ _ (by omega), hlo k (by omega)] at hx ⊢
        exact hj.nt k k1 k2 hx
      · obtain ⟨e, he, _⟩ := hx; cases he
      · exact hW _ _ (fun b hb => (htu b hb).symm) h.wt
      · exact (h.wc b hb hcb).trans (htu b hb).symm
      · show t.sq ≤ u.p.na + 1
        omega
    have fin : ∀ u : ZVs, ZOk (zGood W) (fun u => ZIv (zGood W) (fun V => V = u.cur) u ∧ u.cur = zu (zov t.tv.cur ((zCl t.kt).map fun b => (b, t.kp b))) 0 (zThree t.sq 0 0) ∧ t.tv.p.na + 1 ≤ u.p.na) u → ZTOk W (fun u => ZTi W u ∧ u.wd = t.wd ∧ u.ch = t.ch ∧ u.sq = t.sq ∧ u.jr = 1 ∧ ∀ b, u.kt b = false) (ZTs.mk u (ZTs.wd t) (ZTs.kp t) (ZTs.ch t) (fun _ => false) (ZTs.sq t) 1) := by
      intro u hu
      rcases hu with ⟨hup, hu⟩ | hu
      · exact Or.inl ⟨hup, key u hup hu, rfl, rfl, rfl, rfl, fun _ => rfl⟩
      · exact Or.inr hu
    exact fin _ s1
/-- what is changed is committed -/
theorem ZTi.cmt {W : ZSt → Prop} (hW : ∀ T T', (∀ b, 29 ≤ b → T b = T' b) → W T → W T') {t : ZTs} (h : ZTi W t) (hc : zCl t.ch ≠ []) (hroom : t.jr + (zCl t.ch).length + 1 ≤ 28) (hn : t.tv.p.na + 1000000 < 2147483648) : ZTOk W (fun u => ZTi W u ∧ u.wd = t.wd ∧ (∀ b, u.ch b = false)) (zCmt1 t (zCl t.ch)) := by
  obtain ⟨s0, cs, hj, hk, hp⟩ := h.jn
  have htc := ZTi.tc (W := W) hj hk hp
  have hns := h.ns
  have hlm : ∀ b, b ∈ zCl t.ch ↔ t.ch b = true := fun b => ⟨fun hx => (mem_zCl.mp hx).2, fun hx => mem_zCl.mpr ⟨(h.cb b hx).2, hx⟩⟩
  have hl12 := h.cn
  have hl1 : 1 ≤ (zCl t.ch).length := List.length_pos_iff.mpr hc
  have hbnd : t.tv.p.na + 7276 * ((zCl t.ch).length + 1) + 30000 < 2147483648 := zBnd _ _ hn hl12
  unfold zCmt1
  generalize hl : zCl t.ch = l at *
  have hget : ∀ j, j < l.length → t.ch (l.getD j 0) = true := by
    intro j hj
    have : l.getD j 0 = l[j] := by rw [List.getD_eq_getElem?_getD, List.getElem?_eq_getElem hj]; rfl
    rw [this]; exact (hlm _).mp (List.getElem_mem hj)
  have hjr := hj.jr
  have hjl := zCh_len hj.ch (by omega)
  have hsq32 : t.sq < 2147483648 := by omega
  obtain ⟨C1, hC1⟩ : ∃ C1, C1 = zov (zu t.tv.cur t.jr (zHdr t.sq l t.wd)) (zRows t.jr l t.wd) := ⟨_, rfl⟩
  obtain ⟨C2, hC2⟩ : ∃ C2, C2 = zu C1 (t.jr + l.length + 1) (zThree 2 t.sq 0) := ⟨_, rfl⟩
  obtain ⟨hj2, ht2⟩ := hj.commit (l := l) (wd := t.wd) hsq32 hl1 hl12 hroom (fun j hj => h.cb _ (hget j hj)) hC1 hC2
  have ej : C2 t.jr = zHdr t.sq l t.wd := by rw [hC2, zu_ne _ _ (by omega), hC1, zRows_out (by omega), zu_self]
  have er : ∀ j, j < l.length → C2 (t.jr + 1 + j) = zEsc (t.wd (l.getD j 0)) := by
    intro j hj; rw [hC2, zu_ne _ _ (by omega), hC1]; exact zRows_at hj
  have hpj := zPj_eq hl12 ej er
  -- the tree that the commit makes
  have htree : ∀ b, 29 ≤ b → zov C2 (zPr C2 1 (cs ++ [l])) b = t.wd b := by
    intro b hb
    rw [ht2 b hb, ← htc, hpj]
    by_cases hcb : t.ch b = true
    · have hbl := (hlm b).mpr hcb
      obtain ⟨j, hj1, hj2⟩ := List.getElem_of_mem hbl
      refine zov_all (fun e he hx => ?_) (Or.inr ⟨(l.getD j 0, t.wd (l.getD j 0)), List.mem_map.mpr ⟨j, List.mem_range.mpr hj1, rfl⟩, ?_⟩)
      · obtain ⟨i, _, rfl⟩ := List.mem_map.mp he
        dsimp only at hx ⊢; rw [hx]
      · dsimp only
        rw [List.getD_eq_getElem?_getD, List.getElem?_eq_getElem hj1]; exact hj2
    · rw [zov_notin]
      · exact (h.wc b hb (by cases hh : t.ch b with | false => rfl | true => exact absurd hh hcb)).symm
      · intro e he hx
        obtain ⟨i, hi, rfl⟩ := List.mem_map.mp he
        dsimp only at hx
        apply hcb; rw [← hx]; exact hget i (List.mem_range.mp hi)
  have hkeys : ∀ b, (∃ e ∈ zPr C2 1 (cs ++ [l]), e.1 = b) ↔ (t.kt b || t.ch b) = true := by
    intro b
    have e0 : ∀ k, 1 ≤ k → k < 1 + zLen cs → C2 k = t.tv.cur k := by
      intro k k1 k2
      rw [hC2, zu_ne _ _ (by omega), hC1, zRows_out (by omega), zu_ne _ _ (by omega)]
    obtain ⟨i1, i2⟩ := zCh_congr (V' := C2) hj.ch e0
    have hcm : zCm C2 (1 + zLen cs) (s0 + cs.length) l := by
      have := hj2.ch
      rw [← hjr, ← hj.sq]
      exact ⟨by rw [ej]; rfl, by rw [ej]; rfl, by rw [ej]; rfl, hl1, hl12, hroom, by rw [hC2, zu_self]; rfl, by rw [hC2, zu_self]; rfl, fun j hj => ⟨by rw [ej]; exact zHdr_list hj hl12, h.cb _ (hget j hj)⟩⟩
    rw [(zCh_snoc i1 hcm).2, i2, ← hjr, hpj]
    rw [Bool.or_eq_true, hk b]
    constructor
    · rintro ⟨e, he, hx⟩
      rcases List.mem_append.mp he with he | he
      · exact Or.inl ⟨e, he, hx⟩
      · obtain ⟨i, hi, rfl⟩ := List.mem_map.mp he
        right; rw [← hx]; exact hget i (List.mem_range.mp hi)
    · rintro (⟨e, he, hx⟩ | hx)
      · exact ⟨e, List.mem_append_left _ he, hx⟩
      · obtain ⟨j, hj1, hj2⟩ := List.getElem_of_mem ((hlm b).mpr hx)
        refine ⟨(l.getD j 0, t.wd (l.getD j 0)), List.mem_append_right _ (List.mem_map.mpr ⟨j, List.mem_range.mpr hj1, rfl⟩), ?_⟩
        dsimp only
        rw [List.getD_eq_getElem?_getD, List.getElem?_eq_getElem hj1]; exact hj2
  let Q1 : ZSt → Prop := fun V => ∀ b, V b = t.tv.cur b ∨ (t.jr ≤ b ∧ b ≤ t.jr + l.length ∧ V b 0 ≠ 2)
  have hQ1 : ∀ V, Q1 V → zGood W (t.tv.p.na + 1) V := by
    intro V hV
    have hv : ∀ b, b < t.jr ∨ 29 ≤ b → V b = t.tv.cur b := by
      intro b hb
      rcases hV b with q | q
      · exact q
      · omega
    refine hj.same hW hns (by rw [← htc]; exact h.wt) (hv 0 (by omega)) (fun b _ hb => hv b (by omega)) (fun b hb => Or.inl (hv b (Or.inr hb))) (fun k k1 k2 => ?_)
    rcases hV k with q | q
    · exact Or.inl q
    · exact Or.inr q.2.2
  have hG2 : zGood W (t.tv.p.na + 2) C2 := ⟨s0, cs ++ [l], hj2.c0, hj2.s1, by have := hj2.sq; omega, hj2.ch, by rw [← hj2.sq]; exact hj2.nt, hW _ _ (fun b hb => (htree b hb).symm) h.ww⟩
  have hrl : ((t.jr, zHdr t.sq l t.wd) :: zRows t.jr l t.wd).length = l.length + 1 := by unfold zRows; simp
  have s1 := ZIv.two (zGood_mono W) (l := (t.jr, zHdr t.sq l t.wd) :: zRows t.jr l t.wd) (b := t.jr + l.length + 1) (x := zThree 2 t.sq 0) (Q1 := Q1) h.iv (fun b => Or.inl rfl) (fun e he => by
    rcases List.mem_cons.mp he with rfl | he
    · refine ⟨by show t.jr < 106; omega, fun V hV b => ?_⟩
      by_cases hb : b = t.jr
      · right; rw [hb]; show t.jr ≤ t.jr ∧ t.jr ≤ t.jr + l.length ∧ zu V t.jr (zHdr t.sq l t.wd) t.jr 0 ≠ 2
        rw [zu_self]; exact ⟨Nat.le_refl _, by omega, by show (1 : Int32) ≠ 2; decide⟩
      · show zu V t.jr _ b = _ ∨ _
        rw [zu_ne _ _ hb]; exact hV b
    · obtain ⟨i, hi, rfl⟩ := List.mem_map.mp he
      have hi := List.mem_range.mp hi
      refine ⟨by show t.jr + 1 + i < 106; omega, fun V hV b => ?_⟩
      by_cases hb : b = t.jr + 1 + i
      · right; rw [hb]; show _ ∧ _ ∧ zu V (t.jr + 1 + i) (zEsc (t.wd (l.getD i 0))) (t.jr + 1 + i) 0 ≠ 2
        rw [zu_self]; exact ⟨by omega, by omega, zEsc_0 _⟩
      · show zu V (t.jr + 1 + i) _ b = _ ∨ _
        rw [zu_ne _ _ hb]; exact hV b) hQ1 (by omega) (by rw [hrl]; omega) (by
    have e : zov t.tv.cur ((t.jr, zHdr t.sq l t.wd) :: zRows t.jr l t.wd) = C1 := hC1.symm
    rw [e, ← hC2]; exact hG2) (by rw [hrl]; exact hbnd)
  have e : zu (zov t.tv.cur ((t.jr, zHdr t.sq l t.wd) :: zRows t.jr l t.wd)) (t.jr + l.length + 1) (zThree 2 t.sq 0) = C2 := by
    rw [hC2, hC1]; rfl
  rw [e] at s1
  have key : ∀ u : ZVs, u.p.up = true → (ZIv (zGood W) (fun V => V = u.cur) u ∧ u.cur = C2 ∧ t.tv.p.na + 1 ≤ u.p.na) → ZTi W (ZTs.mk u (ZTs.wd t) (fun b => if t.ch b = true then t.wd b else t.kp b) (fun _ => false) (fun b => t.kt b || t.ch b) (t.sq + 1) (t.jr + (l.length + 2))) := by
    intro u hup q
    obtain ⟨q1, q2, q3⟩ := q
    have hkp : ∀ b, (t.kt b || t.ch b) = true → (if t.ch b = true then t.wd b else t.kp b) = t.wd b := by
      intro b hb
      split
      · rfl
      · rename_i hcb
        have hkb : t.kt b = true := by
          rcases Bool.or_eq_true _ _ ▸ hb with hb | hb
          · exact hb
          · exact absurd hb hcb
        have h29 := (ZTi.kb (W := W) hj hk hkb).1
        have hcf : t.ch b = false := by cases hh : t.ch b with | false => rfl | true => exact absurd hh hcb
        rw [h.wc b h29 hcf]
        unfold zTc; rw [if_pos hkb]
    have hcur29 : ∀ b, 29 ≤ b → C2 b = t.tv.cur b := by
      intro b hb
      rw [hC2, zu_ne _ _ (by omega), hC1, zRows_out (by omega), zu_ne _ _ (by omega)]
    have htu : ∀ b, 29 ≤ b → zTc (ZTs.mk u (ZTs.wd t) (fun b => if t.ch b = true then t.wd b else t.kp b) (fun _ => false) (fun b => t.kt b || t.ch b) (t.sq + 1) (t.jr + (l.length + 2))) b = t.wd b := by
      intro b hb
      show (if (t.kt b || t.ch b) = true then (if t.ch b = true then t.wd b else t.kp b) else u.cur b) = t.wd b
      split
      · rename_i hkc; exact hkp b hkc
      · rename_i hkc
        have hcf : t.ch b = false := by
          cases hh : t.ch b with
          | false => rfl
          | true => exact absurd (by rw [hh, Bool.or_true]) hkc
        have hkf : ¬ t.kt b = true := fun hh => hkc (by rw [hh, Bool.true_or])
        rw [h.wc b hb hcf]
        unfold zTc; rw [if_neg hkf, q2]; exact hcur29 b hb
    refine ⟨q1, ⟨s0, cs ++ [l], by show ZJn u.cur s0 (t.sq + 1) (t.jr + (l.length + 2)) (cs ++ [l]); rw [q2]; exact hj2, fun b => ?_, fun b hb => ?_⟩, ?_, h.ww, fun b hb _ => ?_, fun b hb => (by cases hb), ?_, ?_⟩
    · show (t.kt b || t.ch b) = true ↔ ∃ e ∈ zPr u.cur 1 (cs ++ [l]), e.1 = b
      rw [q2]; exact (hkeys b).symm
    · show (if t.ch b = true then t.wd b else t.kp b) = zov u.cur (zPr u.cur 1 (cs ++ [l])) b
      have hb : (t.kt b || t.ch b) = true := hb
      rw [q2, hkp b hb]
      have h29 : 29 ≤ b := by
        rcases Bool.or_eq_true _ _ ▸ hb with hb | hb
        · exact (ZTi.kb (W := W) hj hk hb).1
        · exact (h.cb b hb).1
      exact (htree b h29).symm
    · exact hW _ _ (fun b hb => (htu b hb).symm) h.ww
    · exact (htu b hb).symm
    · show (zCl (fun _ => false)).length ≤ 12
      have : zCl (fun _ => false) = [] := by
        rw [List.eq_nil_iff_forall_not_mem]; intro b hb; have := (mem_zCl.mp hb).2; cases this
      rw [this]; simp
    · show t.sq + 1 ≤ u.p.na + 1
      omega
  have fin : ∀ u : ZVs, ZOk (zGood W) (fun u => ZIv (zGood W) (fun V => V = u.cur) u ∧ u.cur = C2 ∧ t.tv.p.na + 1 ≤ u.p.na) u → ZTOk W (fun u => ZTi W u ∧ u.wd = t.wd ∧ (∀ b, u.ch b = false)) (ZTs.mk u (ZTs.wd t) (fun b => if t.ch b = true then t.wd b else t.kp b) (fun _ => false) (fun b => t.kt b || t.ch b) (t.sq + 1) (t.jr + (l.length + 2))) := by
    intro u hu
    rcases hu with ⟨hup, hu⟩ | hu
    · exact Or.inl ⟨hup, key u hup hu, rfl, fun _ => rfl⟩
    · exact Or.inr hu
  exact fin _ s1
end
/-! COMMIT AS A WHOLE; LOADING -/
theorem zfr_cmt (l : List Nat) (wd : ZSt) (sq jr : Nat) (v : ZVs) (hz : ZSz v.sets v.ways v.eps) : ZFr (7276 * (l.length + 1) + 8146) v (zCmt l wd sq jr v) :=
  zfr_cmtTail (l.length + 1) _ _ _ (by unfold zRows; simp) v hz
theorem ZTi.commit {W : ZSt → Prop} (hW : ∀ T T', (∀ b, 29 ≤ b → T b = T' b) → W T → W T') {t : ZTs} (h : ZTi W t) (hn : t.tv.p.na + 3000000 < 2147483648) (hn2 : t.home.tv.p.na + 1000000 < 2147483648) : ZTOk W (fun u => ZTi W u ∧ u.wd = t.wd ∧ (∀ b, u.ch b = false)) t.commit := by
  unfold ZTs.commit
  split
  · rename_i hc
    refine Or.inl ⟨h.iv.up, h, rfl, fun b => ?_⟩
    cases hb : t.ch b with
    | false => rfl
    | true =>
      exfalso
      have : b ∈ zCl t.ch := mem_zCl.mpr ⟨(h.cb b hb).2, hb⟩
      rw [hc] at this; cases this
  · rename_i hc
    have hl12 := h.cn
    by_cases hr : 29 - t.jr < (zCl t.ch).length + 2
    · rw [if_pos hr]
      have s1 := h.home hW (by omega)
      have key : ∀ u : ZTs, u.tv.p.na + 1000000 < 2147483648 → ZTOk W (fun u => ZTi W u ∧ u.wd = t.wd ∧ u.ch = t.ch ∧ u.sq = t.sq ∧ u.jr = 1 ∧ ∀ b, u.kt b = false) u → ZTOk W (fun u => ZTi W u ∧ u.wd = t.wd ∧ (∀ b, u.ch b = false)) (zCmt1 u (zCl t.ch)) := by
        intro u hu q
        rcases q with ⟨hup, q1, q2, q3, q4, q5, q6⟩ | q
        · have hc' : zCl u.ch ≠ [] := by rw [q3]; exact hc
          have := q1.cmt hW hc' (by rw [q3, q5]; omega) hu
          rw [q3, q2] at this
          exact this
        · exact Or.inr ((zfr_cmt _ _ _ _ u.tv q.sz).dnn q)
      exact key _ hn2 s1
    · rw [if_neg hr]
      exact h.cmt hW hc (by omega) (by omega)
/-- whether a commit lies there, as the loading sees it -/
def zIs (V : ZSt) (fr sq : Nat) : Prop := V fr 0 = 1 ∧ V fr 1 = iN sq ∧ 1 ≤ n32 (V fr 2) ∧ n32 (V fr 2) ≤ 12 ∧ fr + n32 (V fr 2) + 1 ≤ 28 ∧ V (fr + n32 (V fr 2) + 1) 0 = 2 ∧ V (fr + n32 (V fr 2) + 1) 1 = iN sq
def zPk (V : ZSt) (fr n : Nat) : List (Nat × ZBk) := (List.range n).map fun j => (n32 (V fr (3 + j)), zDec V fr j)
noncomputable def zRep (V : ZSt) : Nat → Nat → Nat → (Nat → Bool) → ZSt → Nat × (Nat → Bool) × ZSt
  | 0, _, sq, kt, kp => (sq, kt, kp)
  | c + 1, fr, sq, kt, kp => @ite _ (zIs V fr sq) (Classical.propDecidable _) (zRep V c (fr + (n32 (V fr 2) + 2)) (sq + 1) (fun b => kt b || (zPk V fr (n32 (V fr 2))).any (fun e => e.1 == b)) (zov kp (zPk V fr (n32 (V fr 2))))) (sq, kt, kp)
theorem zCm_is {V : ZSt} {fr sq : Nat} {l : List Nat} (h : zCm V fr sq l) : zIs V fr sq ∧ n32 (V fr 2) = l.length ∧ zPk V fr l.length = zPj V fr l := by
  obtain ⟨h1, h2, h3, h4, h5, h6, h7, h8, h9⟩ := h
  have hn : n32 (V fr 2) = l.length := by rw [h3]; exact n32_iN (by omega)
  refine ⟨⟨h1, h2, by omega, by omega, by omega, by rw [hn]; exact h7, by rw [hn]; exact h8⟩, hn, ?_⟩
  unfold zPk zPj
  apply List.map_congr_left
  intro j hj
  have hj := List.mem_range.mp hj
  have := h9 j hj
  rw [this.1, n32_iN (by omega)]
theorem zRep_eq {V : ZSt} : ∀ {cs : List (List Nat)} {fr sq c : Nat} {kt : Nat → Bool} {kp : ZSt}, zCh V fr sq cs → zNT V (sq + cs.length) → 1 ≤ fr → cs.length < c → sq + cs.length < 2147483648 → (zRep V c fr sq kt kp).1 = sq + cs.length ∧ (∀ b, (zRep V c fr sq kt kp).2.1 b = true ↔ kt b = true ∨ ∃ e ∈ zPr V fr cs, e.1 = b) ∧ (zRep V c fr sq kt kp).2.2 = zov kp (zPr V fr cs) := by
  intro cs
  induction cs with
  | nil =>
    intro fr sq c kt kp _ hnt hf hc hs
    obtain ⟨c, rfl⟩ : ∃ c', c = c' + 1 := ⟨c - 1, by have : 0 < c := hc; omega⟩
    have hni : ¬ zIs V fr sq := by
      rintro ⟨_, _, _, _, h5, h6, h7⟩
      have := hnt _ (by omega) h5 h6
      rw [h7, n32_iN (by have : sq + 0 < 2147483648 := hs; omega)] at this
      have : sq < sq + 0 := this
      omega
    unfold zRep
    rw [if_neg hni]
    refine ⟨rfl, fun b => ⟨fun h => Or.inl h, fun h => ?_⟩, rfl⟩
    rcases h with h | ⟨e, he, _⟩
    · exact h
    · cases he
  | cons l cs ih =>
    intro fr sq c kt kp h hnt hf hc hs
    obtain ⟨h1, h2⟩ := h
    rw [List.length_cons] at hc hs hnt
    obtain ⟨c, rfl⟩ : ∃ c', c = c' + 1 := ⟨c - 1, by omega⟩
    obtain ⟨i1, i2, i3⟩ := zCm_is h1
    unfold zRep
    rw [if_pos i1, i2, i3]
    obtain ⟨j1, j2, j3⟩ := ih (c := c) (kt := fun b => kt b || (zPj V fr l).any (fun e => e.1 == b)) (kp := zov kp (zPj V fr l)) h2 (by rw [show sq + 1 + cs.length = sq + (cs.length + 1) by omega]; exact hnt) (by omega) (by omega) (by omega)
    refine ⟨by rw [j1, List.length_cons]; omega, fun b => ?_, ?_⟩
    · rw [j2 b, Bool.or_eq_true, List.any_eq_true]
      constructor
      · rintro ((h | ⟨e, he, hx⟩) | ⟨e, he, hx⟩)
        · exact Or.inl h
        · exact Or.inr ⟨e, List.mem_append_left _ he, by simpa using hx⟩
        · exact Or.inr ⟨e, List.mem_append_right _ he, hx⟩
      · rintro (h | ⟨e, he, hx⟩)
        · exact Or.inl (Or.inl h)
        · rcases List.mem_append.mp he with he | he
          · exact Or.inl (Or.inr ⟨e, he, by simpa using hx⟩)
          · exact Or.inr ⟨e, he, hx⟩
    · rw [j3, ← zov_append]; rfl
theorem zLen_ge {V : ZSt} : ∀ {cs : List (List Nat)} {fr sq : Nat}, zCh V fr sq cs → 3 * cs.length ≤ zLen cs := by
  intro cs
  induction cs with
  | nil => intro fr sq _; exact Nat.le_refl _
  | cons l cs ih =>
    intro fr sq h
    have := ih h.2
    have h4 := h.1.2.2.2.1
    show 3 * (cs.length + 1) ≤ l.length + 2 + zLen cs
    omega
/-- the tree as the volume has it -/
noncomputable def zLoad (v : ZVs) : ZTs :=
  let r := zRep v.cur 28 1 (n32 (v.cur 0 0)) (fun _ => false) (fun _ _ => 0)
  (ZTs.mk v (fun b => if r.2.1 b = true then r.2.2 b else v.cur b) r.2.2 (fun _ => false) r.2.1 r.1 1)
theorem zload {W : ZSt → Prop} (hW : ∀ T T', (∀ b, 29 ≤ b → T b = T' b) → W T → W T') {v : ZVs} (h : ZIv (zGood W) (fun V => V = v.cur) v) (hn : v.p.na + 1000000 < 2147483648) : ZTOk W (fun u => ZTi W u ∧ ∀ b, u.ch b = false) (zLoad v).home := by
  obtain ⟨s0, cs, g1, g2, g3, g4, g5, g6⟩ := h.qp _ h.q
  have hl := zCh_len g4 (by omega)
  have hg := zLen_ge g4
  have hs0 : n32 (v.cur 0 0) = s0 := by rw [g1]; exact n32_iN (by omega)
  obtain ⟨r1, r2, r3⟩ := zRep_eq (c := 28) (kt := fun _ => false) (kp := fun _ _ => 0) g4 g5 (Nat.le_refl _) (by omega) (by omega)
  rw [← hs0] at r1 r2 r3
  have hkt : ∀ b, (zLoad v).kt b = true ↔ ∃ e ∈ zPr v.cur 1 cs, e.1 = b := by
    intro b
    show (zRep v.cur 28 1 (n32 (v.cur 0 0)) (fun _ => false) (fun _ _ => 0)).2.1 b = true ↔ _
    rw [r2 b]
    constructor
    · rintro (h | h)
      · cases h
      · exact h
    · exact fun h => Or.inr h
  have hkp : ∀ b, (zLoad v).kt b = true → (zLoad v).kp b = zov v.cur (zPr v.cur 1 cs) b := by
    intro b hb
    obtain ⟨e, he, hx⟩ := (hkt b).mp hb
    show (zRep v.cur 28 1 (n32 (v.cur 0 0)) (fun _ => false) (fun _ _ => 0)).2.2 b = _
    rw [r3]
    exact zov_agree (fun hn => absurd hx (hn e he))
  have hsq : (zLoad v).sq = s0 + cs.length := by
    show (zRep v.cur 28 1 (n32 (v.cur 0 0)) (fun _ => false) (fun _ _ => 0)).1 = _
    rw [r1, hs0]
  have hwd : (zLoad v).wd = zTc (zLoad v) := rfl
  have hch : ∀ b, (zLoad v).ch b = false := fun _ => rfl
  have htv : (zLoad v).tv = v := rfl
  have hjr : (zLoad v).jr = 1 := rfl
  have key : ∀ t : ZTs, t.tv = v → (∀ b, t.kt b = true ↔ ∃ e ∈ zPr v.cur 1 cs, e.1 = b) → (∀ b, t.kt b = true → t.kp b = zov v.cur (zPr v.cur 1 cs) b) → t.sq = s0 + cs.length → t.wd = zTc t → (∀ b, t.ch b = false) → t.jr = 1 → ZTOk W (fun u => ZTi W u ∧ ∀ b, u.ch b = false) t.home := by
    intro t e1 e2 e3 e4 e5 e6 e7
    subst e1
    -- the same with the journal's true end
    have hi : ZTi W (ZTs.s_jr t (1 + zLen cs)) := by
      have hj : ZJn t.tv.cur s0 t.sq (1 + zLen cs) cs := ⟨g1, g2, g4, e4, rfl, by rw [e4]; exact g5⟩
      have htc : zTc t = zov t.tv.cur (zPr t.tv.cur 1 cs) := by
        funext b
        unfold zTc
        split
        · rename_i h; exact e3 b h
        · rename_i h
          rw [zov_notin]
          intro e he hx
          exact h ((e2 b).mpr ⟨e, he, hx⟩)
      refine ⟨h, ⟨s0, cs, hj, e2, e3⟩, ?_, ?_, fun b _ _ => ?_, fun b hb => ?_, ?_, ?_⟩
      · show W (zTc t); rw [htc]; exact g6
      · show W t.wd; rw [e5, htc]; exact g6
      · show t.wd b = zTc t b; rw [e5]
      · have hb : t.ch b = true := hb
        rw [e6] at hb; cases hb
      · show (zCl t.ch).length ≤ 12
        have : zCl t.ch = [] := by
          rw [List.eq_nil_iff_forall_not_mem]; intro b hb
          have := (mem_zCl.mp hb).2
          rw [e6] at this; cases this
        rw [this]; simp
      · show t.sq ≤ t.tv.p.na + 1
        omega
    have heq : ((ZTs.s_jr t (1 + zLen cs)) : ZTs).home = t.home := by
      unfold ZTs.home
      by_cases hc : zCl t.kt = []
      · have hcs : cs = [] := by
          cases hcc : cs with
          | nil => rfl
          | cons l cs' =>
            exfalso
            rw [hcc] at g4 e2
            have hcm := g4.1
            have : (l.getD 0 0, zDec t.tv.cur 1 0) ∈ zPr t.tv.cur 1 (l :: cs') := List.mem_append_left _ (List.mem_map.mpr ⟨0, List.mem_range.mpr (by have := hcm.2.2.2.1; omega), rfl⟩)
            have hh := (e2 (l.getD 0 0)).mpr ⟨_, this, rfl⟩
            have h9 := hcm.2.2.2.2.2.2.2.2 0 (by have := hcm.2.2.2.1; omega)
            have : l.getD 0 0 ∈ zCl t.kt := mem_zCl.mpr ⟨h9.2.2, hh⟩
            rw [hc] at this; cases this
        rw [if_pos hc, if_pos (show zCl ((ZTs.s_jr t (1 + zLen cs)) : ZTs).kt = [] from hc), hcs]
        show ZTs.mk t.tv t.wd t.kp t.ch t.kt t.sq (1 + zLen []) = t
        have : 1 + zLen [] = t.jr := by rw [e7]; rfl
        rw [this]; rfl
      · rw [if_neg hc, if_neg (show ¬ zCl ((ZTs.s_jr t (1 + zLen cs)) : ZTs).kt = [] from hc)]
        rfl
    have := hi.home hW (by show t.tv.p.na + 1000000 < _; exact hn)
    rw [heq] at this
    rcases this with ⟨q1, q2, q3, q4, q5⟩ | q
    · exact Or.inl ⟨q1, q2, fun b => by rw [q4]; exact e6 b⟩
    · exact Or.inr q
  exact key _ htv hkt hkp hsq hwd hch hjr
/-! WHAT HOLDS BETWEEN THE WRITES of a commit, of a coming home -/
section
theorem ZIv.three {P : Nat → ZSt → Prop} (hP : ∀ m m' V, m ≤ m' → P m V → P m' V) {v : ZVs} {l : List (Nat × ZBk)} {b : Nat} {x : ZBk} {Q1 : ZSt → Prop} (h : ZIv P (fun V => V = v.cur) v) (hq0 : Q1 v.cur) (hq1 : ∀ e ∈ l, e.1 < 106 ∧ ∀ V, Q1 V → Q1 (zu V e.1 e.2)) (hg1 : ∀ V, Q1 V → P (v.p.na + 1) V) (hb : b < 106) (hl : 0 < l.length) (hg2 : P (v.p.na + 2) (zu (zov v.cur l) b x)) (hn : v.p.na + 7276 * l.length + 30000 < 2147483648) :
    (ZOk P (fun u => ZIv P Q1 u ∧ u.cur = zov v.cur l ∧ v.p.na + l.length ≤ u.p.na ∧ u.p.na ≤ v.p.na + 7276 * l.length) (ZVs.wrAll l v)) ∧ ZOk P (fun u => ZIv P (fun V => V = u.cur) u ∧ u.cur = zov v.cur l ∧ v.p.na + 1 ≤ u.p.na ∧ u.p.na ≤ v.p.na + 7276 * l.length + 435) ((ZVs.wrAll l v).flv) ∧ ZOk P (fun u => ZIv P (fun V => V = zov v.cur l ∨ V = zu (zov v.cur l) b x) u ∧ u.cur = zu (zov v.cur l) b x ∧ v.p.na + 1 ≤ u.p.na ∧ u.p.na ≤ v.p.na + 7276 * l.length + 8000) (((ZVs.wrAll l v).flv).wrv b x) := by
  have h1 : ZIv P Q1 v := h.re (fun V hV => by rw [hV]; exact hq0) hg1
  have s1 := ZIv.wrAll hP l v h1 hq1 (by omega)
  have s2 : ZOk P (fun u => ZIv P (fun V => V = u.cur) u ∧ u.cur = zov v.cur l ∧ v.p.na + 1 ≤ u.p.na ∧ u.p.na ≤ v.p.na + 7276 * l.length + 435) ((ZVs.wrAll l v).flv) := by
    refine s1.bindZ (f := fun u => u.flv) (fun u hu => zfr_flv u hu) (fun u _ q => ?_)
    obtain ⟨q1, q2, q3, q4⟩ := q
    have hz := zfr_flv u q1.sz
    have hz1 := hz.n1; have hz2 := hz.n2
    refine (q1.flv hP (by omega)).imp (fun _ r => ?_)
    refine ⟨?_, by rw [r.2, q2], by omega, by omega⟩
    have e := r.2
    refine r.1.re (fun V hV => by rw [hV, e]) (fun V hV => ?_)
    rw [hV, e]
    exact hP _ _ _ (by omega) (q1.qp _ q1.q)
  have s3 : ZOk P (fun u => ZIv P (fun V => V = zov v.cur l ∨ V = zu (zov v.cur l) b x) u ∧ u.cur = zu (zov v.cur l) b x ∧ v.p.na + 1 ≤ u.p.na ∧ u.p.na ≤ v.p.na + 7276 * l.length + 8000) (((ZVs.wrAll l v).flv).wrv b x) := by
    refine s2.bindZ (f := fun u => u.wrv b x) (fun u hu => zfr_wrv u b x hu) (fun u _ q => ?_)
    obtain ⟨q1, q2, q3, q4⟩ := q
    have hz := zfr_wrv u b x q1.sz
    have hz1 := hz.n1; have hz2 := hz.n2
    have h2 : ZIv P (fun V => V = zov v.cur l ∨ V = zu (zov v.cur l) b x) u := by
      refine q1.re (fun V hV => Or.inl (by rw [hV, q2])) (fun V hV => ?_)
      rcases hV with hV | hV
      · rw [hV, ← q2]; exact q1.qp _ rfl
      · rw [hV]; exact hP _ _ _ (by omega) hg2
    refine (h2.wrv hP hb (fun V hV => ?_) (by omega)).imp (fun _ r => ?_)
    · right
      rcases hV with hV | hV
      · rw [hV]
      · rw [hV, zu_zu]
    · exact ⟨r.1, by rw [r.2.1, q2], by omega, by omega⟩
  exact ⟨s1, s2, s3⟩
end
theorem ZTi.homeQ {W : ZSt → Prop} (hW : ∀ T T', (∀ b, 29 ≤ b → T b = T' b) → W T → W T') {t : ZTs} (h : ZTi W t) (hc : zCl t.kt ≠ []) : ∃ Q1 : ZSt → Prop, Q1 t.tv.cur ∧ (∀ e ∈ (zCl t.kt).map fun b => (b, t.kp b), e.1 < 106 ∧ ∀ V, Q1 V → Q1 (zu V e.1 e.2)) ∧ (∀ V, Q1 V → zGood W (t.tv.p.na + 1) V) ∧ zGood W (t.tv.p.na + 2) (zu (zov t.tv.cur ((zCl t.kt).map fun b => (b, t.kp b))) 0 (zThree t.sq 0 0)) := by
  obtain ⟨s0, cs, hj, hk, hp⟩ := h.jn
  have htc := ZTi.tc (W := W) hj hk hp
  have hns := h.ns
  have hlen : 0 < ((zCl t.kt).map fun b => (b, t.kp b)).length := by rw [List.length_map]; exact List.length_pos_iff.mpr hc
  have hlen2 : ((zCl t.kt).map fun b => (b, t.kp b)).length ≤ 106 := by
    rw [List.length_map]; unfold zCl; exact Nat.le_trans (List.length_filter_le _ _) (by simp)
  have hjl := zCh_len hj.ch (by omega)
  have hjr := hj.jr
  -- the volume with all at home
  have hov : ∀ b, 29 ≤ b → zov t.tv.cur ((zCl t.kt).map fun b => (b, t.kp b)) b = zTc t b := by
    intro b _
    unfold zTc
    split
    · rename_i hb; exact zov_map_mem (mem_zCl.mpr ⟨(ZTi.kb (W := W) hj hk hb).2, hb⟩)
    · rename_i hb; exact zov_map_out (fun hx => hb (mem_zCl.mp hx).2)
  have hlo : ∀ b, b < 29 → zov t.tv.cur ((zCl t.kt).map fun b => (b, t.kp b)) b = t.tv.cur b := by
    intro b hb
    refine zov_map_out (fun hx => ?_)
    have := ZTi.kb (W := W) hj hk (mem_zCl.mp hx).2
    omega
  let Q1 : ZSt → Prop := fun V => ∀ b, V b = t.tv.cur b ∨ (t.kt b = true ∧ V b = t.kp b)
  have hQ1 : ∀ V, Q1 V → zGood W (t.tv.p.na + 1) V := by
    intro V hV
    have hv : ∀ b, b < 29 → V b = t.tv.cur b := by
      intro b hb
      rcases hV b with q | q
      · exact q
      · have := ZTi.kb (W := W) hj hk q.1; omega
    refine hj.same hW hns (by rw [← htc]; exact h.wt) (hv 0 (by omega)) (fun b _ hb => hv b (by omega)) (fun b hb => ?_) (fun k _ hk2 => Or.inl (hv k (by omega)))
    rcases hV b with q | q
    · exact Or.inl q
    · exact Or.inr ((hk b).mp q.1)
  have hG2 : zGood W (t.tv.p.na + 2) (zu (zov t.tv.cur ((zCl t.kt).map fun b => (b, t.kp b))) 0 (zThree t.sq 0 0)) := by
    refine ⟨t.sq, [], by rw [zu_self]; rfl, by have := hj.s1; have := hj.sq; omega, by show t.sq + 0 ≤ _; omega, trivial, ?_, ?_⟩
    · intro k k1 k2 hx
      rw [zu_ne _ _ (by omega), hlo k (by omega)] at hx ⊢
      exact hj.nt k k1 k2 hx
    · refine hW _ _ (fun b hb => ?_) h.wt
      show zTc t b = zu _ 0 _ b
      rw [zu_ne _ _ (by omega), hov b hb]
  exact ⟨Q1, fun b => Or.inl rfl, fun e he => by
    obtain ⟨c, hc, rfl⟩ := List.mem_map.mp he
    have hc := mem_zCl.mp hc
    refine ⟨hc.1, fun V hV b => ?_⟩
    by_cases hb : b = c
    · right; rw [hb, zu_self]; exact ⟨hc.2, rfl⟩
    · rw [zu_ne _ _ hb]; exact hV b, hQ1, hG2⟩
theorem ZTi.cmtQ {W : ZSt → Prop} (hW : ∀ T T', (∀ b, 29 ≤ b → T b = T' b) → W T → W T') {t : ZTs} (h : ZTi W t) (hc : zCl t.ch ≠ []) (hroom : t.jr + (zCl t.ch).length + 1 ≤ 28) (hn : t.tv.p.na + 1000000 < 2147483648) : ∃ Q1 : ZSt → Prop, Q1 t.tv.cur ∧ (∀ e ∈ (t.jr, zHdr t.sq (zCl t.ch) t.wd) :: zRows t.jr (zCl t.ch) t.wd, e.1 < 106 ∧ ∀ V, Q1 V → Q1 (zu V e.1 e.2)) ∧ (∀ V, Q1 V → zGood W (t.tv.p.na + 1) V) ∧ zGood W (t.tv.p.na + 2) (zu (zov t.tv.cur ((t.jr, zHdr t.sq (zCl t.ch) t.wd) :: zRows t.jr (zCl t.ch) t.wd)) (t.jr + (zCl t.ch).length + 1) (zThree 2 t.sq 0)) := by
  obtain ⟨s0, cs, hj, hk, hp⟩ := h.jn
  have htc := ZTi.tc (W := W) hj hk hp
  have hns := h.ns
  have hlm : ∀ b, b ∈ zCl t.ch ↔ t.ch b = true := fun b => ⟨fun hx => (mem_zCl.mp hx).2, fun hx => mem_zCl.mpr ⟨(h.cb b hx).2, hx⟩⟩
  have hl12 := h.cn
  have hl1 : 1 ≤ (zCl t.ch).length := List.length_pos_iff.mpr hc
  generalize hl : zCl t.ch = l at *
  have hget : ∀ j, j < l.length → t.ch (l.getD j 0) = true := by
    intro j hj
    have : l.getD j 0 = l[j] := by rw [List.getD_eq_getElem?_getD, List.getElem?_eq_getElem hj]; rfl
    rw [this]; exact (hlm _).mp (List.getElem_mem hj)
  have hjr := hj.jr
  have hjl := zCh_len hj.ch (by omega)
  have hsq32 : t.sq < 2147483648 := by omega
  obtain ⟨C1, hC1⟩ : ∃ C1, C1 = zov (zu t.tv.cur t.jr (zHdr t.sq l t.wd)) (zRows t.jr l t.wd) := ⟨_, rfl⟩
  obtain ⟨C2, hC2⟩ : ∃ C2, C2 = zu C1 (t.jr + l.length + 1) (zThree 2 t.sq 0) := ⟨_, rfl⟩
  obtain ⟨hj2, ht2⟩ := hj.commit (l := l) (wd := t.wd) hsq32 hl1 hl12 hroom (fun j hj => h.cb _ (hget j hj)) hC1 hC2
  have ej : C2 t.jr = zHdr t.sq l t.wd := by rw [hC2, zu_ne _ _ (by omega), hC1, zRows_out (by omega), zu_self]
  have er : ∀ j, j < l.length → C2 (t.jr + 1 + j) = zEsc (t.wd (l.getD j 0)) := by
    intro j hj; rw [hC2, zu_ne _ _ (by omega), hC1]; exact zRows_at hj
  have hpj := zPj_eq hl12 ej er
  -- the tree that the commit makes
  have htree : ∀ b, 29 ≤ b → zov C2 (zPr C2 1 (cs ++ [l])) b = t.wd b := by
    intro b hb
    rw [ht2 b hb, ← htc, hpj]
    by_cases hcb : t.ch b = true
    · have hbl := (hlm b).mpr hcb
      obtain ⟨j, hj1, hj2⟩ := List.getElem_of_mem hbl
      refine zov_all (fun e he hx => ?_) (Or.inr ⟨(l.getD j 0, t.wd (l.getD j 0)), List.mem_map.mpr ⟨j, List.mem_range.mpr hj1, rfl⟩, ?_⟩)
      · obtain ⟨i, _, rfl⟩ := List.mem_map.mp he
        dsimp only at hx ⊢; rw [hx]
      · dsimp only
        rw [List.getD_eq_getElem?_getD, List.getElem?_eq_getElem hj1]; exact hj2
    · rw [zov_notin]
      · exact (h.wc b hb (by cases hh : t.ch b with | false => rfl | true => exact absurd hh hcb)).symm
      · intro e he hx
        obtain ⟨i, hi, rfl⟩ := List.mem_map.mp he
        dsimp only at hx
        apply hcb; rw [← hx]; exact hget i (List.mem_range.mp hi)
  have hkeys : ∀ b, (∃ e ∈ zPr C2 1 (cs ++ [l]), e.1 = b) ↔ (t.kt b || t.ch b) = true := by
    intro b
    have e0 : ∀ k, 1 ≤ k → k < 1 + zLen cs → C2 k = t.tv.cur k := by
      intro k k1 k2
      rw [hC2, zu_ne _ _ (by omega), hC1, zRows_out (by omega), zu_ne _ _ (by omega)]
    obtain ⟨i1, i2⟩ := zCh_congr (V' := C2) hj.ch e0
    have hcm : zCm C2 (1 + zLen cs) (s0 + cs.length) l := by
      have := hj2.ch
      rw [← hjr, ← hj.sq]
      exact ⟨by rw [ej]; rfl, by rw [ej]; rfl, by rw [ej]; rfl, hl1, hl12, hroom, by rw [hC2, zu_self]; rfl, by rw [hC2, zu_self]; rfl, fun j hj => ⟨by rw [ej]; exact zHdr_list hj hl12, h.cb _ (hget j hj)⟩⟩
    rw [(zCh_snoc i1 hcm).2, i2, ← hjr, hpj]
    rw [Bool.or_eq_true, hk b]
    constructor
    · rintro ⟨e, he, hx⟩
      rcases List.mem_append.mp he with he | he
      · exact Or.inl ⟨e, he, hx⟩
      · obtain ⟨i, hi, rfl⟩ := List.mem_map.mp he
        right; rw [← hx]; exact hget i (List.mem_range.mp hi)
    · rintro (⟨e, he, hx⟩ | hx)
      · exact ⟨e, List.mem_append_left _ he, hx⟩
      · obtain ⟨j, hj1, hj2⟩ := List.getElem_of_mem ((hlm b).mpr hx)
        refine ⟨(l.getD j 0, t.wd (l.getD j 0)), List.mem_append_right _ (List.mem_map.mpr ⟨j, List.mem_range.mpr hj1, rfl⟩), ?_⟩
        dsimp only
        rw [List.getD_eq_getElem?_getD, List.getElem?_eq_getElem hj1]; exact hj2
  let Q1 : ZSt → Prop := fun V => ∀ b, V b = t.tv.cur b ∨ (t.jr ≤ b ∧ b ≤ t.jr + l.length ∧ V b 0 ≠ 2)
  have hQ1 : ∀ V, Q1 V → zGood W (t.tv.p.na + 1) V := by
    intro V hV
    have hv : ∀ b, b < t.jr ∨ 29 ≤ b → V b = t.tv.cur b := by
      intro b hb
      rcases hV b with q | q
      · exact q
      · omega
    refine hj.same hW hns (by rw [← htc]; exact h.wt) (hv 0 (by omega)) (fun b _ hb => hv b (by omega)) (fun b hb => Or.inl (hv b (Or.inr hb))) (fun k k1 k2 => ?_)
    rcases hV k with q | q
    · exact Or.inl q
    · exact Or.inr q.2.2
  have hG2 : zGood W (t.tv.p.na + 2) C2 := ⟨s0, cs ++ [l], hj2.c0, hj2.s1, by have := hj2.sq; omega, hj2.ch, by rw [← hj2.sq]; exact hj2.nt, hW _ _ (fun b hb => (htree b hb).symm) h.ww⟩
  have hrl : ((t.jr, zHdr t.sq l t.wd) :: zRows t.jr l t.wd).length = l.length + 1 := by unfold zRows; simp
  refine ⟨Q1, fun b => Or.inl rfl, fun e he => by
    rcases List.mem_cons.mp he with rfl | he
    · refine ⟨by show t.jr < 106; omega, fun V hV b => ?_⟩
      by_cases hb : b = t.jr
      · right; rw [hb]; show t.jr ≤ t.jr ∧ t.jr ≤ t.jr + l.length ∧ zu V t.jr (zHdr t.sq l t.wd) t.jr 0 ≠ 2
        rw [zu_self]; exact ⟨Nat.le_refl _, by omega, by show (1 : Int32) ≠ 2; decide⟩
      · show zu V t.jr _ b = _ ∨ _
        rw [zu_ne _ _ hb]; exact hV b
    · obtain ⟨i, hi, rfl⟩ := List.mem_map.mp he
      have hi := List.mem_range.mp hi
      refine ⟨by show t.jr + 1 + i < 106; omega, fun V hV b => ?_⟩
      by_cases hb : b = t.jr + 1 + i
      · right; rw [hb]; show _ ∧ _ ∧ zu V (t.jr + 1 + i) (zEsc (t.wd (l.getD i 0))) (t.jr + 1 + i) 0 ≠ 2
        rw [zu_self]; exact ⟨by omega, by omega, zEsc_0 _⟩
      · show zu V (t.jr + 1 + i) _ b = _ ∨ _
        rw [zu_ne _ _ hb]; exact hV b, hQ1, ?_⟩
  rw [hC2, hC1] at hG2
  exact hG2
