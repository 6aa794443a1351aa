/-! NUMBERS OF THE MACHINE AND OF THE SPECIFICATION -/
theorem iN_add (a b : Nat) : iN a + iN b = iN (a + b) := by
  unfold iN; exact (Int32.ofNat_add a b).symm
theorem iN_mul (a b : Nat) : iN a * iN b = iN (a * b) := by
  unfold iN; exact (Int32.ofNat_mul a b).symm
theorem iN_sub {a b : Nat} (h : b ≤ a) : iN a - iN b = iN (a - b) := by
  have h1 : iN a = iN (a - b) + iN b := by rw [iN_add, Nat.sub_add_cancel h]
  rw [h1, Int32.add_sub_cancel]
theorem iN_toInt {a : Nat} (h : a < 2147483648) : (iN a).toInt = a := Int32.toInt_ofNat_of_lt (by simpa using h)
theorem iN_lt {a b : Nat} (ha : a < 2147483648) (hb : b < 2147483648) : iN a < iN b ↔ a < b := by
  rw [Int32.lt_iff_toInt_lt, iN_toInt ha, iN_toInt hb]; omega
theorem iN_le {a b : Nat} (ha : a < 2147483648) (hb : b < 2147483648) : iN a ≤ iN b ↔ a ≤ b := by
  rw [Int32.le_iff_toInt_le, iN_toInt ha, iN_toInt hb]; omega
theorem iN_eq {a b : Nat} (ha : a < 2147483648) (hb : b < 2147483648) : iN a = iN b ↔ a = b := ⟨iN_inj ha hb, fun h => by rw [h]⟩
theorem iN_nat {a : Nat} (h : a < 2147483648) : (iN a).toNatClampNeg = a := n32_iN h
theorem iN_neg {a : Nat} (h : a < 2147483648) : ¬ iN a < 0 := by
  have : (0 : Int32) = iN 0 := rfl
  rw [this, iN_lt h (by omega)]; omega
theorem iN_in {a n : Nat} (h : a < 2147483648) (hn : a < n) : vp_in (iN a) n := by
  unfold vp_in
  rintro (h1 | h1)
  · exact iN_neg h h1
  · rw [iN_nat h] at h1; omega
theorem iN_div {a b : Nat} (ha : a < 2147483648) (hb : b < 2147483648) (h0 : 0 < b) : iN a / iN b = iN (a / b) := by
  apply Int32.toInt.inj
  have h1 : a / b < 2147483648 := Nat.lt_of_le_of_lt (Nat.div_le_self a b) ha
  rw [Int32.toInt_div_of_ne_left, iN_toInt ha, iN_toInt hb, iN_toInt h1]
  · exact Int.tdiv_eq_ediv_of_nonneg (by omega)
  · intro hx
    have := congrArg Int32.toInt hx
    rw [iN_toInt ha] at this
    have h2 : Int32.minValue.toInt = -2147483648 := by decide
    omega
theorem iN_rem {a b : Nat} (ha : a < 2147483648) (hb : b < 2147483648) (h0 : 0 < b) : iN a - iN a / iN b * iN b = iN (a % b) := by
  rw [iN_div ha hb h0, iN_mul]
  have h1 : a / b * b ≤ a := Nat.div_mul_le_self a b
  rw [iN_sub h1]
  congr 1
  have := Nat.div_add_mod a b
  rw [Nat.mul_comm] at this
  omega
/-! STATES -/
theorem gA_self (f : Nat → Nat → Int32) (c : Nat) (h : Nat → Int32) : gA f c h c = h := if_pos rfl
theorem gA_ne {f : Nat → Nat → Int32} {c d : Nat} {h : Nat → Int32} (hd : d ≠ c) : gA f c h d = f d := if_neg hd
theorem gA_gA (f : Nat → Nat → Int32) (c : Nat) (h g : Nat → Int32) : gA (gA f c h) c g = gA f c g := by
  funext d; unfold gA; split <;> rfl
theorem gA_triv (f : Nat → Nat → Int32) (c : Nat) : gA f c (f c) = f := by
  funext d; unfold gA; split
  · rename_i h; rw [h]
  · rfl
theorem sA_sF (s : px_S) (c j : Nat) (f : Nat → Int32) (v : Int32) : sA (sF s c f) c j v = sF s c (upd f j v) := by
  unfold sA sF
  dsimp only
  rw [gA_self, gA_gA]
theorem sF_triv (s : px_S) (c : Nat) : sF s c (s.2.2.1 c) = s := by
  unfold sF; rw [gA_triv]
theorem sF_sF (s : px_S) (c : Nat) (f g : Nat → Int32) : sF (sF s c f) c g = sF s c g := by
  unfold sF; dsimp only; rw [gA_gA]
theorem sF_arr (s : px_S) (c : Nat) (f : Nat → Int32) : (sF s c f).2.2.1 c = f := gA_self _ _ _
theorem sF_arr_ne {s : px_S} {c d : Nat} {f : Nat → Int32} (h : d ≠ c) : (sF s c f).2.2.1 d = s.2.2.1 d := gA_ne h
theorem sA_eq (s : px_S) (c j : Nat) (v : Int32) : sA s c j v = sF s c (upd (s.2.2.1 c) j v) := rfl
theorem va_cpy_0 {α : Type} (f g : Nat → α) (sp dp : Nat) : va_cpy f g sp dp 0 = g := by
  funext k; unfold va_cpy; rw [if_neg (by omega)]
theorem va_cpy_step (f g : Nat → Int32) (sp dp m : Nat) : upd (va_cpy f g sp dp m) (dp + m) (f (sp + m)) = va_cpy f g sp dp (m + 1) := by
  funext k
  unfold upd va_cpy
  by_cases h1 : k = dp + m
  · have h2 : k - dp = m := by omega
    rw [if_pos h1, if_pos (by omega), h2]
  · rw [if_neg h1]
    by_cases h2 : dp ≤ k ∧ k < dp + m
    · rw [if_pos h2, if_pos (by omega)]
    · rw [if_neg h2, if_neg (by omega)]
theorem iL0 : (0 : Int32) = iN 0 := rfl
theorem iL1 : (1 : Int32) = iN 1 := rfl
theorem iL2 : (2 : Int32) = iN 2 := rfl
theorem iL16 : (16 : Int32) = iN 16 := rfl
theorem iL64 : (64 : Int32) = iN 64 := rfl
theorem iL125 : (125 : Int32) = iN 125 := rfl
/-- the lengths of the reference's rows -/
def zKm (K : px_K) : Prop := K.2.2 29 = 3824 ∧ K.2.2 30 = 2 ∧ K.2.2 31 = 128 ∧ K.2.2 32 = 2048 ∧ K.2.2 33 = 2 ∧ K.2.2 34 = 2 ∧ K.2.2 35 = 64 ∧ K.2.2 36 = 64 ∧ K.2.2 37 = 64 ∧ K.2.2 38 = 8 ∧ K.2.2 39 = 1696 ∧ K.2.2 40 = 1696 ∧ K.2.2 41 = 106 ∧ K.2.2 42 = 106 ∧ K.2.2 43 = 16 ∧ K.2.2 44 = 16 ∧ K.2.2 45 = 16
/-! A PENDING WRITE BECOMES STABLE (the reference) -/
theorem m_bs_loop (K : px_K) (N : Nat) (hK : zKm K) (p to : Nat) (hp : p < 128) (hto : to + 16 ≤ 3824) (s : px_S) (t : px_W) : ∀ (d m n : Nat), m + d = 16 → d < n → l_M_becomesStable_28_15 K N n (iN p) (iN to) (iN m) (sF s 29 (va_cpy (s.2.2.1 32) (s.2.2.1 29) (16 * p) to m)) t = some (.inl (34, [], sF s 29 (va_cpy (s.2.2.1 32) (s.2.2.1 29) (16 * p) to 16), t)) := by
  intro d
  induction d with
  | zero =>
    intro m n hm hn
    obtain ⟨n, rfl⟩ : ∃ n', n = n' + 1 := ⟨n - 1, by omega⟩
    have hm : m = 16 := by omega
    subst hm
    unfold l_M_becomesStable_28_15
    rw [if_pos (by rw [iL16]; exact (iN_le (by omega) (by omega)).mpr (by omega))]
  | succ d ih =>
    intro m n hm hn
    obtain ⟨n, rfl⟩ : ∃ n', n = n' + 1 := ⟨n - 1, by omega⟩
    unfold l_M_becomesStable_28_15
    rw [if_neg (by rw [iL16, iN_le (by omega) (by omega)]; omega)]
    have e1 : (16 : Int32) * iN p + iN m = iN (16 * p + m) := by rw [iL16, iN_mul, iN_add]
    have e2 : iN to + iN m = iN (to + m) := iN_add _ _
    have e3 : iN m + (1 : Int32) = iN (m + 1) := by rw [iL1, iN_add]
    rw [px_gd_of ⟨by rw [e1, hK.2.2.2.1]; exact iN_in (by omega) (by omega), by rw [e2, hK.1]; exact iN_in (by omega) (by omega)⟩]
    unfold px_let
    rw [e1, e2, e3, iN_nat (by omega), iN_nat (by omega), sF_arr_ne (by omega), sA_sF, va_cpy_step]
    exact ih (m + 1) n (by omega) (by omega)
theorem m_at (K : px_K) (N k b : Nat) (hk : k < 2) (s : px_S) (t : px_W) : f_M_at K N (iN k) (iN b) s t = some (.inl (some (.int (iN (16 * (125 * k + b))))), s, t) := by
  unfold f_M_at
  by_cases h0 : k = 0
  · subst h0
    rw [if_neg (by intro hx; exact hx rfl), iL16, iN_mul]
    congr 6; omega
  · have h1 : k = 1 := by omega
    subst h1
    rw [if_pos (by decide), iL16, iL125, iN_add, iN_mul]
theorem m_bs (K : px_K) (N : Nat) (hN : 20 ≤ N) (hK : zKm K) (k j b : Nat) (hk : k < 2) (hj : j < 64) (hb : 125 * k + b < 239) (s : px_S) (t : px_W) (hpb : s.2.2.1 31 (64 * k + j) = iN b) : f_M_becomesStable_28 K N (iN k) (iN j) s t = some (.inl none, sF s 29 (va_cpy (s.2.2.1 32) (s.2.2.1 29) (16 * (64 * k + j)) (16 * (125 * k + b)) 16), t) := by
  unfold f_M_becomesStable_28 px_let
  have e1 : (64 : Int32) * iN k + iN j = iN (64 * k + j) := by rw [iL64, iN_mul, iN_add]
  rw [e1]
  dsimp only
  rw [px_gd_of (by rw [hK.2.2.1]; exact iN_in (by omega) (by omega)), iN_nat (by omega), hpb, m_at K N k b hk]
  unfold px_bi
  dsimp only
  have h := m_bs_loop K N hK (64 * k + j) (16 * (125 * k + b)) (by omega) (by omega) s t 16 0 N (by omega) (by omega)
  rw [va_cpy_0, sF_triv] at h
  rw [iL0, h]
  rfl
/-! THE REFERENCE'S DEVICES -/
def zNb (k : Nat) : Nat := if k = 0 then 125 else 114
def zPd (d : ZDv) (j : Nat) : Nat × ZBk := d.pd.getD j (0, fun _ => 0)
/-- a device of the reference -/
def zRd (s : px_S) (k : Nat) (d : ZDv) : Prop := d.pd.length ≤ 64 ∧ s.2.2.1 30 k = iN d.pd.length ∧ (∀ j, j < d.pd.length → s.2.2.1 31 (64 * k + j) = iN (zPd d j).1 ∧ (zPd d j).1 < zNb k ∧ ∀ w, w < 16 → s.2.2.1 32 (16 * (64 * k + j) + w) = (zPd d j).2 w) ∧ (∀ b w, b < zNb k → w < 16 → s.2.2.1 29 (16 * (125 * k + b) + w) = d.st b w) ∧ s.2.2.1 33 k = iN d.wr ∧ s.2.2.1 34 k = iN d.fl
def zRp (s : px_S) (dv : Nat → ZDv) : Prop := ∀ k, k < 2 → zRd s k (dv k)
theorem zRd_st {s : px_S} {k : Nat} {d : ZDv} (h : zRd s k d) {g : Nat → Int32} {st : ZSt} (hg : ∀ b w, b < zNb k → w < 16 → g (16 * (125 * k + b) + w) = st b w) : zRd (sF s 29 g) k (d.s_st st) := by
  obtain ⟨h1, h2, h3, h4, h5, h6⟩ := h
  refine ⟨h1, ?_, fun j hj => ?_, fun b w hb hw => ?_, ?_, ?_⟩
  · rw [sF_arr_ne (by omega)]; exact h2
  · rw [sF_arr_ne (by omega), sF_arr_ne (by omega)]; exact h3 j hj
  · rw [sF_arr]; exact hg b w hb hw
  · rw [sF_arr_ne (by omega)]; exact h5
  · rw [sF_arr_ne (by omega)]; exact h6
theorem zNb_le (k : Nat) (hk : k < 2) : 125 * k + zNb k ≤ 239 ∧ (k = 0 → zNb k = 125) := by
  unfold zNb
  by_cases h : k = 0
  · rw [if_pos h]; omega
  · rw [if_neg h]; omega
/-- a pending write becomes stable -/
theorem m_bs_R (K : px_K) (N : Nat) (hN : 20 ≤ N) (hK : zKm K) (k j : Nat) (hk : k < 2) (s : px_S) (t : px_W) (dv : Nat → ZDv) (h : zRp s dv) (hj : j < (dv k).pd.length) : ∃ g, f_M_becomesStable_28 K N (iN k) (iN j) s t = some (.inl none, sF s 29 g, t) ∧ zRp (sF s 29 g) (zu dv k ((dv k).s_st (zu (dv k).st (zPd (dv k) j).1 (zPd (dv k) j).2))) := by
  have hd := h k hk
  have hnb := zNb_le k hk
  obtain ⟨h1, h2, h3, h4, h5, h6⟩ := hd
  obtain ⟨p1, p2, p3⟩ := h3 j hj
  have hbound : 125 * k + (zPd (dv k) j).1 < 239 := by omega
  refine ⟨_, m_bs K N hN hK k j _ hk (by omega) hbound s t p1, fun k' hk' => ?_⟩
  by_cases hkk : k' = k
  · subst hkk
    rw [zu_self]
    refine zRd_st (h k' hk') (fun b w hb hw => ?_)
    unfold va_cpy
    by_cases hbb : b = (zPd (dv k') j).1
    · rw [if_pos (by omega), hbb, zu_self]
      have e : 16 * (125 * k' + (zPd (dv k') j).1) + w - 16 * (125 * k' + (zPd (dv k') j).1) = w := by omega
      rw [e]; exact p3 w hw
    · rw [if_neg (by omega), zu_ne _ _ hbb]; exact h4 b w hb hw
  · rw [zu_ne _ _ hkk]
    have hr := zRd_st (h k' hk') (g := va_cpy (s.2.2.1 32) (s.2.2.1 29) (16 * (64 * k + j)) (16 * (125 * k + (zPd (dv k) j).1)) 16) (st := (dv k').st) (fun b w hb hw => ?_)
    · exact hr
    · have hnb' := zNb_le k' hk'
      unfold va_cpy
      rw [if_neg]
      · exact (h k' hk').2.2.2.1 b w hb hw
      · by_cases h0 : k = 0
        · have := hnb.2 h0; omega
        · have h0' : k' = 0 := by omega
          have := hnb'.2 h0'; omega
/-- all pending writes become stable -/
theorem m_flush_loop (K : px_K) (N : Nat) (hN : 20 ≤ N) (hK : zKm K) (k : Nat) (hk : k < 2) (t : px_W) : ∀ (d m n : Nat) (s : px_S) (dv : Nat → ZDv), zRp s dv → m + d = (dv k).pd.length → d < n → ∃ g, l_M_flush_28_14 K N n (iN k) (iN m) s t = some (.inl (26, [], sF s 29 g, t)) ∧ zRp (sF s 29 g) (zu dv k ((dv k).s_st (zov (dv k).st ((dv k).pd.drop m)))) := by
  intro d
  induction d with
  | zero =>
    intro m n s dv h hm hn
    obtain ⟨n, rfl⟩ : ∃ n', n = n' + 1 := ⟨n - 1, by omega⟩
    obtain ⟨h1, h2, h3, h4, h5, h6⟩ := h k hk
    unfold l_M_flush_28_14
    rw [px_gd_of (by rw [hK.2.1]; exact iN_in (by omega) hk), iN_nat (by omega), h2, if_pos (by rw [iN_le (by omega) (by omega)]; omega)]
    refine ⟨s.2.2.1 29, by rw [sF_triv], ?_⟩
    rw [sF_triv, List.drop_eq_nil_of_le (by omega)]
    have e : (dv k).s_st (zov (dv k).st []) = dv k := rfl
    rw [e, zu_triv]; exact h
  | succ d ih =>
    intro m n s dv h hm hn
    obtain ⟨n, rfl⟩ : ∃ n', n = n' + 1 := ⟨n - 1, by omega⟩
    have hd := h k hk
    obtain ⟨h1, h2, h3, h4, h5, h6⟩ := hd
    unfold l_M_flush_28_14
    rw [px_gd_of (by rw [hK.2.1]; exact iN_in (by omega) hk), iN_nat (by omega), h2, if_neg (by rw [iN_le (by omega) (by omega)]; omega)]
    obtain ⟨g, e1, e2⟩ := m_bs_R K N hN hK k m hk s t dv h (by omega)
    rw [e1]
    unfold px_bv
    dsimp only
    have e3 : iN m + (1 : Int32) = iN (m + 1) := by rw [iL1, iN_add]
    rw [e3]
    have hz : zu dv k ((dv k).s_st (zu (dv k).st (zPd (dv k) m).1 (zPd (dv k) m).2)) k = (dv k).s_st (zu (dv k).st (zPd (dv k) m).1 (zPd (dv k) m).2) := zu_self _ _ _
    obtain ⟨g', i1, i2⟩ := ih (m + 1) n (sF s 29 g) _ e2 (by rw [hz]; show m + 1 + d = (dv k).pd.length; omega) (by omega)
    rw [hz, zu_zu] at i2
    refine ⟨g', by rw [i1, sF_sF], ?_⟩
    rw [sF_sF] at i2
    have hdr : (dv k).pd.drop m = zPd (dv k) m :: (dv k).pd.drop (m + 1) := by
      rw [List.drop_eq_getElem_cons (by omega)]
      congr 1
      unfold zPd
      rw [List.getD_eq_getElem?_getD, List.getElem?_eq_getElem (by omega)]; rfl
    rw [hdr]
    exact i2
/-! A BIT OF A MASK -/
theorem one_bit (x : BitVec 64) : x &&& 1#64 = if x.getLsbD 0 = true then 1#64 else 0#64 := by
  apply BitVec.eq_of_getLsbD_eq
  intro i hi
  rw [BitVec.getLsbD_and, BitVec.getLsbD_one]
  by_cases h0 : i = 0
  · subst h0
    cases h : x.getLsbD 0
    · simp
    · simp
  · have h1 : decide (i = 0) = false := by simp [h0]
    cases h : x.getLsbD 0
    · simp [h1]
    · simp [BitVec.getLsbD_one, h1, h0]
theorem sh63 : ∀ j, j < 64 → ((iN j).toInt64 &&& 63).toBitVec.smod 64#64 = BitVec.ofNat 64 j := by decide
theorem m_bit (u : Int64) (j : Nat) (hj : j < 64) : lg_cmp ((u >>> ((iN j).toInt64 &&& 63)) &&& (1 : Int64)) (1 : Int64) = 0 ↔ u.toBitVec.getLsbD j = true := by
  have e : ((u >>> ((iN j).toInt64 &&& 63)) &&& (1 : Int64)) = Int64.ofBitVec ((u.toBitVec.sshiftRight j) &&& 1#64) := by
    apply Int64.toBitVec.inj
    show (u.toBitVec.sshiftRight' (((iN j).toInt64 &&& 63).toBitVec.smod 64#64)) &&& 1#64 = _
    rw [sh63 j hj]
    show (u.toBitVec.sshiftRight (BitVec.ofNat 64 j).toNat) &&& 1#64 = _
    have : (BitVec.ofNat 64 j).toNat = j := by simp; omega
    rw [this]; rfl
  rw [e, one_bit]
  have hb : (u.toBitVec.sshiftRight j).getLsbD 0 = u.toBitVec.getLsbD j := by
    rw [BitVec.getLsbD_sshiftRight]
    simp [hj]
  rw [hb]
  cases u.toBitVec.getLsbD j
  · simp only [Bool.false_eq_true, if_false, iff_false]; decide
  · simp only [if_true, iff_true]; decide

/-- what the reference does when the power goes: one device -/
theorem m_goes_loop (K : px_K) (N : Nat) (hN : 20 ≤ N) (hK : zKm K) (u : Int64) (k : Nat) (hk : k < 2) (t : px_W) : ∀ (d m n : Nat) (s : px_S) (dv : Nat → ZDv), zRp s dv → m + d = (dv k).pd.length → d < n → ∃ g, l_M_goes_28_7 K N n u (iN k) (iN m) s t = some (.inl (27, [], sF s 29 g, t)) ∧ zRp (sF s 29 g) (zu dv k ((dv k).s_st (zlost u m (dv k).st ((dv k).pd.drop m)))) := by
  intro d
  induction d with
  | zero =>
    intro m n s dv h hm hn
    obtain ⟨n, rfl⟩ : ∃ n', n = n' + 1 := ⟨n - 1, by omega⟩
    obtain ⟨h1, h2, h3, h4, h5, h6⟩ := h k hk
    unfold l_M_goes_28_7
    rw [px_gd_of (by rw [hK.2.1]; exact iN_in (by omega) hk), iN_nat (by omega), h2, if_pos (by rw [iN_le (by omega) (by omega)]; omega)]
    refine ⟨s.2.2.1 29, by rw [sF_triv], ?_⟩
    rw [sF_triv, List.drop_eq_nil_of_le (by omega)]
    have e : (dv k).s_st (zlost u m (dv k).st []) = dv k := rfl
    rw [e, zu_triv]; exact h
  | succ d ih =>
    intro m n s dv h hm hn
    obtain ⟨n, rfl⟩ : ∃ n', n = n' + 1 := ⟨n - 1, by omega⟩
    have hd := h k hk
    obtain ⟨h1, h2, h3, h4, h5, h6⟩ := hd
    have hdr : (dv k).pd.drop m = zPd (dv k) m :: (dv k).pd.drop (m + 1) := by
      rw [List.drop_eq_getElem_cons (by omega)]
      congr 1
      unfold zPd
      rw [List.getD_eq_getElem?_getD, List.getElem?_eq_getElem (by omega)]; rfl
    have e3 : iN m + (1 : Int32) = iN (m + 1) := by rw [iL1, iN_add]
    unfold l_M_goes_28_7
    rw [px_gd_of (by rw [hK.2.1]; exact iN_in (by omega) hk), iN_nat (by omega), h2, if_neg (by rw [iN_le (by omega) (by omega)]; omega), hdr]
    have hb := m_bit u m (by omega)
    cases hbit : u.toBitVec.getLsbD m with
    | false =>
      rw [if_pos (by intro hx; have := hb.mp hx; rw [hbit] at this; cases this), e3]
      obtain ⟨g', i1, i2⟩ := ih (m + 1) n s dv h (by omega) (by omega)
      refine ⟨g', i1, ?_⟩
      have e : zlost u m (dv k).st (zPd (dv k) m :: (dv k).pd.drop (m + 1)) = zlost u (m + 1) (dv k).st ((dv k).pd.drop (m + 1)) := by
        show zlost u (m + 1) (if u.toBitVec.getLsbD m = true then _ else _) _ = _
        rw [hbit, if_neg Bool.noConfusion]
      rw [e]; exact i2
    | true =>
      rw [if_neg (by intro hx; exact hx (hb.mpr hbit))]
      obtain ⟨g, e1, e2⟩ := m_bs_R K N hN hK k m hk s t dv h (by omega)
      rw [e1]
      unfold px_bv
      dsimp only
      rw [e3]
      have hz : zu dv k ((dv k).s_st (zu (dv k).st (zPd (dv k) m).1 (zPd (dv k) m).2)) k = (dv k).s_st (zu (dv k).st (zPd (dv k) m).1 (zPd (dv k) m).2) := zu_self _ _ _
      obtain ⟨g', i1, i2⟩ := ih (m + 1) n (sF s 29 g) _ e2 (by rw [hz]; show m + 1 + d = (dv k).pd.length; omega) (by omega)
      rw [hz, zu_zu] at i2
      refine ⟨g', by rw [i1, sF_sF], ?_⟩
      rw [sF_sF] at i2
      have e : zlost u m (dv k).st (zPd (dv k) m :: (dv k).pd.drop (m + 1)) = zlost u (m + 1) (zu (dv k).st (zPd (dv k) m).1 (zPd (dv k) m).2) ((dv k).pd.drop (m + 1)) := by
        show zlost u (m + 1) (if u.toBitVec.getLsbD m = true then _ else _) _ = _
        rw [hbit, if_pos rfl]
      rw [e]
      exact i2
/-- the pending writes of a device are forgotten -/
theorem zRp_clear {s : px_S} {dv : Nat → ZDv} (h : zRp s dv) {k : Nat} (hk : k < 2) {st : ZSt} {d : ZDv} (hd : d.pd = [] ∧ d.st = (dv k).st ∧ d.wr = (dv k).wr ∧ d.fl = (dv k).fl) : zRp (sA s 30 k (iN 0)) (zu dv k d) := by
  intro k' hk'
  by_cases hkk : k' = k
  · subst hkk
    rw [zu_self]
    obtain ⟨h1, h2, h3, h4, h5, h6⟩ := h k' hk'
    refine ⟨by rw [hd.1]; exact Nat.zero_le _, ?_, fun j hj => ?_, fun b w hb hw => ?_, ?_, ?_⟩
    · rw [hd.1, sA_eq, sF_arr]; unfold upd; rw [if_pos rfl]; rfl
    · rw [hd.1] at hj; exact absurd hj (Nat.not_lt_zero _)
    · rw [sA_eq, sF_arr_ne (by omega), hd.2.1]; exact h4 b w hb hw
    · rw [sA_eq, sF_arr_ne (by omega), hd.2.2.1]; exact h5
    · rw [sA_eq, sF_arr_ne (by omega), hd.2.2.2]; exact h6
  · rw [zu_ne _ _ hkk]
    obtain ⟨h1, h2, h3, h4, h5, h6⟩ := h k' hk'
    refine ⟨h1, ?_, fun j hj => ?_, fun b w hb hw => ?_, ?_, ?_⟩
    · rw [sA_eq, sF_arr]; unfold upd; rw [if_neg hkk]; exact h2
    · rw [sA_eq, sF_arr_ne (by omega), sF_arr_ne (by omega)]; exact h3 j hj
    · rw [sA_eq, sF_arr_ne (by omega)]; exact h4 b w hb hw
    · rw [sA_eq, sF_arr_ne (by omega)]; exact h5
    · rw [sA_eq, sF_arr_ne (by omega)]; exact h6
/-! THE REFERENCE'S POWER -/
/-- the reference's devices and power are those of the specification -/
def zRw (s : px_S) (p : ZPw) : Prop := zRp s p.dv ∧ s.1 29 = (if p.up = true then 1 else 0) ∧ s.1 30 = iN p.lim ∧ p.lim < 2147483648 ∧ (p.lim ≠ 0 → s.2.1 3 = p.msk)
/-- nothing but devices and power changes -/
def zFm (s u : px_S) : Prop := (∀ c, c < 29 ∨ 34 < c → u.2.2.1 c = s.2.2.1 c) ∧ (∀ r, r ≠ 29 → r ≠ 30 → u.1 r = s.1 r) ∧ u.2.1 = s.2.1 ∧ u.2.2.2 = s.2.2.2
theorem zFm_refl (s : px_S) : zFm s s := ⟨fun _ _ => rfl, fun _ _ _ => rfl, rfl, rfl⟩
theorem zFm_trans {s u v : px_S} (h1 : zFm s u) (h2 : zFm u v) : zFm s v := ⟨fun c hc => (h2.1 c hc).trans (h1.1 c hc), fun r a b => (h2.2.1 r a b).trans (h1.2.1 r a b), h2.2.2.1.trans h1.2.2.1, h2.2.2.2.trans h1.2.2.2⟩
theorem zFm_sF {s : px_S} {c : Nat} {g : Nat → Int32} (hc : 29 ≤ c ∧ c ≤ 34) : zFm s (sF s c g) := ⟨fun d hd => sF_arr_ne (by omega), fun _ _ _ => rfl, rfl, rfl⟩
theorem zFm_sA {s : px_S} {c j : Nat} {v : Int32} (hc : 29 ≤ c ∧ c ≤ 34) : zFm s (sA s c j v) := zFm_sF hc
theorem sR_1 (s : px_S) (k : Nat) (v : Int32) (r : Nat) : (sR s k v).1 r = if r = k then v else s.1 r := rfl
theorem zFm_sR {s : px_S} {k : Nat} {v : Int32} (hk : k = 29 ∨ k = 30) : zFm s (sR s k v) := ⟨fun _ _ => rfl, fun r h1 h2 => by rw [sR_1, if_neg (by omega)], rfl, rfl⟩
theorem zRp_sR {s : px_S} {dv : Nat → ZDv} (h : zRp s dv) (k : Nat) (v : Int32) : zRp (sR s k v) dv := h
theorem m_goes2 (K : px_K) (N : Nat) (hN : 100 ≤ N) (hK : zKm K) (u : Int64) (t : px_W) (s : px_S) (dv : Nat → ZDv) (h : zRp s dv) (k : Nat) (hk : k < 2) : ∃ g, l_M_goes_28_7 K N N u (iN k) (0 : Int32) s t = some (.inl (27, [], sF s 29 g, t)) ∧ zRp (sA (sF s 29 g) 30 k (0 : Int32)) (zu dv k ((dv k).go u)) := by
  have hl := (h k hk).1
  obtain ⟨g, e1, e2⟩ := m_goes_loop K N (by omega) hK u k hk t (dv k).pd.length 0 N s dv h (by omega) (by omega)
  refine ⟨g, e1, ?_⟩
  have hz : zu dv k ((dv k).s_st (zlost u 0 (dv k).st ((dv k).pd.drop 0))) k = (dv k).s_st (zlost u 0 (dv k).st ((dv k).pd.drop 0)) := zu_self _ _ _
  have := zRp_clear (st := (dv k).st) e2 hk (d := (dv k).go u) (by rw [hz, List.drop_zero]; exact ⟨rfl, rfl, rfl, rfl⟩)
  rw [zu_zu] at this
  exact this
theorem m_goes (K : px_K) (N : Nat) (hN : 100 ≤ N) (hK : zKm K) (u : Int64) (t : px_W) (s : px_S) (p : ZPw) (h : zRw s p) : ∃ s', f_M_goes_28 K N u s t = some (.inl none, s', t) ∧ zRw s' (p.goes u) ∧ zFm s s' := by
  obtain ⟨g0, a1, a2⟩ := m_goes2 K N hN hK u t s p.dv h.1 0 (by omega)
  obtain ⟨g1, b1, b2⟩ := m_goes2 K N hN hK u t _ _ a2 1 (by omega)
  have e11 : (0 : Int32) + 1 = iN 1 := rfl
  have e12 : iN 1 + (1 : Int32) = iN 2 := rfl
  have n0 : (0 : Int32).toNatClampNeg = 0 := rfl
  have n1 : (iN 1).toNatClampNeg = 1 := rfl
  have hloop : l_M_goes_28_2 K N N u (0 : Int32) s t = some (.inl (34, [], sA (sF (sA (sF s 29 g0) 30 0 0) 29 g1) 30 1 0, t)) := by
    obtain ⟨n, rfl⟩ : ∃ n, N = n + 3 := ⟨N - 3, by omega⟩
    have a1 : l_M_goes_28_7 K (n + 3) (n + 3) u (0 : Int32) (0 : Int32) s t = some (.inl (27, [], sF s 29 g0, t)) := a1
    unfold l_M_goes_28_2
    rw [if_neg (by decide), a1]
    unfold px_lp
    dsimp only
    rw [if_pos rfl]
    unfold px_v0
    dsimp only
    rw [px_gd_of (by rw [hK.2.1]; exact iN_in (a := 0) (by omega) (by omega)), n0]
    unfold px_let
    dsimp only
    rw [e11]
    unfold l_M_goes_28_2
    rw [if_neg (by decide), b1]
    unfold px_lp
    dsimp only
    rw [if_pos rfl]
    unfold px_v0
    dsimp only
    rw [px_gd_of (by rw [hK.2.1]; exact iN_in (a := 1) (by omega) (by omega)), n1]
    unfold px_let
    dsimp only
    rw [e12]
    unfold l_M_goes_28_2
    rw [if_pos (by decide)]
  refine ⟨sR (sR (sA (sF (sA (sF s 29 g0) 30 0 0) 29 g1) 30 1 0) 29 0) 30 0, ?_, ⟨?_, ?_, ?_, ?_, ?_⟩, ?_⟩
  · unfold f_M_goes_28
    rw [hloop]
    rfl
  · refine zRp_sR (zRp_sR ?_ _ _) _ _
    intro k hk
    have := b2 k hk
    by_cases h0 : k = 0
    · subst h0
      rw [zu_ne _ _ (by omega), zu_self] at this
      exact this
    · have h1 : k = 1 := by omega
      subst h1
      rw [zu_self, zu_ne _ _ (by omega)] at this
      exact this
  · rw [sR_1, if_neg (by omega), sR_1, if_pos rfl]; rfl
  · rw [sR_1, if_pos rfl]; rfl
  · show (0 : Nat) < _; omega
  · intro hx; exact absurd rfl hx
  · exact zFm_trans (zFm_trans (zFm_trans (zFm_sF (by omega)) (zFm_sA (by omega))) (zFm_trans (zFm_sF (by omega)) (zFm_sA (by omega)))) (zFm_trans (zFm_sR (Or.inl rfl)) (zFm_sR (Or.inr rfl)))
/-- an act: whether it may be done -/
theorem m_acts (K : px_K) (N : Nat) (hN : 100 ≤ N) (hK : zKm K) (t : px_W) (s : px_S) (p : ZPw) (h : zRw s p) : ∃ s', f_M_acts_28 K N s t = some (.inl (some (.int (if p.act.up = true then 1 else 0))), s', t) ∧ zRw s' p.act ∧ zFm s s' := by
  obtain ⟨h1, h2, h3, h4, h5⟩ := h
  unfold f_M_acts_28
  cases hu : p.up with
  | false =>
    rw [hu, if_neg Bool.noConfusion] at h2
    rw [if_neg (by rw [h2]; exact fun hx => hx rfl)]
    have ha := ZPw.act_down hu
    rw [ha, hu, if_neg Bool.noConfusion]
    exact ⟨s, rfl, ⟨h1, by rw [h2, hu, if_neg Bool.noConfusion], h3, h4, h5⟩, zFm_refl s⟩
  | true =>
    rw [hu, if_pos rfl] at h2
    rw [if_pos (by rw [h2]; decide)]
    rcases ZPw.act_cases hu with ⟨l1, l2⟩ | ⟨l1, l2⟩
    · rw [if_neg (by rw [h3, l1]; exact fun hx => hx rfl)]
      obtain ⟨s', e1, e2, e3⟩ := m_goes K N hN hK p.msk t s p ⟨h1, by rw [h2, hu, if_pos rfl], h3, h4, h5⟩
      rw [h5 (by omega), e1]
      rw [l2]
      refine ⟨s', ?_, ⟨e2.1, e2.2.1, e2.2.2.1, e2.2.2.2.1, e2.2.2.2.2⟩, e3⟩
      rfl
    · rw [if_pos (by rw [h3, iL1, iN_eq h4 (by omega)]; exact l1)]
      unfold px_let
      dsimp only
      rw [l2]
      have hv : (if s.1 30 ≤ 0 then (0 : Int32) else s.1 30 - (1 : Int32)) = iN (p.lim - 1) := by
        rw [h3, iL0]
        by_cases hl : p.lim ≤ 0
        · rw [if_pos ((iN_le h4 (by omega)).mpr hl)]
          have : p.lim - 1 = 0 := by omega
          rw [this]
        · rw [if_neg (fun hx => hl ((iN_le h4 (by omega)).mp hx)), iL1, iN_sub (by omega)]
      rw [hv]
      have hup : (ZPw.mk p.dv p.up (p.lim - 1) p.msk (p.na + 1)).up = true := hu
      refine ⟨sR s 30 (iN (p.lim - 1)), ?_, ⟨zRp_sR h1 _ _, ?_, ?_, ?_, ?_⟩, zFm_sR (Or.inr rfl)⟩
      · rw [if_pos hup]
      · rw [sR_1, if_neg (by omega), h2, if_pos hup]
      · rw [sR_1, if_pos rfl]; rfl
      · show p.lim - 1 < _; omega
      · intro hx
        have hx : p.lim - 1 ≠ 0 := hx
        exact h5 (by omega)
/-! THE REFERENCE'S FLUSH AND READ -/
theorem zRp_cnt {s : px_S} {dv : Nat → ZDv} (h : zRp s dv) {k c : Nat} (hk : k < 2) (hc : c = 33 ∨ c = 34) {v : Int32} {d : ZDv} (hd : d.pd = (dv k).pd ∧ d.st = (dv k).st ∧ (if c = 33 then v = iN d.wr ∧ d.fl = (dv k).fl else v = iN d.fl ∧ d.wr = (dv k).wr)) : zRp (sA s c k v) (zu dv k d) := by
  intro k' hk'
  have harr : ∀ a, a ≠ c → (sA s c k v).2.2.1 a = s.2.2.1 a := fun a ha => by rw [sA_eq, sF_arr_ne ha]
  have hself : ∀ q, (sA s c k v).2.2.1 c q = if q = k then v else s.2.2.1 c q := fun q => by rw [sA_eq, sF_arr]; rfl
  by_cases hkk : k' = k
  · subst hkk
    rw [zu_self]
    obtain ⟨h1, h2, h3, h4, h5, h6⟩ := h k' hk'
    obtain ⟨d1, d2, d3⟩ := hd
    have hz : ∀ j, zPd d j = zPd (dv k') j := fun j => by unfold zPd; rw [d1]
    refine ⟨by rw [d1]; exact h1, ?_, fun j hj => ?_, fun b w hb hw => ?_, ?_, ?_⟩
    · rw [harr 30 (by omega), d1]; exact h2
    · rw [d1] at hj; rw [harr 31 (by omega), harr 32 (by omega), hz]; exact h3 j hj
    · rw [harr 29 (by omega), d2]; exact h4 b w hb hw
    · rcases hc with hc | hc
      · subst hc; rw [hself, if_pos rfl]; rw [if_pos rfl] at d3; exact d3.1
      · subst hc; rw [harr 33 (by omega)]; rw [if_neg (by omega)] at d3; rw [d3.2]; exact h5
    · rcases hc with hc | hc
      · subst hc; rw [harr 34 (by omega)]; rw [if_pos rfl] at d3; rw [d3.2]; exact h6
      · subst hc; rw [hself, if_pos rfl]; rw [if_neg (by omega)] at d3; exact d3.1
  · rw [zu_ne _ _ hkk]
    obtain ⟨h1, h2, h3, h4, h5, h6⟩ := h k' hk'
    refine ⟨h1, by rw [harr 30 (by omega)]; exact h2, fun j hj => ?_, fun b w hb hw => ?_, ?_, ?_⟩
    · rw [harr 31 (by omega), harr 32 (by omega)]; exact h3 j hj
    · rw [harr 29 (by omega)]; exact h4 b w hb hw
    · rcases hc with hc | hc
      · subst hc; rw [hself, if_neg hkk]; exact h5
      · subst hc; rw [harr 33 (by omega)]; exact h5
    · rcases hc with hc | hc
      · subst hc; rw [harr 34 (by omega)]; exact h6
      · subst hc; rw [hself, if_neg hkk]; exact h6
theorem m_flush (K : px_K) (N : Nat) (hN : 100 ≤ N) (hK : zKm K) (t : px_W) (s : px_S) (p : ZPw) (h : zRw s p) (k : Nat) (hk : k < 2) : ∃ s', f_M_flush_28 K N (iN k) s t = some (.inl none, s', t) ∧ zRw s' (p.fl k) ∧ zFm s s' := by
  obtain ⟨s1, a1, a2, a3⟩ := m_acts K N hN hK t s p h
  unfold f_M_flush_28
  rw [a1]
  unfold px_bi
  dsimp only
  unfold ZPw.fl
  cases hu : p.act.up with
  | false =>
    rw [if_neg (c := false = true) Bool.noConfusion, if_neg (c := false = true) Bool.noConfusion, if_neg (by exact fun hx => hx rfl)]
    exact ⟨s1, rfl, a2, a3⟩
  | true =>
    rw [if_pos (c := true = true) rfl, if_pos (c := true = true) rfl, if_pos (by decide)]
    have hin : vp_in (iN k) (K.2.2 34) := by rw [hK.2.2.2.2.2.1]; exact iN_in (by omega) hk
    rw [px_gd_of ⟨hin, hin⟩, iN_nat (by omega)]
    unfold px_let
    dsimp only
    generalize hq : p.act = q at *
    obtain ⟨r1, r2, r3, r4, r5⟩ := a2
    have hfl : s1.2.2.1 34 k = iN (q.dv k).fl := (r1 k hk).2.2.2.2.2
    have hc := zRp_cnt (c := 34) (v := s1.2.2.1 34 k + (1 : Int32)) r1 hk (Or.inr rfl) (d := (q.dv k).s_fl ((q.dv k).fl + 1)) ⟨rfl, rfl, by rw [if_neg (by omega)]; exact ⟨by rw [hfl, iL1, iN_add]; rfl, rfl⟩⟩
    have hz : zu q.dv k ((q.dv k).s_fl ((q.dv k).fl + 1)) k = (q.dv k).s_fl ((q.dv k).fl + 1) := zu_self _ _ _
    have hl := (hc k hk).1
    rw [hz] at hl
    obtain ⟨g, e1, e2⟩ := m_flush_loop K N (by omega) hK k hk t ((q.dv k).pd.length) 0 N _ _ hc (by rw [hz]; show 0 + (q.dv k).pd.length = (q.dv k).pd.length; omega) (by have hl : (q.dv k).pd.length ≤ 64 := hl; omega)
    rw [iL0, e1]
    unfold px_lp
    dsimp only
    rw [if_pos rfl]
    unfold px_v0
    dsimp only
    rw [px_gd_of (by rw [hK.2.1]; exact iN_in (by omega) hk)]
    rw [hz, zu_zu, List.drop_zero] at e2
    have e3 := zRp_clear (st := (q.dv k).st) e2 hk (d := (q.dv k).flush) (by rw [zu_self]; exact ⟨rfl, rfl, rfl, rfl⟩)
    rw [zu_zu] at e3
    refine ⟨_, rfl, ⟨e3, ?_, ?_, ?_, ?_⟩, ?_⟩
    · rw [if_pos (show (ZPw.s_dv q (zu q.dv k (q.dv k).flush)).up = true from hu)]
      rw [if_pos hu] at r2; exact r2
    · exact r3
    · exact r4
    · exact r5
    · exact zFm_trans a3 (zFm_trans (zFm_trans (zFm_sA (by omega)) (zFm_sF (by omega))) (zFm_sA (by omega)))
theorem zov_take_succ {st : ZSt} {d : ZDv} {m b : Nat} (hm : m < d.pd.length) : zov st (d.pd.take (m + 1)) b = if (zPd d m).1 = b then (zPd d m).2 else zov st (d.pd.take m) b := by
  have e : d.pd.take (m + 1) = d.pd.take m ++ [zPd d m] := by
    rw [List.take_succ_eq_append_getElem hm]
    congr 1
    unfold zPd
    rw [List.getD_eq_getElem?_getD, List.getElem?_eq_getElem hm]; rfl
  rw [e, zov_append]
  show zu (zov st (d.pd.take m)) (zPd d m).1 (zPd d m).2 b = _
  unfold zu
  by_cases h : b = (zPd d m).1
  · rw [if_pos h, if_pos h.symm]
  · rw [if_neg h, if_neg (fun hx => h hx.symm)]
theorem m_read_loop (K : px_K) (N : Nat) (hK : zKm K) (k b w : Nat) (hk : k < 2) (hb : b < 2147483648) (t : px_W) (s : px_S) (d : ZDv) (h : zRd s k d) (u3 : Int32) : ∀ (m n : Nat), m ≤ d.pd.length → m < n → (∃ j, j < d.pd.length ∧ l_M_read_28_11 K N n (iN k) (iN b) u3 (iN (64 * k + m) - 1) s t = some (.inl (22, [iN (64 * k + j)], s, t)) ∧ zov d.st (d.pd.take m) b = (zPd d j).2) ∨ (l_M_read_28_11 K N n (iN k) (iN b) u3 (iN (64 * k + m) - 1) s t = some (.inl (33, [], s, t)) ∧ zov d.st (d.pd.take m) b = d.st b) := by
  obtain ⟨h1, h2, h3, h4, h5, h6⟩ := h
  intro m
  induction m with
  | zero =>
    intro n _ hn
    obtain ⟨n, rfl⟩ : ∃ n', n = n' + 1 := ⟨n - 1, by omega⟩
    right
    refine ⟨?_, by rw [List.take_zero]; rfl⟩
    unfold l_M_read_28_11
    rw [if_pos]
    by_cases h0 : k = 0
    · subst h0; decide
    · have : k = 1 := by omega
      subst this; decide
  | succ m ih =>
    intro n hm hn
    obtain ⟨n, rfl⟩ : ∃ n', n = n' + 1 := ⟨n - 1, by omega⟩
    obtain ⟨p1, p2, p3⟩ := h3 m (by omega)
    have hnb := zNb_le k hk
    have e1 : iN (64 * k + (m + 1)) - 1 = iN (64 * k + m) := by rw [iL1, iN_sub (by omega)]; congr 1
    have e2 : iN (64 * k + m) + (-1 : Int32) = iN (64 * k + m) - 1 := by
      rw [Int32.sub_eq_add_neg]
    rw [e1, zov_take_succ (by omega)]
    unfold l_M_read_28_11
    have e3 : (64 : Int32) * iN k = iN (64 * k) := by rw [iL64, iN_mul]
    rw [e3, if_neg (by rw [iN_lt (by omega) (by omega)]; omega), px_gd_of (by rw [hK.2.2.1]; exact iN_in (by omega) (by omega)), iN_nat (by omega), p1]
    by_cases hbb : (zPd d m).1 = b
    · left
      rw [if_neg (by rw [hbb]; exact fun hx => hx rfl), if_pos hbb]
      exact ⟨m, by omega, rfl, rfl⟩
    · rw [if_pos (by rw [iN_eq (by omega) hb]; exact hbb), if_neg hbb]
      unfold px_let
      dsimp only
      rw [e2]
      exact ih n (by omega) (by omega)
theorem m_read (K : px_K) (N : Nat) (hN : 100 ≤ N) (hK : zKm K) (t : px_W) (s : px_S) (dv : Nat → ZDv) (h : zRp s dv) (k b w : Nat) (hk : k < 2) (hb : b < zNb k) (hw : w < 16) : f_M_read_28 K N (iN k) (iN b) (iN w) s t = some (.inl (some (.int ((dv k).now b w))), s, t) := by
  have hd := h k hk
  have hnb := zNb_le k hk
  obtain ⟨h1, h2, h3, h4, h5, h6⟩ := hd
  unfold f_M_read_28
  rw [px_gd_of (by rw [hK.2.1]; exact iN_in (by omega) hk), iN_nat (by omega), h2]
  unfold px_let
  dsimp only
  have e1 : (64 : Int32) * iN k + iN (dv k).pd.length - (1 : Int32) = iN (64 * k + (dv k).pd.length) - 1 := by rw [iL64, iN_mul, iN_add]
  rw [e1]
  have hnow : (dv k).now b = zov (dv k).st ((dv k).pd.take (dv k).pd.length) b := by rw [List.take_length]; rfl
  rcases m_read_loop K N hK k b w hk (by omega) t s (dv k) (h k hk) (iN w) (dv k).pd.length N (Nat.le_refl _) (by omega) with ⟨j, j1, j2, j3⟩ | ⟨j2, j3⟩
  · rw [j2]
    unfold px_lp
    dsimp only
    rw [if_pos rfl]
    unfold px_v1
    dsimp only
    have e2 : (16 : Int32) * iN (64 * k + j) + iN w = iN (16 * (64 * k + j) + w) := by rw [iL16, iN_mul, iN_add]
    rw [e2, px_gd_of (by rw [hK.2.2.2.1]; exact iN_in (by omega) (by omega)), iN_nat (by omega), (h3 j j1).2.2 w hw, hnow, j3]
  · rw [j2]
    unfold px_lp
    dsimp only
    rw [if_neg (by omega), if_pos rfl]
    unfold px_v0
    dsimp only
    rw [m_at K N k b hk]
    unfold px_bi
    dsimp only
    rw [iN_add, px_gd_of (by rw [hK.1]; exact iN_in (by omega) (by omega)), iN_nat (by omega), h4 b w hb hw, hnow, j3]
theorem m_landed (K : px_K) (N : Nat) (hN : 100 ≤ N) (hK : zKm K) (t : px_W) (s : px_S) (dv : Nat → ZDv) (h : zRp s dv) : f_M_landed_28 K N s t = some (.inl (some (.int ((dv 0).now 1 1))), s, t) := by
  unfold f_M_landed_28
  rw [show (0 : Int32) = iN 0 from rfl, show (1 : Int32) = iN 1 from rfl, m_read K N hN hK t s dv h 0 1 1 (by omega) (by show 1 < 125; omega) (by omega)]
  rfl
theorem getD_append_lt {α : Type} {l : List α} {x d : α} {j : Nat} (h : j < l.length) : (l ++ [x]).getD j d = l.getD j d := by
  rw [List.getD_eq_getElem?_getD, List.getD_eq_getElem?_getD, List.getElem?_append_left h]
theorem getD_append_eq {α : Type} {l : List α} {x d : α} : (l ++ [x]).getD l.length d = x := by
  rw [List.getD_eq_getElem?_getD, List.getElem?_append_right (Nat.le_refl _)]; simp
/-- a pending write more -/
theorem zRp_push {s : px_S} {dv : Nat → ZDv} (h : zRp s dv) {k b fi : Nat} {x : ZBk} {f : Nat → Int32} (hk : k < 2) (hb : b < zNb k) (hL : (dv k).pd.length < 64) (hx : ∀ w, w < 16 → f (fi + w) = x w) :
    zRp (sA (sF (sA s 31 (64 * k + (dv k).pd.length) (iN b)) 32 (va_cpy f ((sA s 31 (64 * k + (dv k).pd.length) (iN b)).2.2.1 32) fi (16 * (64 * k + (dv k).pd.length)) 16)) 30 k (iN ((dv k).pd.length + 1))) (zu dv k ((dv k).s_pd ((dv k).pd ++ [(b, x)]))) := by
  generalize hLL : (dv k).pd.length = L at *
  obtain ⟨u, hu⟩ : ∃ u, u = sA (sF (sA s 31 (64 * k + L) (iN b)) 32 (va_cpy f ((sA s 31 (64 * k + L) (iN b)).2.2.1 32) fi (16 * (64 * k + L)) 16)) 30 k (iN (L + 1)) := ⟨_, rfl⟩
  rw [← hu]
  have a29 : u.2.2.1 29 = s.2.2.1 29 := by rw [hu, sA_eq, sF_arr_ne (by omega), sF_arr_ne (by omega), sA_eq, sF_arr_ne (by omega)]
  have a33 : u.2.2.1 33 = s.2.2.1 33 := by rw [hu, sA_eq, sF_arr_ne (by omega), sF_arr_ne (by omega), sA_eq, sF_arr_ne (by omega)]
  have a34 : u.2.2.1 34 = s.2.2.1 34 := by rw [hu, sA_eq, sF_arr_ne (by omega), sF_arr_ne (by omega), sA_eq, sF_arr_ne (by omega)]
  have a30 : ∀ q, u.2.2.1 30 q = if q = k then iN (L + 1) else s.2.2.1 30 q := by
    intro q
    rw [hu, sA_eq, sF_arr, sF_arr_ne (by omega), sA_eq, sF_arr_ne (by omega)]; rfl
  have a31 : ∀ q, u.2.2.1 31 q = if q = 64 * k + L then iN b else s.2.2.1 31 q := by
    intro q
    rw [hu, sA_eq, sF_arr_ne (by omega), sF_arr_ne (by omega), sA_eq, sF_arr]; rfl
  have a32 : ∀ q, u.2.2.1 32 q = if 16 * (64 * k + L) ≤ q ∧ q < 16 * (64 * k + L) + 16 then f (fi + (q - 16 * (64 * k + L))) else s.2.2.1 32 q := by
    intro q
    rw [hu, sA_eq, sF_arr_ne (by omega), sF_arr, sA_eq, sF_arr_ne (by omega)]; rfl
  intro k' hk'
  obtain ⟨h1, h2, h3, h4, h5, h6⟩ := h k' hk'
  by_cases hkk : k' = k
  · subst hkk
    rw [zu_self]
    have hlen : ((dv k').s_pd ((dv k').pd ++ [(b, x)])).pd.length = L + 1 := by
      show ((dv k').pd ++ [(b, x)]).length = L + 1
      rw [List.length_append, hLL]; rfl
    refine ⟨by rw [hlen]; omega, by rw [hlen, a30, if_pos rfl], fun j hj => ?_, fun c w hc hw => ?_, by rw [a33]; exact h5, by rw [a34]; exact h6⟩
    · rw [hlen] at hj
      have hz : zPd ((dv k').s_pd ((dv k').pd ++ [(b, x)])) j = ((dv k').pd ++ [(b, x)]).getD j (0, fun _ => 0) := rfl
      rw [hz]
      by_cases hjl : j < L
      · rw [getD_append_lt (by omega)]
        have := h3 j (by omega)
        rw [a31, if_neg (by omega)]
        refine ⟨this.1, this.2.1, fun w hw => ?_⟩
        rw [a32, if_neg (by omega)]; exact this.2.2 w hw
      · have hjL : j = L := by omega
        subst hjL
        rw [← hLL, getD_append_eq, hLL, a31, if_pos rfl]
        refine ⟨rfl, hb, fun w hw => ?_⟩
        rw [a32, if_pos (by omega)]
        have e : 16 * (64 * k' + j) + w - 16 * (64 * k' + j) = w := by omega
        rw [e]; exact hx w hw
    · rw [a29]; exact h4 c w hc hw
  · rw [zu_ne _ _ hkk]
    refine ⟨h1, by rw [a30, if_neg hkk]; exact h2, fun j hj => ?_, fun c w hc hw => by rw [a29]; exact h4 c w hc hw, by rw [a33]; exact h5, by rw [a34]; exact h6⟩
    have := h3 j hj
    rw [a31, if_neg (by omega)]
    refine ⟨this.1, this.2.1, fun w hw => ?_⟩
    rw [a32, if_neg (by omega)]; exact this.2.2 w hw
/-- the first pending write is taken out -/
theorem zRp_shift {s : px_S} {dv : Nat → ZDv} (h : zRp s dv) {k : Nat} (hk : k < 2) (hL : (dv k).pd.length = 64) :
    zRp (sA (sF (sF s 31 (fun a => if 64 * k ≤ a ∧ a < 64 * k + 63 then s.2.2.1 31 (a + 1) else s.2.2.1 31 a)) 32 (fun a => if 1024 * k ≤ a ∧ a < 1024 * k + 1008 then s.2.2.1 32 (a + 16) else s.2.2.1 32 a)) 30 k (iN 63)) (zu dv k ((dv k).s_pd ((dv k).pd.drop 1))) := by
  obtain ⟨u, hu⟩ : ∃ u, u = sA (sF (sF s 31 (fun a => if 64 * k ≤ a ∧ a < 64 * k + 63 then s.2.2.1 31 (a + 1) else s.2.2.1 31 a)) 32 (fun a => if 1024 * k ≤ a ∧ a < 1024 * k + 1008 then s.2.2.1 32 (a + 16) else s.2.2.1 32 a)) 30 k (iN 63) := ⟨_, rfl⟩
  rw [← hu]
  have a29 : u.2.2.1 29 = s.2.2.1 29 := by rw [hu, sA_eq, sF_arr_ne (by omega), sF_arr_ne (by omega), sF_arr_ne (by omega)]
  have a33 : u.2.2.1 33 = s.2.2.1 33 := by rw [hu, sA_eq, sF_arr_ne (by omega), sF_arr_ne (by omega), sF_arr_ne (by omega)]
  have a34 : u.2.2.1 34 = s.2.2.1 34 := by rw [hu, sA_eq, sF_arr_ne (by omega), sF_arr_ne (by omega), sF_arr_ne (by omega)]
  have a30 : ∀ q, u.2.2.1 30 q = if q = k then iN 63 else s.2.2.1 30 q := by
    intro q
    rw [hu, sA_eq, sF_arr, sF_arr_ne (by omega), sF_arr_ne (by omega)]; rfl
  have a31 : ∀ q, u.2.2.1 31 q = if 64 * k ≤ q ∧ q < 64 * k + 63 then s.2.2.1 31 (q + 1) else s.2.2.1 31 q := by
    intro q
    rw [hu, sA_eq, sF_arr_ne (by omega), sF_arr_ne (by omega), sF_arr]
  have a32 : ∀ q, u.2.2.1 32 q = if 1024 * k ≤ q ∧ q < 1024 * k + 1008 then s.2.2.1 32 (q + 16) else s.2.2.1 32 q := by
    intro q
    rw [hu, sA_eq, sF_arr_ne (by omega), sF_arr]
  intro k' hk'
  obtain ⟨h1, h2, h3, h4, h5, h6⟩ := h k' hk'
  by_cases hkk : k' = k
  · subst hkk
    rw [zu_self]
    have hlen : ((dv k').s_pd ((dv k').pd.drop 1)).pd.length = 63 := by
      show ((dv k').pd.drop 1).length = 63
      rw [List.length_drop, hL]
    refine ⟨by rw [hlen]; omega, by rw [hlen, a30, if_pos rfl], fun j hj => ?_, fun c w hc hw => by rw [a29]; exact h4 c w hc hw, by rw [a33]; exact h5, by rw [a34]; exact h6⟩
    rw [hlen] at hj
    have hz : zPd ((dv k').s_pd ((dv k').pd.drop 1)) j = zPd (dv k') (j + 1) := by
      show ((dv k').pd.drop 1).getD j (0, fun _ => 0) = (dv k').pd.getD (j + 1) (0, fun _ => 0)
      rw [List.getD_eq_getElem?_getD, List.getD_eq_getElem?_getD, List.getElem?_drop, Nat.add_comm 1 j]
    rw [hz]
    have := h3 (j + 1) (by omega)
    rw [a31, if_pos (by omega)]
    refine ⟨this.1, this.2.1, fun w hw => ?_⟩
    rw [a32, if_pos (by omega)]
    have e : 16 * (64 * k' + j) + w + 16 = 16 * (64 * k' + (j + 1)) + w := by omega
    rw [e]; exact this.2.2 w hw
  · rw [zu_ne _ _ hkk]
    refine ⟨h1, by rw [a30, if_neg hkk]; exact h2, fun j hj => ?_, fun c w hc hw => by rw [a29]; exact h4 c w hc hw, by rw [a33]; exact h5, by rw [a34]; exact h6⟩
    have := h3 j hj
    rw [a31, if_neg (by omega)]
    refine ⟨this.1, this.2.1, fun w hw => ?_⟩
    rw [a32, if_neg (by omega)]; exact this.2.2 w hw
