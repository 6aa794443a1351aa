/-! THE CLASS: bits are counted -/
theorem iN_and (a b : Nat) : iN a &&& iN b = iN (a &&& b) := by
  apply Int32.toBitVec.inj
  show BitVec.ofNat 32 a &&& BitVec.ofNat 32 b = BitVec.ofNat 32 (a &&& b)
  rw [BitVec.ofNat_and]
theorem iN_u32 (x : Int32) : x = iN (u32 x) := by
  apply Int32.toBitVec.inj
  show x.toBitVec = BitVec.ofNat 32 x.toBitVec.toNat
  rw [BitVec.ofNat_toNat, BitVec.setWidth_eq]
theorem iN_ushr {a k : Nat} (ha : a < 4294967296) (hk : k < 32) : ((iN a).toUInt32 >>> UInt32.ofNat k).toInt32 = iN (a / 2 ^ k) := by
  apply Int32.toBitVec.inj
  show (BitVec.ofNat 32 a) >>> ((UInt32.ofNat k).toBitVec % 32#32) = BitVec.ofNat 32 (a / 2 ^ k)
  have h1 : (UInt32.ofNat k).toBitVec % 32#32 = BitVec.ofNat 32 k := by
    apply BitVec.eq_of_toNat_eq
    show (k % 4294967296) % 32 = k % 4294967296
    omega
  rw [h1]
  apply BitVec.eq_of_toNat_eq
  show ((BitVec.ofNat 32 a) >>> (BitVec.ofNat 32 k).toNat).toNat = _
  have h2 : (BitVec.ofNat 32 k).toNat = k := by
    show k % 4294967296 = k
    omega
  rw [h2, BitVec.toNat_ushiftRight, BitVec.toNat_ofNat, BitVec.toNat_ofNat, Nat.shiftRight_eq_div_pow, Nat.mod_eq_of_lt (show a < 2 ^ 32 from ha), Nat.mod_eq_of_lt]
  exact Nat.lt_of_le_of_lt (Nat.div_le_self _ _) ha
theorem sh1 : ((1 : Int32).toUInt32 &&& Int32.toUInt32 31) = UInt32.ofNat 1 := by decide
theorem sh2 : ((2 : Int32).toUInt32 &&& Int32.toUInt32 31) = UInt32.ofNat 2 := by decide
theorem sh4 : ((4 : Int32).toUInt32 &&& Int32.toUInt32 31) = UInt32.ofNat 4 := by decide
theorem sh8 : ((8 : Int32).toUInt32 &&& Int32.toUInt32 31) = UInt32.ofNat 8 := by decide
theorem sh16 : ((16 : Int32).toUInt32 &&& Int32.toUInt32 31) = UInt32.ofNat 16 := by decide
theorem land_dig {d m a b : Nat} (hd : d < 256) (hm : m < 256) : (256 * a + d) &&& (256 * b + m) = 256 * (a &&& b) + (d &&& m) := by
  apply Nat.eq_of_testBit_eq
  intro i
  have hdm : d &&& m < 256 := Nat.lt_of_le_of_lt Nat.and_le_left hd
  rw [Nat.testBit_and]
  have e1 := Nat.testBit_two_pow_mul_add (i := 8) a (b := d) hd i
  have e2 := Nat.testBit_two_pow_mul_add (i := 8) b (b := m) hm i
  have e3 := Nat.testBit_two_pow_mul_add (i := 8) (a &&& b) (b := d &&& m) hdm i
  have p8 : (2 : Nat) ^ 8 = 256 := rfl
  rw [p8] at e1 e2 e3
  rw [e1, e2, e3]
  by_cases hi : i < 8
  · rw [if_pos hi, if_pos hi, if_pos hi, Nat.testBit_and]
  · rw [if_neg hi, if_neg hi, if_neg hi, Nat.testBit_and]
/-- four bytes -/
def z4 (a b c d : Nat) : Nat := 256 * (256 * (256 * d + c) + b) + a
theorem land_4 {a b c d m : Nat} (ha : a < 256) (hb : b < 256) (hc : c < 256) (hd : d < 256) (hm : m < 256) : z4 a b c d &&& z4 m m m m = z4 (a &&& m) (b &&& m) (c &&& m) (d &&& m) := by
  unfold z4
  rw [land_dig ha hm, land_dig hb hm, land_dig hc hm]
theorem z4_lt {a b c d : Nat} (ha : a < 256) (hb : b < 256) (hc : c < 256) (hd : d < 256) : z4 a b c d < 4294967296 := by unfold z4; omega
def zb1 (b : Nat) : Nat := b - ((b / 2) &&& 85)
def zb2 (b : Nat) : Nat := (zb1 b &&& 51) + ((zb1 b / 4) &&& 51)
def zb3 (b : Nat) : Nat := (zb2 b + zb2 b / 16) &&& 15
set_option maxRecDepth 100000 in
theorem zb_facts : ∀ b : Fin 256, ((b.val / 2) &&& 85) ≤ b.val ∧ ((b.val / 2 + 128) &&& 85) = ((b.val / 2) &&& 85) ∧ zb1 b.val < 256 ∧ ((zb1 b.val / 4 + 64) &&& 51) = ((zb1 b.val / 4) &&& 51) ∧ ((zb1 b.val / 4 + 128) &&& 51) = ((zb1 b.val / 4) &&& 51) ∧ ((zb1 b.val / 4 + 192) &&& 51) = ((zb1 b.val / 4) &&& 51) ∧ zb2 b.val < 69 ∧ zb2 b.val % 16 ≤ 4 ∧ ((zb2 b.val + zb2 b.val / 16 + 16) &&& 15) = zb3 b.val ∧ ((zb2 b.val + zb2 b.val / 16 + 32) &&& 15) = zb3 b.val ∧ ((zb2 b.val + zb2 b.val / 16 + 48) &&& 15) = zb3 b.val ∧ ((zb2 b.val + zb2 b.val / 16 + 64) &&& 15) = zb3 b.val ∧ zb3 b.val ≤ 8 ∧ zb3 b.val = ((List.range 8).filter fun i => b.val.testBit i).length := by decide
theorem zb_at {b : Nat} (hb : b < 256) : ((b / 2) &&& 85) ≤ b ∧ (∀ c, c < 2 → ((b / 2 + 128 * c) &&& 85) = ((b / 2) &&& 85)) ∧ zb1 b < 256 ∧ (∀ c, c < 4 → ((zb1 b / 4 + 64 * c) &&& 51) = ((zb1 b / 4) &&& 51)) ∧ zb2 b < 69 ∧ zb2 b % 16 ≤ 4 ∧ (∀ c, c ≤ 4 → ((zb2 b + zb2 b / 16 + 16 * c) &&& 15) = zb3 b) ∧ zb3 b ≤ 8 ∧ zb3 b = ((List.range 8).filter fun i => b.testBit i).length := by
  obtain ⟨h1, h2, h3, h4, h5, h6, h7, h8, h9, h10, h11, h12, h13, h14⟩ := zb_facts ⟨b, hb⟩
  refine ⟨h1, fun c hc => ?_, h3, fun c hc => ?_, h7, h8, fun c hc => ?_, h13, h14⟩
  · have : c = 0 ∨ c = 1 := by omega
    rcases this with rfl | rfl
    · rfl
    · exact h2
  · have : c = 0 ∨ c = 1 ∨ c = 2 ∨ c = 3 := by omega
    rcases this with rfl | rfl | rfl | rfl
    · rfl
    · exact h4
    · exact h5
    · exact h6
  · have : c = 0 ∨ c = 1 ∨ c = 2 ∨ c = 3 ∨ c = 4 := by omega
    rcases this with rfl | rfl | rfl | rfl | rfl
    · rfl
    · exact h9
    · exact h10
    · exact h11
    · exact h12
theorem z4_sum {p q r s : Nat} (hp : p ≤ 8) (hq : q ≤ 8) (hr : r ≤ 8) (hs : s ≤ 8) : (z4 p q r s + z4 p q r s / 256 + (z4 p q r s + z4 p q r s / 256) / 65536) % 2 ^ 6 = p + q + r + s := by
  have e1 : z4 p q r s / 256 = 65536 * s + 256 * r + q := by unfold z4; omega
  have e2 : z4 p q r s + (65536 * s + 256 * r + q) = 16777216 * s + 65536 * (r + s) + 256 * (q + r) + (p + q) := by unfold z4; omega
  have e3 : (16777216 * s + 65536 * (r + s) + 256 * (q + r) + (p + q)) / 65536 = 256 * s + (r + s) := by omega
  rw [e1, e2, e3]
  show _ % 64 = _
  omega
theorem bc_nat {a b c d : Nat} (ha : a < 256) (hb : b < 256) (hc : c < 256) (hd : d < 256) : ∃ v1 v3 v5 v7 v9 : Nat, z4 a b c d / 2 &&& 1431655765 ≤ z4 a b c d ∧ v1 = z4 a b c d - (z4 a b c d / 2 &&& 1431655765) ∧ v1 < 4294967296 ∧ v3 = (v1 &&& 858993459) + (v1 / 4 &&& 858993459) ∧ v3 < 4294967296 ∧ v5 = (v3 + v3 / 16) &&& 252645135 ∧ v5 < 4294967296 ∧ v7 = v5 + v5 / 256 ∧ v7 < 4294967296 ∧ v9 = v7 + v7 / 65536 ∧ v9 &&& 63 = zb3 a + zb3 b + zb3 c + zb3 d := by
  obtain ⟨a1, a2, a3, a4, a5, a6, a7, a8, _⟩ := zb_at ha
  obtain ⟨b1, b2, b3, b4, b5, b6, b7, b8, _⟩ := zb_at hb
  obtain ⟨c1, c2, c3, c4, c5, c6, c7, c8, _⟩ := zb_at hc
  obtain ⟨d1, d2, d3, d4, d5, d6, d7, d8, _⟩ := zb_at hd
  have m1 : (1431655765 : Nat) = z4 85 85 85 85 := rfl
  have m2 : (858993459 : Nat) = z4 51 51 51 51 := rfl
  have m3 : (252645135 : Nat) = z4 15 15 15 15 := rfl
  -- stage 1
  have e1 : z4 a b c d / 2 = z4 (a / 2 + 128 * (b % 2)) (b / 2 + 128 * (c % 2)) (c / 2 + 128 * (d % 2)) (d / 2) := by unfold z4; omega
  have s1 : z4 a b c d / 2 &&& 1431655765 = z4 ((a / 2) &&& 85) ((b / 2) &&& 85) ((c / 2) &&& 85) ((d / 2) &&& 85) := by
    rw [e1, m1, land_4 (by omega) (by omega) (by omega) (by omega) (by omega), a2 _ (by omega), b2 _ (by omega), c2 _ (by omega)]
  have v1e : z4 a b c d - (z4 a b c d / 2 &&& 1431655765) = z4 (zb1 a) (zb1 b) (zb1 c) (zb1 d) := by
    rw [s1]; unfold z4 zb1; omega
  have le1 : z4 a b c d / 2 &&& 1431655765 ≤ z4 a b c d := by rw [s1]; unfold z4; omega
  have l1 := z4_lt a3 b3 c3 d3
  -- stage 2
  have e2 : z4 (zb1 a) (zb1 b) (zb1 c) (zb1 d) / 4 = z4 (zb1 a / 4 + 64 * (zb1 b % 4)) (zb1 b / 4 + 64 * (zb1 c % 4)) (zb1 c / 4 + 64 * (zb1 d % 4)) (zb1 d / 4) := by unfold z4; omega
  have s2 : (z4 (zb1 a) (zb1 b) (zb1 c) (zb1 d) &&& 858993459) + (z4 (zb1 a) (zb1 b) (zb1 c) (zb1 d) / 4 &&& 858993459) = z4 (zb2 a) (zb2 b) (zb2 c) (zb2 d) := by
    rw [e2, m2, land_4 a3 b3 c3 d3 (by omega), land_4 (by omega) (by omega) (by omega) (by omega) (by omega), a4 _ (by omega), b4 _ (by omega), c4 _ (by omega)]
    unfold z4 zb2; omega
  have l3 := z4_lt (show zb2 a < 256 by omega) (show zb2 b < 256 by omega) (show zb2 c < 256 by omega) (show zb2 d < 256 by omega)
  -- stage 3
  have e3 : z4 (zb2 a) (zb2 b) (zb2 c) (zb2 d) + z4 (zb2 a) (zb2 b) (zb2 c) (zb2 d) / 16 = z4 (zb2 a + zb2 a / 16 + 16 * (zb2 b % 16)) (zb2 b + zb2 b / 16 + 16 * (zb2 c % 16)) (zb2 c + zb2 c / 16 + 16 * (zb2 d % 16)) (zb2 d + zb2 d / 16) := by unfold z4; omega
  have d0 : (zb2 d + zb2 d / 16) &&& 15 = zb3 d := rfl
  have s3 : (z4 (zb2 a) (zb2 b) (zb2 c) (zb2 d) + z4 (zb2 a) (zb2 b) (zb2 c) (zb2 d) / 16) &&& 252645135 = z4 (zb3 a) (zb3 b) (zb3 c) (zb3 d) := by
    rw [e3, m3, land_4 (by omega) (by omega) (by omega) (by omega) (by omega), a7 _ (by omega), b7 _ (by omega), c7 _ (by omega), d0]
  have l5 := z4_lt (show zb3 a < 256 by omega) (show zb3 b < 256 by omega) (show zb3 c < 256 by omega) (show zb3 d < 256 by omega)
  refine ⟨_, _, _, _, _, le1, rfl, by rw [v1e]; exact l1, rfl, ?_, rfl, ?_, rfl, ?_, rfl, ?_⟩
  · rw [v1e, s2]; exact l3
  · rw [v1e, s2, s3]; exact l5
  · rw [v1e, s2, s3]; unfold z4; omega
  · rw [v1e, s2, s3]
    have : (63 : Nat) = 2 ^ 6 - 1 := rfl
    rw [this, Nat.and_two_pow_sub_one_eq_mod]
    exact z4_sum a8 b8 c8 d8
theorem cnt_split (f : Nat → Bool) (m k : Nat) : ((List.range (m + k)).filter f).length = ((List.range m).filter f).length + ((List.range k).filter fun i => f (m + i)).length := by
  induction k with
  | zero => rfl
  | succ k ih =>
    rw [← Nat.add_assoc, List.range_succ, List.filter_append, List.length_append, ih, List.range_succ, List.filter_append, List.length_append]
    have e1 : (List.filter f [m + k]).length = if f (m + k) = true then 1 else 0 := by
      cases h : f (m + k)
      · rw [List.filter_cons_of_neg (by rw [h]; exact Bool.noConfusion)]; rfl
      · rw [List.filter_cons_of_pos h]; rfl
    have e2 : (List.filter (fun i => f (m + i)) [k]).length = if f (m + k) = true then 1 else 0 := by
      cases h : f (m + k)
      · rw [List.filter_cons_of_neg (by show ¬ f (m + k) = true; rw [h]; exact Bool.noConfusion)]; rfl
      · rw [List.filter_cons_of_pos (p := fun i => f (m + i)) h]; rfl
    rw [e1, e2]; omega
/-- how many bits are set -/
def zPc (x : Int32) : Nat := ((List.range 32).filter fun i => x.toBitVec.getLsbD i).length
theorem zPc_z4 {a b c d : Nat} (ha : a < 256) (hb : b < 256) (hc : c < 256) (hd : d < 256) : zPc (iN (z4 a b c d)) = zb3 a + zb3 b + zb3 c + zb3 d := by
  have hg : ∀ i, i < 32 → (iN (z4 a b c d)).toBitVec.getLsbD i = (z4 a b c d).testBit i := by
    intro i hi
    show (BitVec.ofNat 32 (z4 a b c d)).getLsbD i = _
    rw [BitVec.getLsbD_ofNat, decide_eq_true hi, Bool.true_and]
  have e0 : zPc (iN (z4 a b c d)) = ((List.range 32).filter fun i => (z4 a b c d).testBit i).length := by
    unfold zPc
    congr 1
    exact List.filter_congr (fun i hi => hg i (List.mem_range.mp hi))
  have t8 : ∀ x y i, y < 256 → (256 * x + y).testBit i = if i < 8 then y.testBit i else x.testBit (i - 8) := fun x y i hy => Nat.testBit_two_pow_mul_add (i := 8) x (b := y) hy i
  have lo : ∀ x y, y < 256 → ((List.range 8).filter fun i => (256 * x + y).testBit i).length = zb3 y := by
    intro x y hy
    rw [(zb_at hy).2.2.2.2.2.2.2.2]
    congr 1
    refine List.filter_congr (fun i hi => ?_)
    rw [t8 x y i hy, if_pos (List.mem_range.mp hi)]
  have hi : ∀ x y k, y < 256 → ((List.range k).filter fun i => (256 * x + y).testBit (8 + i)).length = ((List.range k).filter fun i => x.testBit i).length := by
    intro x y k hy
    congr 1
    refine List.filter_congr (fun i _ => ?_)
    rw [t8 x y (8 + i) hy, if_neg (by omega), Nat.add_sub_cancel_left]
  have p : ∀ x y k, y < 256 → ((List.range (8 + k)).filter fun i => (256 * x + y).testBit i).length = zb3 y + ((List.range k).filter fun i => x.testBit i).length := by
    intro x y k hy
    rw [cnt_split, lo x y hy, hi x y k hy]
  rw [e0]
  unfold z4
  rw [show (32 : Nat) = 8 + 24 from rfl, p _ _ 24 ha, show (24 : Nat) = 8 + 16 from rfl, p _ _ 16 hb, show (16 : Nat) = 8 + 8 from rfl, p _ _ 8 hc]
  have hz := lo 0 d hd
  rw [Nat.mul_zero, Nat.zero_add] at hz
  rw [hz]; omega
theorem c_bitCount (K : px_K) (N : Nat) (x : Int32) (s : px_S) (t : px_W) : f_Integer_bitCount K N x s t = some (.inl (some (.int (iN (zPc x)))), s, t) := by
  have hx := iN_u32 x
  have hlt : u32 x < 4294967296 := x.toBitVec.isLt
  obtain ⟨n, hn⟩ : ∃ n, n = u32 x := ⟨_, rfl⟩
  rw [← hn] at hx hlt
  have e4 : n = z4 (n % 256) (n / 256 % 256) (n / 65536 % 256) (n / 16777216) := by unfold z4; omega
  obtain ⟨a, ha⟩ : ∃ a, a = n % 256 := ⟨_, rfl⟩
  obtain ⟨b, hb⟩ : ∃ b, b = n / 256 % 256 := ⟨_, rfl⟩
  obtain ⟨c, hc⟩ : ∃ c, c = n / 65536 % 256 := ⟨_, rfl⟩
  obtain ⟨d, hd⟩ : ∃ d, d = n / 16777216 := ⟨_, rfl⟩
  have la : a < 256 := by omega
  have lb : b < 256 := by omega
  have lc : c < 256 := by omega
  have ld : d < 256 := by omega
  rw [← ha, ← hb, ← hc, ← hd] at e4
  obtain ⟨v1, v3, v5, v7, v9, h0, h1, h1', h3, h3', h5, h5', h7, h7', h9, h10⟩ := bc_nat la lb lc ld
  rw [← e4] at h0 h1
  have hpc := zPc_z4 la lb lc ld
  rw [← e4, ← hx] at hpc
  rw [hpc, hx]
  unfold f_Integer_bitCount
  rw [sh1, sh2, sh4, sh8, sh16]
  have k1 : iN n - (((iN n).toUInt32 >>> UInt32.ofNat 1).toInt32 &&& (1431655765 : Int32)) = iN v1 := by
    rw [iN_ushr hlt (by omega)]
    show iN n - (iN (n / 2 ^ 1) &&& iN 1431655765) = _
    rw [iN_and, h1]
    exact iN_sub h0
  have k3 : (iN v1 &&& (858993459 : Int32)) + (((iN v1).toUInt32 >>> UInt32.ofNat 2).toInt32 &&& (858993459 : Int32)) = iN v3 := by
    rw [iN_ushr h1' (by omega)]
    show (iN v1 &&& iN 858993459) + (iN (v1 / 2 ^ 2) &&& iN 858993459) = _
    rw [iN_and, iN_and, iN_add, h3]
  have k5 : (iN v3 + ((iN v3).toUInt32 >>> UInt32.ofNat 4).toInt32) &&& (252645135 : Int32) = iN v5 := by
    rw [iN_ushr h3' (by omega), iN_add]
    show iN (v3 + v3 / 2 ^ 4) &&& iN 252645135 = _
    rw [iN_and, h5]
  have k7 : iN v5 + ((iN v5).toUInt32 >>> UInt32.ofNat 8).toInt32 = iN v7 := by
    rw [iN_ushr h5' (by omega), iN_add, h7]
  have k9 : iN v7 + ((iN v7).toUInt32 >>> UInt32.ofNat 16).toInt32 = iN v9 := by
    rw [iN_ushr h7' (by omega), iN_add, h9]
  rw [k1]
  show px_let _ _ = _
  obtain ⟨r, e1, e2⟩ : wp (px_let ((iN v1 &&& (858993459 : Int32)) + (((iN v1).toUInt32 >>> UInt32.ofNat 2).toInt32 &&& (858993459 : Int32))) (fun v3 => (px_let ((v3 + ((v3.toUInt32 >>> UInt32.ofNat 4).toInt32)) &&& (252645135 : Int32)) (fun v5 => (px_let (v5 + ((v5.toUInt32 >>> UInt32.ofNat 8).toInt32)) (fun v7 => (px_let (v7 + ((v7.toUInt32 >>> UInt32.ofNat 16).toInt32)) (fun v9 => (some ((.inl (some (.int (v9 &&& (63 : Int32)))), s, t) : px_Res)))))))))) (fun r => r = (.inl (some (.int (iN (zb3 a + zb3 b + zb3 c + zb3 d)))), s, t)) := by
    rw [k3]
    refine wp_let ?_
    rw [k5]
    refine wp_let ?_
    rw [k7]
    refine wp_let ?_
    rw [k9]
    refine wp_let (wp_some ?_)
    rw [← h10]
    show (Sum.inl (some (Value.int (iN v9 &&& iN 63))), s, t) = _
    rw [iN_and]
  rw [← e2]; exact e1

/-! THE CLASS: what the tree holds -/
def zCx (s : px_S) (W : ZSt) : Prop := ∀ b w, 29 ≤ b → b < 106 → w < 16 → s.2.2.1 23 (16 * b + w) = W b w
theorem c_inodeWord (K : px_K) (N n sets : Nat) (hK : zKc K n sets) (t : px_W) {s : px_S} {W : ZSt} (h : zCx s W) (i w : Nat) (hi : i < 24) (hw : w < 8) : f_T_inodeWord_22 K N (iN i) (iN w) s t = some (.inl (some (.int (tI W i w))), s, t) := by
  have k23 : K.2.2 23 = 1696 := hK.2.2.2.2.2.2.2.2.2.2.2.2.2.2.2.1
  unfold f_T_inodeWord_22
  have e : ((480 : Int32) + (8 : Int32) * iN i) + iN w = iN (480 + 8 * i + w) := by
    show (iN 480 + iN 8 * iN i) + iN w = _
    rw [iN_mul, iN_add, iN_add]
  rw [e, if_neg (iN_neg (by omega)), if_neg (by show ¬ iN 24 ≤ iN i; rw [iN_le (by omega) (by omega)]; omega), if_neg (iN_neg (by omega)), if_pos (by show iN w < iN 8; rw [iN_lt (by omega) (by omega)]; exact hw), px_gd_of (by rw [k23]; exact iN_in (by omega) (by omega)), iN_nat (by omega)]
  have := h (30 + i / 2) (8 * (i % 2) + w) (by omega) (by omega) (by omega)
  rw [show 16 * (30 + i / 2) + (8 * (i % 2) + w) = 480 + 8 * i + w by omega] at this
  rw [this]; rfl
theorem c_inode0 (K : px_K) (N n sets : Nat) (hK : zKc K n sets) (t : px_W) {s : px_S} {W : ZSt} (h : zCx s W) (x : Int32) : f_T_inodeWord_22 K N x (0 : Int32) s t = some (.inl (some (.int (if 0 ≤ x ∧ x < 24 then tI W (n32 x) 0 else 0))), s, t) := by
  by_cases hc : 0 ≤ x ∧ x < 24
  · obtain ⟨h1, h2⟩ := i32_24 hc.1 hc.2
    have := c_inodeWord K N n sets hK t h (n32 x) 0 h2 (by omega)
    rw [← h1] at this
    rw [if_pos hc]; exact this
  · rw [if_neg hc]
    unfold f_T_inodeWord_22
    by_cases h1 : x < 0
    · rw [if_pos h1]
    · rw [if_neg h1, if_pos (Int32.not_lt.mp (fun h2 => hc ⟨Int32.not_lt.mp h1, h2⟩))]
theorem c_isDir (K : px_K) (N n sets : Nat) (hK : zKc K n sets) (t : px_W) {s : px_S} {W : ZSt} (h : zCx s W) (x : Int32) : f_T_isDirectory_22 K N x s t = some (.inl (some (.int (bN (zKb W x 1)))), s, t) := by
  unfold f_T_isDirectory_22
  rw [c_inode0 K N n sets hK t h x]
  show some (Sum.inl (some (Value.int (if ¬ (if 0 ≤ x ∧ x < 24 then tI W (n32 x) 0 else 0) = 1 then 0 else 1))), s, t) = _
  cases hk : zKb W x 1 with
  | true =>
    obtain ⟨h1, h2, h3⟩ := zKb_iff.mp hk
    rw [if_pos (c := 0 ≤ x ∧ x < 24) ⟨h1, h2⟩, if_neg (fun hx => hx h3)]; rfl
  | false =>
    have hn := zKb_no hk
    by_cases hc : 0 ≤ x ∧ x < 24
    · rw [if_pos (c := 0 ≤ x ∧ x < 24) hc, if_pos (fun hx => hn ⟨hc.1, hc.2, hx⟩)]; rfl
    · rw [if_neg (c := 0 ≤ x ∧ x < 24) hc, if_pos (by decide)]; rfl
theorem c_isFile (K : px_K) (N n sets : Nat) (hK : zKc K n sets) (t : px_W) {s : px_S} {W : ZSt} (h : zCx s W) (x : Int32) : f_T_isFile_22 K N x s t = some (.inl (some (.int (bN (zKb W x 2)))), s, t) := by
  unfold f_T_isFile_22
  rw [c_inode0 K N n sets hK t h x]
  show some (Sum.inl (some (Value.int (if ¬ (if 0 ≤ x ∧ x < 24 then tI W (n32 x) 0 else 0) = 2 then 0 else 1))), s, t) = _
  cases hk : zKb W x 2 with
  | true =>
    obtain ⟨h1, h2, h3⟩ := zKb_iff.mp hk
    rw [if_pos (c := 0 ≤ x ∧ x < 24) ⟨h1, h2⟩, if_neg (fun hx => hx h3)]; rfl
  | false =>
    have hn := zKb_no hk
    by_cases hc : 0 ≤ x ∧ x < 24
    · rw [if_pos (c := 0 ≤ x ∧ x < 24) hc, if_pos (fun hx => hn ⟨hc.1, hc.2, hx⟩)]; rfl
    · rw [if_neg (c := 0 ≤ x ∧ x < 24) hc, if_pos (by decide)]; rfl
theorem c_placesOf (K : px_K) (N n sets : Nat) (hK : zKc K n sets) (t : px_W) {s : px_S} {W : ZSt} (h : zCx s W) (hw : ZWa W) (d : Nat) (hd : d < 24) (hk : tI W d 0 = 1) : f_T_placesOf_22 K N (iN d) s t = some (.inl (some (.int (iN (tS W d)))), s, t) := by
  obtain ⟨m, m1, m2, m3, _⟩ := hw.dsz hd hk
  have hi := c_inodeWord K N n sets hK t h d 1 hd (by omega)
  rw [m3, ← m2] at hi
  have hs : tS W d ≤ 160 := by omega
  obtain ⟨r, e1, e2⟩ : wp (f_T_placesOf_22 K N (iN d) s t) (fun r => r = (.inl (some (.int (iN (tS W d)))), s, t)) := by
    unfold f_T_placesOf_22
    refine wp_bi hi (wp_bi (v := iN (tS W d)) (s := s) (t := t) ?_ (wp_bi (v := iN (tS W d)) (s := s) (t := t) ?_ (wp_some rfl)))
    · unfold f_Math_min
      by_cases hc : tS W d < 160
      · rw [if_pos (by show iN _ < iN 160; rw [iN_lt (by omega) (by omega)]; exact hc)]
      · rw [if_neg (by show ¬ iN _ < iN 160; rw [iN_lt (by omega) (by omega)]; exact hc), show tS W d = 160 by omega]; rfl
    · unfold f_Math_max
      by_cases hc : 0 < tS W d
      · rw [if_pos (by show iN 0 < iN _; rw [iN_lt (by omega) (by omega)]; exact hc)]
      · rw [if_neg (by show ¬ iN 0 < iN _; rw [iN_lt (by omega) (by omega)]; exact hc), show tS W d = 0 by omega]; rfl
  rw [e1, e2]
theorem c_blockNumber (K : px_K) (N : Nat) (t : px_W) (s : px_S) (b : Nat) (hb : b = 0 ∨ (42 ≤ b ∧ b < 106)) : f_T_blockNumber_22 K N (iN b) s t = some (.inl (some (.int (iN b))), s, t) := by
  unfold f_T_blockNumber_22
  rcases hb with rfl | ⟨h1, h2⟩
  · rfl
  · rw [if_neg (by show ¬ iN b < iN 42; rw [iN_lt (by omega) (by omega)]; omega), if_neg (by show ¬ iN 106 ≤ iN b; rw [iN_le (by omega) (by omega)]; omega)]
theorem c_indirectOf (K : px_K) (N n sets : Nat) (hK : zKc K n sets) (t : px_W) {s : px_S} {W : ZSt} (h : zCx s W) (hw : zPv W) (i : Nat) (hi : i < 24) : f_T_indirectOf_22 K N (iN i) s t = some (.inl (some (.int (iN (tF W i)))), s, t) := by
  have h6 := c_inodeWord K N n sets hK t h i 6 hi (by omega)
  obtain ⟨p1, p2⟩ := hw i 20 hi (by omega)
  have e6 : tI W i 6 = iN (tF W i) := by rw [tF_eq]; exact p1
  rw [e6] at h6
  rw [← tF_eq] at p2
  have h6 : f_T_inodeWord_22 K N (iN i) (6 : Int32) s t = _ := h6
  obtain ⟨r, e1, e2⟩ : wp (f_T_indirectOf_22 K N (iN i) s t) (fun r => r = (.inl (some (.int (iN (tF W i)))), s, t)) := by
    unfold f_T_indirectOf_22
    exact wp_bi h6 (wp_bi (c_blockNumber K N t s _ p2) (wp_some rfl))
  rw [e1, e2]
theorem c_blockOf (K : px_K) (N n sets : Nat) (hK : zKc K n sets) (t : px_W) {s : px_S} {W : ZSt} (h : zCx s W) (hw : zPv W) (i k : Nat) (hi : i < 24) (hk : k < 20) : f_T_blockOf_22 K N (iN i) (iN k) s t = some (.inl (some (.int (iN (tB W i k)))), s, t) := by
  obtain ⟨p1, p2⟩ := hw i k hi (by omega)
  obtain ⟨r, e1, e2⟩ : wp (f_T_blockOf_22 K N (iN i) (iN k) s t) (fun r => r = (.inl (some (.int (iN (tB W i k)))), s, t)) := by
    unfold f_T_blockOf_22
    by_cases h4 : k < 4
    · have e : (2 : Int32) + iN k = iN (2 + k) := iN_add 2 k
      have hi2 := c_inodeWord K N n sets hK t h i (2 + k) hi (by omega)
      have ep : tI W i (2 + k) = iN (tB W i k) := by
        rw [← p1]; unfold tP; rw [if_pos h4]
      rw [ep] at hi2
      rw [e]
      exact wp_ifn (by show ¬ iN 4 ≤ iN k; rw [iN_le (by omega) (by omega)]; omega) (wp_bi hi2 (wp_bi (c_blockNumber K N t s _ p2) (wp_some rfl)))
    · have e : iN k - (4 : Int32) = iN (k - 4) := iN_sub (b := 4) (by omega)
      rw [e]
      refine wp_if (by show iN 4 ≤ iN k; rw [iN_le (by omega) (by omega)]; omega) (wp_bi (c_indirectOf K N n sets hK t h hw i hi) ?_)
      obtain ⟨q1, q2⟩ := hw i 20 hi (by omega)
      rw [← tF_eq] at q2
      by_cases hf : tF W i = 0
      · have ep : tB W i k = 0 := by
          unfold tB tP; rw [if_neg h4, if_neg (by omega), if_pos hf]; rfl
        rw [hf, ep]
        exact wp_ifn (fun hx => hx rfl) (wp_some rfl)
      · have ep : W (tF W i) (k - 4) = iN (tB W i k) := by
          rw [← p1]; unfold tP; rw [if_neg h4, if_neg (by omega), if_neg hf]
        refine wp_if (by rw [iL0, iN_eq (by omega) (by omega)]; exact hf) ?_
        have hat := c_Tat K N n sets hK t s (tF W i) (k - 4) (by omega) (by omega)
        rw [h (tF W i) (k - 4) (by omega) (by omega) (by omega), ep] at hat
        exact wp_bi hat (wp_bi (c_blockNumber K N t s _ p2) (wp_some rfl))
  rw [e1, e2]
theorem iN_p8 {p : Nat} (hp : p < 2147483648) : iN p / (8 : Int32) = iN (p / 8) ∧ (2 : Int32) * (iN p - iN p / (8 : Int32) * (8 : Int32)) = iN (2 * (p % 8)) := by
  have e8 : (8 : Int32) = iN 8 := rfl
  rw [e8, iN_rem hp (by omega) (by omega), iN_div hp (by omega) (by omega)]
  refine ⟨rfl, ?_⟩
  show iN 2 * iN (p % 8) = _
  rw [iN_mul]
theorem c_entryWord (K : px_K) (N n sets : Nat) (hK : zKc K n sets) (t : px_W) {s : px_S} {W : ZSt} (h : zCx s W) (hw : ZWa W) (d p w : Nat) (hd : d < 24) (hk : tI W d 0 = 1) (hp : p < tS W d) (hw2 : w < 2) : f_T_entryWord_22 K N (iN d) (iN p) (iN w) s t = some (.inl (some (.int (W (tB W d (p / 8)) (2 * (p % 8) + w)))), s, t) := by
  obtain ⟨b0, b1, b2, b3⟩ := zdir_blk hw hd hk hp
  obtain ⟨e1, e2⟩ := iN_p8 (p := p) (by omega)
  unfold f_T_entryWord_22
  rw [e1, c_blockOf K N n sets hK t h hw.pv d (p / 8) hd b1, ← e1, e2, iN_add]
  show px_bi (f_T_at_22 K N (iN (tB W d (p / 8))) (iN (2 * (p % 8) + w)) s t) _ _ = _
  rw [c_Tat K N n sets hK t s _ _ b3 (by omega), h _ _ (by omega) b3 (by omega)]; rfl
theorem c_nameAt (K : px_K) (N n sets : Nat) (hK : zKc K n sets) (t : px_W) {s : px_S} {W : ZSt} (h : zCx s W) (hw : ZWa W) (d p : Nat) (hd : d < 24) (hk : tI W d 0 = 1) (hp : p < tS W d) : f_T_entryWord_22 K N (iN d) (iN p) (0 : Int32) s t = some (.inl (some (.int (tN W d p))), s, t) := c_entryWord K N n sets hK t h hw d p 0 hd hk hp (by omega)
theorem c_inodeAt (K : px_K) (N n sets : Nat) (hK : zKc K n sets) (t : px_W) {s : px_S} {W : ZSt} (h : zCx s W) (hw : ZWa W) (d p : Nat) (hd : d < 24) (hk : tI W d 0 = 1) (hp : p < tS W d) : f_T_entryWord_22 K N (iN d) (iN p) (1 : Int32) s t = some (.inl (some (.int (tE W d p))), s, t) := c_entryWord K N n sets hK t h hw d p 1 hd hk hp (by omega)
theorem c_placeOf_loop (K : px_K) (N n sets : Nat) (hK : zKc K n sets) (t : px_W) {s : px_S} {W : ZSt} (h : zCx s W) (hw : ZWa W) (d : Nat) (hd : d < 24) (hk : tI W d 0 = 1) (x : Int32) : ∀ (k p f : Nat), p + k = tS W d → k < f → (∀ q, q < p → tN W d q ≠ x) → (zPl W d x = none ∧ l_T_placeOf_22_2 K N f (iN d) x (iN p) s t = some (.inl (18, [], s, t))) ∨ (∃ q, zPl W d x = some q ∧ l_T_placeOf_22_2 K N f (iN d) x (iN p) s t = some (.inl (14, [iN q], s, t))) := by
  have hpl := c_placesOf K N n sets hK t h hw d hd hk
  obtain ⟨m, m1, m2, _⟩ := hw.dsz hd hk
  intro k
  induction k with
  | zero =>
    intro p f hp hf hno
    obtain ⟨f, rfl⟩ : ∃ f', f = f' + 1 := ⟨f - 1, by omega⟩
    refine Or.inl ⟨?_, ?_⟩
    · cases hx : zPl W d x with
      | none => rfl
      | some q =>
        obtain ⟨q1, q2⟩ := zPl_some hx
        exact absurd q2 (hno q (by omega))
    · unfold l_T_placeOf_22_2
      rw [hpl]
      show (if iN (tS W d) ≤ iN p then _ else _) = _
      rw [if_pos (by rw [iN_le (by omega) (by omega)]; omega)]
  | succ k ih =>
    intro p f hp hf hno
    obtain ⟨f, rfl⟩ : ∃ f', f = f' + 1 := ⟨f - 1, by omega⟩
    have hn := c_nameAt K N n sets hK t h hw d p hd hk (by omega)
    have e3 : iN p + (1 : Int32) = iN (p + 1) := by rw [iL1, iN_add]
    have step : l_T_placeOf_22_2 K N (f + 1) (iN d) x (iN p) s t = if ¬ tN W d p = x then l_T_placeOf_22_2 K N f (iN d) x (iN (p + 1)) s t else some (.inl (14, [iN p], s, t)) := by
      conv => lhs; unfold l_T_placeOf_22_2
      rw [hpl]
      show (if iN (tS W d) ≤ iN p then _ else px_bi (f_T_entryWord_22 K N (iN d) (iN p) 0 s t) _ _) = _
      rw [if_neg (by rw [iN_le (by omega) (by omega)]; omega), hn, e3]
      rfl
    rw [step]
    by_cases hx : tN W d p = x
    · rw [if_neg (fun hy => hy hx)]
      exact Or.inr ⟨p, zPl_eq (by omega) hx hno, rfl⟩
    · rw [if_pos hx]
      exact ih (p + 1) f (by omega) (by omega) (fun q hq => by
        by_cases hqp : q = p
        · rw [hqp]; exact hx
        · exact hno q (by omega))
theorem c_placeOf (K : px_K) (N n sets : Nat) (hN : 2000 ≤ N) (hK : zKc K n sets) (t : px_W) {s : px_S} {W : ZSt} (h : zCx s W) (hw : ZWa W) (d : Nat) (hd : d < 24) (hk : tI W d 0 = 1) (x : Int32) : f_T_placeOf_22 K N (iN d) x s t = some (.inl (some (.int (oN (zPl W d x)))), s, t) := by
  obtain ⟨m, m1, m2, _⟩ := hw.dsz hd hk
  have hl := c_placeOf_loop K N n sets hK t h hw d hd hk x (tS W d) 0 N (by omega) (by omega) (fun q hq => absurd hq (Nat.not_lt_zero _))
  unfold f_T_placeOf_22
  rcases hl with ⟨h1, h2⟩ | ⟨q, h1, h2⟩
  · have h2 : l_T_placeOf_22_2 K N N (iN d) x (0 : Int32) s t = _ := h2
    rw [h2, h1]; rfl
  · have h2 : l_T_placeOf_22_2 K N N (iN d) x (0 : Int32) s t = _ := h2
    rw [h2, h1]; rfl
theorem c_freeInode_loop (K : px_K) (N n sets : Nat) (hK : zKc K n sets) (t : px_W) {s : px_S} {W : ZSt} (h : zCx s W) : ∀ (k p f : Nat), p + k = 24 → k < f → (∀ q, q < p → tI W q 0 ≠ 0) → (zFi W = none ∧ l_T_freeInode_22_2 K N f (iN p) s t = some (.inl (14, [], s, t))) ∨ (∃ q, zFi W = some q ∧ l_T_freeInode_22_2 K N f (iN p) s t = some (.inl (10, [iN q], s, t))) := by
  intro k
  induction k with
  | zero =>
    intro p f hp hf hno
    obtain ⟨f, rfl⟩ : ∃ f', f = f' + 1 := ⟨f - 1, by omega⟩
    have hp : p = 24 := by omega
    subst hp
    refine Or.inl ⟨?_, ?_⟩
    · cases hx : zFi W with
      | none => rfl
      | some q =>
        have q1 := List.mem_range.mp (List.mem_of_find?_eq_some hx)
        have q2 : decide (tI W q 0 = 0) = true := List.find?_some (p := fun i => decide (tI W i 0 = 0)) hx
        exact absurd (of_decide_eq_true q2) (hno q q1)
    · unfold l_T_freeInode_22_2
      rw [if_pos (by decide)]
  | succ k ih =>
    intro p f hp hf hno
    obtain ⟨f, rfl⟩ : ∃ f', f = f' + 1 := ⟨f - 1, by omega⟩
    have hn := c_inodeWord K N n sets hK t h p 0 (by omega) (by omega)
    have hn : f_T_inodeWord_22 K N (iN p) (0 : Int32) s t = _ := hn
    have e3 : iN p + (1 : Int32) = iN (p + 1) := by rw [iL1, iN_add]
    have step : l_T_freeInode_22_2 K N (f + 1) (iN p) s t = if ¬ tI W p 0 = 0 then l_T_freeInode_22_2 K N f (iN (p + 1)) s t else some (.inl (10, [iN p], s, t)) := by
      conv => lhs; unfold l_T_freeInode_22_2
      rw [if_neg (by show ¬ iN 24 ≤ iN p; rw [iN_le (by omega) (by omega)]; omega), hn, e3]
      rfl
    rw [step]
    by_cases hx : tI W p 0 = 0
    · rw [if_neg (fun hy => hy hx)]
      refine Or.inr ⟨p, ?_, rfl⟩
      unfold zFi
      cases hf2 : (List.range 24).find? fun i => decide (tI W i 0 = 0) with
      | none =>
        have := List.find?_eq_none.mp hf2 p (List.mem_range.mpr (by omega))
        rw [decide_eq_true hx] at this
        exact absurd rfl this
      | some q =>
        have q2 : decide (tI W q 0 = 0) = true := List.find?_some (p := fun i => decide (tI W i 0 = 0)) hf2
        have q3 := zfind_first hf2
        by_cases hqp : q < p
        · exact absurd (of_decide_eq_true q2) (hno q hqp)
        · by_cases hpq : p < q
          · have := q3 p hpq
            rw [decide_eq_true hx] at this; cases this
          · rw [show q = p by omega]
    · rw [if_pos hx]
      exact ih (p + 1) f (by omega) (by omega) (fun q hq => by
        by_cases hqp : q = p
        · rw [hqp]; exact hx
        · exact hno q (by omega))
theorem c_freeInode (K : px_K) (N n sets : Nat) (hN : 2000 ≤ N) (hK : zKc K n sets) (t : px_W) {s : px_S} {W : ZSt} (h : zCx s W) : f_T_freeInode_22 K N s t = some (.inl (some (.int (oN (zFi W)))), s, t) := by
  have hl := c_freeInode_loop K N n sets hK t h 24 0 N (by omega) (by omega) (fun q hq => absurd hq (Nat.not_lt_zero _))
  unfold f_T_freeInode_22
  rcases hl with ⟨h1, h2⟩ | ⟨q, h1, h2⟩
  · have h2 : l_T_freeInode_22_2 K N N (0 : Int32) s t = _ := h2
    rw [h2, h1]; rfl
  · have h2 : l_T_freeInode_22_2 K N N (0 : Int32) s t = _ := h2
    rw [h2, h1]; rfl
theorem cnt_not (f : Nat → Bool) (m : Nat) : ((List.range m).filter f).length + ((List.range m).filter fun i => !f i).length = m := by
  induction m with
  | zero => rfl
  | succ m ih =>
    rw [List.range_succ, List.filter_append, List.filter_append, List.length_append, List.length_append]
    cases h : f m
    · rw [List.filter_cons_of_neg (by rw [h]; exact Bool.noConfusion), List.filter_cons_of_pos (p := fun i => !f i) (by show (!f m) = true; rw [h]; rfl)]
      simp; omega
    · rw [List.filter_cons_of_pos h, List.filter_cons_of_neg (p := fun i => !f i) (by show ¬ (!f m) = true; rw [h]; exact Bool.noConfusion)]
      simp; omega
theorem zLeft_pc (W : ZSt) : zPc (W 29 0) + zPc (W 29 1) + zLeft W = 64 := by
  have h1 := cnt_not (tU W) 64
  have h2 := cnt_split (tU W) 32 32
  have e1 : ((List.range 32).filter (tU W)).length = zPc (W 29 0) := by
    unfold zPc
    refine congrArg List.length (List.filter_congr (fun i hi => ?_))
    have hi := List.mem_range.mp hi
    unfold tU
    rw [show i / 32 = 0 by omega, show i % 32 = i by omega]
  have e2 : ((List.range 32).filter fun i => tU W (32 + i)).length = zPc (W 29 1) := by
    unfold zPc
    refine congrArg List.length (List.filter_congr (fun i hi => ?_))
    have hi := List.mem_range.mp hi
    unfold tU
    rw [show (32 + i) / 32 = 1 by omega, show (32 + i) % 32 = i by omega]
  rw [e1, e2] at h2
  have h2 : ((List.range 64).filter (tU W)).length = _ := h2
  unfold zLeft
  omega
theorem c_usedBlocks (K : px_K) (N n sets : Nat) (hK : zKc K n sets) (t : px_W) {s : px_S} {W : ZSt} (h : zCx s W) : f_T_usedBlocks_22 K N s t = some (.inl (some (.int (iN (64 - zLeft W)))), s, t) := by
  have h0 := c_Tat K N n sets hK t s 29 0 (by omega) (by omega)
  have h1 := c_Tat K N n sets hK t s 29 1 (by omega) (by omega)
  rw [h 29 0 (by omega) (by omega) (by omega)] at h0
  rw [h 29 1 (by omega) (by omega) (by omega)] at h1
  have h0 : f_T_at_22 K N (29 : Int32) (0 : Int32) s t = _ := h0
  have h1 : f_T_at_22 K N (29 : Int32) (1 : Int32) s t = _ := h1
  have hz := zLeft_pc W
  obtain ⟨r, e1, e2⟩ : wp (f_T_usedBlocks_22 K N s t) (fun r => r = (.inl (some (.int (iN (64 - zLeft W)))), s, t)) := by
    unfold f_T_usedBlocks_22
    refine wp_bi h0 (wp_bi (c_bitCount K N _ s t) (wp_bi h1 (wp_bi (c_bitCount K N _ s t) (wp_some ?_))))
    rw [iN_add, show zPc (W 29 0) + zPc (W 29 1) = 64 - zLeft W by omega]
  rw [e1, e2]

