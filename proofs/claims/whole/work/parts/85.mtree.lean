/-! THE TREE'S WORDS, READ (the reference) -/
theorem iN_half {i : Nat} (h : i < 2147483648) : (30 : Int32) + iN i / (2 : Int32) = iN (30 + i / 2) := by
  have h2 : (2 : Int32) = iN 2 := rfl
  have h30 : (30 : Int32) = iN 30 := rfl
  rw [h2, h30, iN_div h (by omega) (by omega), iN_add]
theorem iN_odd {i w : Nat} (h : i < 2147483648) : (8 : Int32) * (iN i - iN i / (2 : Int32) * (2 : Int32)) + iN w = iN (8 * (i % 2) + w) := by
  have h2 : (2 : Int32) = iN 2 := rfl
  have h8 : (8 : Int32) = iN 8 := rfl
  rw [h2, h8, iN_rem h (by omega) (by omega), iN_mul, iN_add]
theorem m_ofInode (K : px_K) (N : Nat) (hK : zKm K) (t : px_W) {s : px_S} {W : ZSt} (h : zWs s W) (i w : Nat) (hi : i < 24) (hw : w < 8) : f_M_ofInode_28 K N (iN i) (iN w) s t = some (.inl (some (.int (tI W i w))), s, t) := by
  unfold f_M_ofInode_28
  rw [iN_half (by omega), iN_odd (by omega), zWs_word K N hK t h _ _ (by omega) (by omega)]
  rfl
/-- an inode of this kind -/
def zKd (W : ZSt) (x : Int32) (k : Int32) : Prop := 0 ≤ x ∧ x < 24 ∧ tI W (n32 x) 0 = k
theorem i32_24 {x : Int32} (h0 : 0 ≤ x) (h1 : x < 24) : x = iN (n32 x) ∧ n32 x < 24 := by
  have hn : x = iN (n32 x) := by
    by_cases hz : 0 < n32 x
    · exact (iN_n32 hz).symm
    · have e : n32 x = 0 := by omega
      rw [e]
      have : x ≤ iN 0 := (n32_le (by omega)).mpr (by omega)
      exact Int32.le_antisymm this h0
  refine ⟨hn, ?_⟩
  rw [hn] at h1
  have h24 : (24 : Int32) = iN 24 := rfl
  rw [h24, iN_lt (n32_lt x) (by omega)] at h1
  exact h1
theorem m_isKind (K : px_K) (N : Nat) (hK : zKm K) (t : px_W) {s : px_S} {W : ZSt} (h : zWs s W) (x k : Int32) : ∃ g : Bool, (g = true ↔ zKd W x k) ∧ f_M_isKind_28 K N x k s t = some (.inl (some (.int (bN g))), s, t) := by
  unfold f_M_isKind_28
  by_cases h0 : x < 0
  · rw [if_pos h0]
    exact ⟨false, ⟨fun hx => (by cases hx), fun hx => absurd hx.1 (Int32.not_le.mpr h0)⟩, rfl⟩
  rw [if_neg h0]
  by_cases h1 : 24 ≤ x
  · rw [if_pos h1]
    exact ⟨false, ⟨fun hx => (by cases hx), fun hx => absurd hx.2.1 (Int32.not_lt.mpr h1)⟩, rfl⟩
  rw [if_neg h1]
  obtain ⟨e, hlt⟩ := i32_24 (Int32.not_lt.mp h0) (Int32.not_le.mp h1)
  have hr : f_M_ofInode_28 K N x (0 : Int32) s t = some (.inl (some (.int (tI W (n32 x) 0))), s, t) := by
    have := m_ofInode K N hK t h (n32 x) 0 hlt (by omega)
    rw [← e] at this; exact this
  rw [hr]
  show ∃ g : Bool, _ ∧ some ((.inl (some (.int (if ¬ tI W (n32 x) 0 = k then (0 : Int32) else (1 : Int32)))), s, t) : px_Res) = _
  by_cases hk : tI W (n32 x) 0 = k
  · rw [if_neg (fun hx => hx hk)]
    exact ⟨true, ⟨fun _ => ⟨Int32.not_lt.mp h0, Int32.not_le.mp h1, hk⟩, fun _ => rfl⟩, rfl⟩
  · rw [if_pos hk]
    exact ⟨false, ⟨fun hx => (by cases hx), fun hx => absurd hx.2.2 hk⟩, rfl⟩
/-! the map of the used blocks -/
theorem one_bit32 (x : BitVec 32) : x &&& 1#32 = if x.getLsbD 0 = true then 1#32 else 0#32 := by
  apply BitVec.eq_of_getLsbD_eq
  intro i hi
  rw [BitVec.getLsbD_and, BitVec.getLsbD_one]
  by_cases h0 : i = 0
  · subst h0
    cases h : x.getLsbD 0
    · simp
    · simp
  · have h1 : decide (i = 0) = false := by simp [h0]
    cases h : x.getLsbD 0
    · simp [h1]
    · simp [BitVec.getLsbD_one, h1, h0]
theorem sh31b : ∀ j, j < 32 → (iN j &&& 31).toBitVec.smod 32#32 = BitVec.ofNat 32 j := by decide
theorem m_bit32 (x : Int32) (j : Nat) (hj : j < 32) : ((x >>> (iN j &&& 31)) &&& (1 : Int32)) = (if x.toBitVec.getLsbD j = true then 1 else 0) := by
  have e : ((x >>> (iN j &&& 31)) &&& (1 : Int32)) = Int32.ofBitVec ((x.toBitVec.sshiftRight j) &&& 1#32) := by
    apply Int32.toBitVec.inj
    show (x.toBitVec.sshiftRight' ((iN j &&& 31).toBitVec.smod 32#32)) &&& 1#32 = _
    rw [sh31b j hj]
    show (x.toBitVec.sshiftRight (BitVec.ofNat 32 j).toNat) &&& 1#32 = _
    have : (BitVec.ofNat 32 j).toNat = j := by simp; omega
    rw [this]; rfl
  rw [e, one_bit32]
  have hb : (x.toBitVec.sshiftRight j).getLsbD 0 = x.toBitVec.getLsbD j := by
    rw [BitVec.getLsbD_sshiftRight]
    simp [hj]
  rw [hb]
  cases x.toBitVec.getLsbD j
  · rfl
  · rfl
theorem sh_one : ∀ j, j < 32 → ((1 : Int32) <<< (iN j &&& 31)).toBitVec = 1#32 <<< j := by decide
theorem zset_eq (x : Int32) (j : Nat) (hj : j < 32) : x ||| ((1 : Int32) <<< (iN j &&& 31)) = zset x j := by
  apply Int32.toBitVec.inj
  show x.toBitVec ||| ((1 : Int32) <<< (iN j &&& 31)).toBitVec = _
  rw [sh_one j hj]; rfl
theorem zclr_eq (x : Int32) (j : Nat) (hj : j < 32) : x &&& (((1 : Int32) <<< (iN j &&& 31)) ^^^ (-1)) = zclr x j := by
  apply Int32.toBitVec.inj
  show x.toBitVec &&& (((1 : Int32) <<< (iN j &&& 31)).toBitVec ^^^ (-1 : Int32).toBitVec) = _
  rw [sh_one j hj]
  show _ = x.toBitVec &&& ~~~(1#32 <<< j)
  congr 1
  apply BitVec.eq_of_getLsbD_eq
  intro i hi
  have : ∀ i, i < 32 → (-1 : Int32).toBitVec.getLsbD i = true := by decide
  rw [BitVec.getLsbD_xor, this i hi, BitVec.getLsbD_not]
  simp [hi]
theorem iN_q {k : Nat} (hk : k < 64) : (iN (42 + k) - (42 : Int32)) = iN k ∧ iN k / (32 : Int32) = iN (k / 32) ∧ iN k - iN k / (32 : Int32) * (32 : Int32) = iN (k % 32) := by
  have h42 : (42 : Int32) = iN 42 := rfl
  have h32 : (32 : Int32) = iN 32 := rfl
  refine ⟨?_, by rw [h32, iN_div (by omega) (by omega) (by omega)], by rw [h32, iN_rem (by omega) (by omega) (by omega)]⟩
  rw [h42, iN_sub (by omega)]; congr 1; omega
theorem m_isUsed (K : px_K) (N : Nat) (hK : zKm K) (t : px_W) {s : px_S} {W : ZSt} (h : zWs s W) (k : Nat) (hk : k < 64) : f_M_isUsed_28 K N (iN (42 + k)) s t = some (.inl (some (.int (bN (tU W k)))), s, t) := by
  obtain ⟨e1, e2, e3⟩ := iN_q hk
  unfold f_M_isUsed_28
  have hw : f_M_word_28 K N (29 : Int32) (iN (k / 32)) s t = _ := zWs_word K N hK t h 29 (k / 32) (by omega) (by omega)
  rw [e1, e3, e2, hw]
  show some _ = _
  rw [m_bit32 _ _ (by omega)]
  unfold tU bN
  cases (W 29 (k / 32)).toBitVec.getLsbD (k % 32) <;> rfl
theorem m_left_loop (K : px_K) (N : Nat) (hK : zKm K) (t : px_W) {s : px_S} {W : ZSt} (h : zWs s W) : ∀ (d k n : Nat), k + d = 64 → d < n → l_M_left_28_4 K N n (iN ((List.range k).filter fun q => !tU W q).length) (iN (42 + k)) s t = some (.inl (19, [iN (zLeft W)], s, t)) := by
  have h106 : (106 : Int32) = iN 106 := rfl
  intro d
  induction d with
  | zero =>
    intro k n hk hn
    obtain ⟨n, rfl⟩ : ∃ n', n = n' + 1 := ⟨n - 1, by omega⟩
    have hk : k = 64 := by omega
    subst hk
    unfold l_M_left_28_4
    rw [if_pos (by rw [h106]; exact (iN_le (by omega) (by omega)).mpr (by omega))]; rfl
  | succ d ih =>
    intro k n hk hn
    obtain ⟨n, rfl⟩ : ∃ n', n = n' + 1 := ⟨n - 1, by omega⟩
    have hstep := ih (k + 1) n (by omega) (by omega)
    rw [zCnt_succ] at hstep
    have e3 : iN (42 + k) + (1 : Int32) = iN (42 + (k + 1)) := by rw [iL1, iN_add]; congr 1
    unfold l_M_left_28_4
    rw [if_neg (by rw [h106, iN_le (by omega) (by omega)]; omega), m_isUsed K N hK t h k (by omega), e3]
    show px_let _ _ = _
    unfold px_let
    dsimp only
    have ea : iN ((List.range k).filter fun q => !tU W q).length + (if bN (tU W k) = 0 then (1 : Int32) else (0 : Int32)) = iN (((List.range k).filter fun q => !tU W q).length + (if (!tU W k) = true then 1 else 0)) := by
      cases tU W k
      · rw [if_pos (by decide), if_pos (by decide), iL1, iN_add]
      · rw [if_neg (by decide), if_neg (by decide), iL0, iN_add]
    rw [ea]
    exact hstep
theorem m_left (K : px_K) (N : Nat) (hN : 2000 ≤ N) (hK : zKm K) (t : px_W) {s : px_S} {W : ZSt} (h : zWs s W) : f_M_left_28 K N s t = some (.inl (some (.int (iN (zLeft W)))), s, t) := by
  have := m_left_loop K N hK t h 64 0 N (by omega) (by omega)
  have this : l_M_left_28_4 K N N (0 : Int32) (42 : Int32) s t = some (.inl (19, [iN (zLeft W)], s, t)) := this
  unfold f_M_left_28
  rw [this]; rfl
/-! blocks of an inode -/
/-- every pointer is one -/
def zPv (W : ZSt) : Prop := ∀ i k, i < 24 → k ≤ 20 → tP W i k = iN (tB W i k) ∧ (tB W i k = 0 ∨ (42 ≤ tB W i k ∧ tB W i k < 106))
theorem m_blockOfP (K : px_K) (N : Nat) (hK : zKm K) (t : px_W) {s : px_S} {W : ZSt} (h : zWs s W) (hw : zPv W) (i k : Nat) (hi : i < 24) (hk : k < 20) : f_M_blockOf_28 K N (iN i) (iN k) s t = some (.inl (some (.int (iN (tB W i k)))), s, t) := by
  have h4 : (4 : Int32) = iN 4 := rfl
  obtain ⟨p1, p2⟩ := hw i k hi (by omega)
  rw [← p1]
  unfold f_M_blockOf_28 tP
  by_cases hk4 : k < 4
  · rw [if_neg (by rw [h4, iN_le (by omega) (by omega)]; omega), if_pos hk4]
    have e : (2 : Int32) + iN k = iN (2 + k) := by rw [iL2, iN_add]
    rw [e, m_ofInode K N hK t h i (2 + k) hi (by omega)]; rfl
  · rw [if_pos (by rw [h4]; exact (iN_le (by omega) (by omega)).mpr (by omega)), if_neg hk4, if_neg (by omega)]
    have hr : f_M_ofInode_28 K N (iN i) (6 : Int32) s t = _ := m_ofInode K N hK t h i 6 hi (by omega)
    rw [hr]
    show (if ¬ tI W i 6 = 0 then _ else _) = _
    obtain ⟨f1, f2⟩ := hw i 20 hi (by omega)
    have f1 : tI W i 6 = iN (tF W i) := by rw [tF_eq]; exact f1
    rw [← tF_eq] at f2
    by_cases hf : tF W i = 0
    · rw [f1, hf, if_neg (c := ¬ iN 0 = 0) (fun hx => hx rfl), if_pos rfl]
    · have hlt : tF W i < 106 := by omega
      rw [f1, if_pos (c := ¬ iN (tF W i) = 0) (by rw [iL0, iN_eq (by omega) (by omega)]; exact hf), if_neg hf]
      have e : iN k - (4 : Int32) = iN (k - 4) := by rw [h4, iN_sub (by omega)]
      rw [e, zWs_word K N hK t h (tF W i) (k - 4) hlt (by omega)]; rfl
theorem m_blockOf (K : px_K) (N : Nat) (hK : zKm K) (t : px_W) {s : px_S} {W : ZSt} (h : zWs s W) (hw : ZWa W) (i k : Nat) (hi : i < 24) (hk : k < 20) : f_M_blockOf_28 K N (iN i) (iN k) s t = some (.inl (some (.int (iN (tB W i k)))), s, t) := m_blockOfP K N hK t h hw.pv i k hi hk
/-- how many blocks a new one takes -/
def zWn (W : ZSt) (i k : Nat) : Nat := if 4 ≤ k ∧ tF W i = 0 then 2 else 1
theorem m_wants (K : px_K) (N : Nat) (hK : zKm K) (t : px_W) {s : px_S} {W : ZSt} (h : zWs s W) (hw : ZWa W) (i k : Nat) (hi : i < 24) (hk : k < 20) : f_M_wants_28 K N (iN i) (iN k) s t = some (.inl (some (.int (iN (zWn W i k)))), s, t) := by
  have h4 : (4 : Int32) = iN 4 := rfl
  unfold f_M_wants_28 zWn
  by_cases hk4 : k < 4
  · rw [if_pos (by rw [h4]; exact (iN_lt (by omega) (by omega)).mpr hk4), if_neg (by omega)]; rfl
  · rw [if_neg (by rw [h4, iN_lt (by omega) (by omega)]; omega)]
    have hr : f_M_ofInode_28 K N (iN i) (6 : Int32) s t = _ := m_ofInode K N hK t h i 6 hi (by omega)
    rw [hr]
    show some ((.inl (some (.int (if ¬ tI W i 6 = 0 then (1 : Int32) else (2 : Int32)))), s, t) : px_Res) = _
    obtain ⟨f1, f2⟩ := hw.pv i 20 hi (by omega)
    have f1 : tI W i 6 = iN (tF W i) := by rw [tF_eq]; exact f1
    rw [← tF_eq] at f2
    rw [f1]
    by_cases hf : tF W i = 0
    · rw [hf, if_neg (c := ¬ iN 0 = 0) (fun hx => hx rfl), if_pos ⟨by omega, rfl⟩]; rfl
    · rw [if_pos (c := ¬ iN (tF W i) = 0) (by rw [iL0, iN_eq (by omega) (by omega)]; exact hf), if_neg (fun hx => hf hx.2)]; rfl
/-! entries of a directory -/
theorem zdir_blk {W : ZSt} (hw : ZWa W) {d p : Nat} (hd : d < 24) (hk : tI W d 0 = 1) (hp : p < tS W d) : p < 160 ∧ p / 8 < 20 ∧ 42 ≤ tB W d (p / 8) ∧ tB W d (p / 8) < 106 := by
  obtain ⟨m, m1, m2, m3, m4⟩ := hw.dsz hd hk
  have hb := m4 (p / 8) (by omega)
  have := (hw.pv d (p / 8) hd (by omega)).2
  omega
theorem m_nameAt (K : px_K) (N : Nat) (hK : zKm K) (t : px_W) {s : px_S} {W : ZSt} (h : zWs s W) (hw : ZWa W) (d p : Nat) (hd : d < 24) (hk : tI W d 0 = 1) (hp : p < tS W d) : f_M_nameAt_28 K N (iN d) (iN p) s t = some (.inl (some (.int (tN W d p))), s, t) := by
  obtain ⟨b0, b1, b2, b3⟩ := zdir_blk hw hd hk hp
  have h8 : (8 : Int32) = iN 8 := rfl
  unfold f_M_nameAt_28
  rw [h8, iN_rem (by omega) (by omega) (by omega), iN_div (by omega) (by omega) (by omega), m_blockOf K N hK t h hw d (p / 8) hd b1, iL2, iN_mul]
  show px_bi (f_M_word_28 K N (iN (tB W d (p / 8))) (iN (2 * (p % 8))) s t) _ _ = _
  rw [zWs_word K N hK t h _ _ b3 (by omega)]; rfl
theorem m_inodeAt (K : px_K) (N : Nat) (hK : zKm K) (t : px_W) {s : px_S} {W : ZSt} (h : zWs s W) (hw : ZWa W) (d p : Nat) (hd : d < 24) (hk : tI W d 0 = 1) (hp : p < tS W d) : f_M_inodeAt_28 K N (iN d) (iN p) s t = some (.inl (some (.int (tE W d p))), s, t) := by
  obtain ⟨b0, b1, b2, b3⟩ := zdir_blk hw hd hk hp
  have h8 : (8 : Int32) = iN 8 := rfl
  unfold f_M_inodeAt_28
  rw [h8, iN_rem (by omega) (by omega) (by omega), iN_div (by omega) (by omega) (by omega), m_blockOf K N hK t h hw d (p / 8) hd b1, iL2, iN_mul, iL1, iN_add]
  show px_bi (f_M_word_28 K N (iN (tB W d (p / 8))) (iN (2 * (p % 8) + 1)) s t) _ _ = _
  rw [zWs_word K N hK t h _ _ b3 (by omega)]; rfl
theorem m_size (K : px_K) (N : Nat) (hK : zKm K) (t : px_W) {s : px_S} {W : ZSt} (h : zWs s W) (hw : ZWa W) (d : Nat) (hd : d < 24) (hk : tI W d 0 = 1 ∨ tI W d 0 = 2) : f_M_ofInode_28 K N (iN d) (1 : Int32) s t = some (.inl (some (.int (iN (tS W d)))), s, t) ∧ tS W d ≤ 320 := by
  have hr : f_M_ofInode_28 K N (iN d) (1 : Int32) s t = _ := m_ofInode K N hK t h d 1 hd (by omega)
  rcases hk with hk | hk
  · obtain ⟨m, m1, m2, m3, m4⟩ := hw.dsz hd hk
    rw [m2]
    exact ⟨by rw [hr, m3], by omega⟩
  · obtain ⟨q, q1, q2⟩ := hw.fs d hd hk
    have e : tS W d = q := by unfold tS; rw [q2, n32_iN (by omega)]
    rw [e]
    exact ⟨by rw [hr, q2], q1⟩
/-- where a name stands -/
def zPl (W : ZSt) (d : Nat) (x : Int32) : Option Nat := (List.range (tS W d)).find? fun p => decide (tN W d p = x)
theorem zPl_some {W : ZSt} {d p : Nat} {x : Int32} (h : zPl W d x = some p) : p < tS W d ∧ tN W d p = x := by
  unfold zPl at h
  have h2 := List.find?_some h
  exact ⟨List.mem_range.mp (List.mem_of_find?_eq_some h), of_decide_eq_true (show decide (tN W d p = x) = true from h2)⟩
theorem zPl_none {W : ZSt} {d : Nat} {x : Int32} (h : zPl W d x = none) : ∀ p, p < tS W d → tN W d p ≠ x := by
  intro p hp hx
  unfold zPl at h
  have := List.find?_eq_none.mp h p (List.mem_range.mpr hp)
  exact this (decide_eq_true hx)
theorem m_placeOf_loop (K : px_K) (N : Nat) (hK : zKm K) (t : px_W) {s : px_S} {W : ZSt} (h : zWs s W) (hw : ZWa W) (d : Nat) (hd : d < 24) (hk : tI W d 0 = 1) (x : Int32) : ∀ (k n : Nat), k ≤ tS W d → k < n → (∃ p, p < k ∧ tN W d p = x ∧ (∀ q, p < q → q < k → tN W d q ≠ x) ∧ l_M_placeOf_28_7 K N n (iN d) x (iN k - 1) s t = some (.inl (17, [iN p], s, t))) ∨ ((∀ p, p < k → tN W d p ≠ x) ∧ l_M_placeOf_28_7 K N n (iN d) x (iN k - 1) s t = some (.inl (17, [-1], s, t))) := by
  intro k
  induction k with
  | zero =>
    intro n hkk hn
    obtain ⟨n, rfl⟩ : ∃ n', n = n' + 1 := ⟨n - 1, by omega⟩
    right
    refine ⟨fun p hp => by omega, ?_⟩
    unfold l_M_placeOf_28_7
    have e : iN 0 - 1 = (-1 : Int32) := rfl
    rw [e, if_pos (by decide)]
  | succ k ih =>
    intro n hkk hn
    obtain ⟨n, rfl⟩ : ∃ n', n = n' + 1 := ⟨n - 1, by omega⟩
    have hb := zdir_blk hw hd hk (p := k) (by omega)
    have e : iN (k + 1) - 1 = iN k := by rw [iN_pred (by omega)]; rfl
    have em : iN k + (-1 : Int32) = iN k - 1 := (Int32.sub_eq_add_neg _ _).symm
    have hnm := m_nameAt K N hK t h hw d k hd hk (by omega)
    rw [e]
    by_cases hx : tN W d k = x
    · left
      refine ⟨k, by omega, hx, fun q q1 q2 => by omega, ?_⟩
      obtain ⟨r, e1, e2⟩ : wp (l_M_placeOf_28_7 K N (n + 1) (iN d) x (iN k) s t) (fun r => r = .inl (17, [iN k], s, t)) := by
        unfold l_M_placeOf_28_7
        exact wp_ifn (iN_neg (by omega)) (wp_bi hnm (wp_if hx (wp_some rfl)))
      rw [e1, e2]
    · have hl : ∀ z, l_M_placeOf_28_7 K N n (iN d) x (iN k - 1) s t = some z → l_M_placeOf_28_7 K N (n + 1) (iN d) x (iN k) s t = some z := by
        intro z hz
        obtain ⟨r, e1, e2⟩ : wp (l_M_placeOf_28_7 K N (n + 1) (iN d) x (iN k) s t) (fun r => r = z) := by
          unfold l_M_placeOf_28_7
          refine wp_ifn (iN_neg (by omega)) (wp_bi hnm (wp_ifn hx (wp_let ?_)))
          rw [em]; exact ⟨z, hz, rfl⟩
        rw [e1, e2]
      rcases ih n (by omega) (by omega) with ⟨p, p1, p2, p3, p4⟩ | ⟨p1, p2⟩
      · left
        refine ⟨p, by omega, p2, fun q q1 q2 => ?_, hl _ p4⟩
        by_cases hqk : q = k
        · rw [hqk]; exact hx
        · exact p3 q q1 (by omega)
      · right
        refine ⟨fun p hp => ?_, hl _ p2⟩
        by_cases hpk : p = k
        · rw [hpk]; exact hx
        · exact p1 p (by omega)
theorem m_placeOf (K : px_K) (N : Nat) (hN : 2000 ≤ N) (hK : zKm K) (t : px_W) {s : px_S} {W : ZSt} (h : zWs s W) (hw : ZWa W) (hb : ZWb W) (d : Nat) (hd : d < 24) (hk : tI W d 0 = 1) (x : Int32) : f_M_placeOf_28 K N (iN d) x s t = some (.inl (some (.int (if 1 ≤ x then oN (zPl W d x) else -1))), s, t) := by
  obtain ⟨hs, h320⟩ := m_size K N hK t h hw d hd (Or.inl hk)
  unfold f_M_placeOf_28
  rw [hs]
  show px_lp (l_M_placeOf_28_7 K N N (iN d) x (iN (tS W d) - 1) s t) _ _ = _
  have key : ∀ o : Option Nat, l_M_placeOf_28_7 K N N (iN d) x (iN (tS W d) - 1) s t = some (.inl (17, [oN o], s, t)) → (1 ≤ x → o = zPl W d x) → px_lp (l_M_placeOf_28_7 K N N (iN d) x (iN (tS W d) - 1) s t) (fun i6 vs7 s8 t9 => (if i6 = 17 then (px_v1 vs7 (fun y12 => (some (.inl (some (.int (if (1 : Int32) ≤ x then y12 else (-1 : Int32)))), s8, t9)))) else none)) (fun z11 => some z11) = some (.inl (some (.int (if 1 ≤ x then oN (zPl W d x) else -1))), s, t) := by
    intro o ho hx
    rw [ho]
    show some ((.inl (some (.int (if (1 : Int32) ≤ x then oN o else (-1 : Int32)))), s, t) : px_Res) = _
    by_cases h1 : 1 ≤ x
    · rw [if_pos h1, if_pos h1, hx h1]
    · rw [if_neg h1, if_neg h1]
  rcases m_placeOf_loop K N hK t h hw d hd hk x (tS W d) N (Nat.le_refl _) (by omega) with ⟨p, p1, p2, p3, p4⟩ | ⟨p1, p2⟩
  · refine key (some p) p4 (fun h1 => ?_)
    cases hz : zPl W d x with
    | none => exact absurd p2 (zPl_none hz p p1)
    | some q =>
      obtain ⟨q1, q2⟩ := zPl_some hz
      have hx0 : x ≠ 0 := fun hx => by rw [hx] at h1; exact absurd h1 (by decide)
      rw [hb.eu d p q hd hk p1 q1 (by rw [p2]; exact hx0) (by rw [p2, q2])]
  · refine key none p2 (fun _ => ?_)
    cases hz : zPl W d x with
    | none => rfl
    | some q =>
      obtain ⟨q1, q2⟩ := zPl_some hz
      exact absurd q2 (p1 q q1)
/-! WHAT A TREE ANSWERS -/
def zKb (W : ZSt) (x k : Int32) : Bool := decide (0 ≤ x) && (decide (x < 24) && decide (tI W (n32 x) 0 = k))
theorem zKb_iff {W : ZSt} {x k : Int32} : zKb W x k = true ↔ zKd W x k := by
  unfold zKb zKd
  rw [Bool.and_eq_true, Bool.and_eq_true, decide_eq_true_eq, decide_eq_true_eq, decide_eq_true_eq]
theorem zKb_no {W : ZSt} {x k : Int32} (h : zKb W x k = false) : ¬ zKd W x k := fun hx => by rw [zKb_iff.mpr hx] at h; cases h
theorem zKd_of {W : ZSt} {x k : Int32} (h : zKb W x k = true) : x = iN (n32 x) ∧ n32 x < 24 ∧ tI W (n32 x) 0 = k := by
  obtain ⟨a, b, c⟩ := zKb_iff.mp h
  obtain ⟨d, e⟩ := i32_24 a b
  exact ⟨d, e, c⟩
theorem m_kind (K : px_K) (N : Nat) (hK : zKm K) (t : px_W) {s : px_S} {W : ZSt} (h : zWs s W) (x k : Int32) : f_M_isKind_28 K N x k s t = some (.inl (some (.int (bN (zKb W x k)))), s, t) := by
  obtain ⟨g, g1, g2⟩ := m_isKind K N hK t h x k
  have e : g = zKb W x k := by rw [Bool.eq_iff_iff, g1, zKb_iff]
  rw [← e]; exact g2
theorem zfind_first {f : Nat → Bool} : ∀ {n p : Nat}, (List.range n).find? f = some p → ∀ q, q < p → f q = false := by
  intro n
  induction n with
  | zero => intro p h; cases h
  | succ n ih =>
    intro p h q hq
    rw [List.range_succ, List.find?_append] at h
    cases hf : (List.range n).find? f with
    | some r =>
      rw [hf] at h
      have hr : r = p := by simpa using h
      rw [hr] at hf
      exact ih hf q hq
    | none =>
      have hmem : p ∈ [n] := by
        rw [hf] at h
        have h2 : [n].find? f = some p := by simpa using h
        exact List.mem_of_find?_eq_some h2
      have hp : p = n := List.mem_singleton.mp hmem
      have := List.find?_eq_none.mp hf q (List.mem_range.mpr (by omega))
      cases hfq : f q with
      | false => rfl
      | true => exact absurd hfq this
theorem zPl_eq {W : ZSt} {d p : Nat} {x : Int32} (hp : p < tS W d) (hx : tN W d p = x) (hn : ∀ q, q < p → tN W d q ≠ x) : zPl W d x = some p := by
  cases hz : zPl W d x with
  | none => exact absurd hx (zPl_none hz p hp)
  | some q =>
    obtain ⟨q1, q2⟩ := zPl_some hz
    have hf := zfind_first hz
    rcases Nat.lt_trichotomy q p with h | h | h
    · exact absurd q2 (hn q h)
    · rw [h]
    · have := hf p h
      rw [hx] at this
      simp at this
/-- the first place without a name, or the size -/
def zFpl (W : ZSt) (d : Nat) : Nat := (zPl W d 0).getD (tS W d)
theorem m_freePlace_loop (K : px_K) (N : Nat) (hK : zKm K) (t : px_W) {s : px_S} {W : ZSt} (h : zWs s W) (hw : ZWa W) (d : Nat) (hd : d < 24) (hk : tI W d 0 = 1) : ∀ (k p n : Nat), p + k = tS W d → k < n → (∀ q, q < p → tN W d q ≠ 0) → l_M_freePlace_28_2 K N n (iN d) (iN p) s t = some (.inl (15, [iN (zFpl W d)], s, t)) := by
  obtain ⟨hs, h320⟩ := m_size K N hK t h hw d hd (Or.inl hk)
  intro k
  induction k with
  | zero =>
    intro p n hp hn hno
    obtain ⟨n, rfl⟩ : ∃ n', n = n' + 1 := ⟨n - 1, by omega⟩
    have e : zFpl W d = p := by
      unfold zFpl
      cases hz : zPl W d 0 with
      | none => show tS W d = p; omega
      | some q =>
        obtain ⟨q1, q2⟩ := zPl_some hz
        exact absurd q2 (hno q (by omega))
    rw [e]
    obtain ⟨r, e1, e2⟩ : wp (l_M_freePlace_28_2 K N (n + 1) (iN d) (iN p) s t) (fun r => r = .inl (15, [iN p], s, t)) := by
      unfold l_M_freePlace_28_2
      exact wp_bi hs (wp_if ((iN_le (by omega) (by omega)).mpr (by omega)) (wp_some rfl))
    rw [e1, e2]
  | succ k ih =>
    intro p n hp hn hno
    obtain ⟨n, rfl⟩ : ∃ n', n = n' + 1 := ⟨n - 1, by omega⟩
    have e3 : iN p + (1 : Int32) = iN (p + 1) := by rw [iL1, iN_add]
    have hnm := m_nameAt K N hK t h hw d p hd hk (by omega)
    obtain ⟨r, e1, e2⟩ : wp (l_M_freePlace_28_2 K N (n + 1) (iN d) (iN p) s t) (fun r => r = .inl (15, [iN (zFpl W d)], s, t)) := by
      unfold l_M_freePlace_28_2
      refine wp_bi hs (wp_ifn (by rw [iN_le (by omega) (by omega)]; omega) (wp_bi hnm ?_))
      by_cases h0 : tN W d p = 0
      · have e : zFpl W d = p := by unfold zFpl; rw [zPl_eq (by omega) h0 hno]; rfl
        rw [e]
        exact wp_if h0 (wp_some rfl)
      · refine wp_ifn h0 ?_
        rw [e3]
        exact ⟨_, ih (p + 1) n (by omega) (by omega) (fun q hq => by
          by_cases hqp : q = p
          · rw [hqp]; exact h0
          · exact hno q (by omega)), rfl⟩
    rw [e1, e2]
theorem m_freePlace (K : px_K) (N : Nat) (hN : 2000 ≤ N) (hK : zKm K) (t : px_W) {s : px_S} {W : ZSt} (h : zWs s W) (hw : ZWa W) (d : Nat) (hd : d < 24) (hk : tI W d 0 = 1) : f_M_freePlace_28 K N (iN d) s t = some (.inl (some (.int (iN (zFpl W d)))), s, t) := by
  obtain ⟨hs, h320⟩ := m_size K N hK t h hw d hd (Or.inl hk)
  have this : l_M_freePlace_28_2 K N N (iN d) (0 : Int32) s t = _ := m_freePlace_loop K N hK t h hw d hd hk (tS W d) 0 N (by omega) (by omega) (fun q hq => by omega)
  unfold f_M_freePlace_28
  rw [this]; rfl
theorem zFpl_le {W : ZSt} {d : Nat} : zFpl W d ≤ tS W d := by
  unfold zFpl
  cases hz : zPl W d 0 with
  | none => exact Nat.le_refl _
  | some q => exact Nat.le_of_lt (zPl_some hz).1
theorem zFpl_lt {W : ZSt} {d : Nat} (h : zFpl W d < tS W d) : tN W d (zFpl W d) = 0 := by
  unfold zFpl at *
  cases hz : zPl W d 0 with
  | none => rw [hz] at h; exact absurd h (Nat.lt_irrefl _)
  | some q => exact (zPl_some hz).2
theorem zFpl_eq {W : ZSt} {d : Nat} (h : zFpl W d = tS W d) : ∀ p, p < tS W d → tN W d p ≠ 0 := by
  unfold zFpl at h
  cases hz : zPl W d 0 with
  | none => exact zPl_none hz
  | some q => rw [hz] at h; have := (zPl_some hz).1; have h : q = tS W d := h; omega
/-- how many names -/
def zNm (W : ZSt) (d : Nat) : Nat := ((List.range (tS W d)).filter fun p => !decide (tN W d p = 0)).length
theorem m_names_loop (K : px_K) (N : Nat) (hK : zKm K) (t : px_W) {s : px_S} {W : ZSt} (h : zWs s W) (hw : ZWa W) (d : Nat) (hd : d < 24) (hk : tI W d 0 = 1) : ∀ (k p n : Nat), p + k = tS W d → k < n → l_M_names_28_4 K N n (iN d) (iN ((List.range p).filter fun q => !decide (tN W d q = 0)).length) (iN p) s t = some (.inl (23, [iN (zNm W d)], s, t)) := by
  obtain ⟨hs, h320⟩ := m_size K N hK t h hw d hd (Or.inl hk)
  intro k
  induction k with
  | zero =>
    intro p n hp hn
    obtain ⟨n, rfl⟩ : ∃ n', n = n' + 1 := ⟨n - 1, by omega⟩
    have hp : p = tS W d := by omega
    subst hp
    obtain ⟨r, e1, e2⟩ : wp (l_M_names_28_4 K N (n + 1) (iN d) (iN ((List.range (tS W d)).filter fun q => !decide (tN W d q = 0)).length) (iN (tS W d)) s t) (fun r => r = .inl (23, [iN (zNm W d)], s, t)) := by
      unfold l_M_names_28_4
      exact wp_bi hs (wp_if ((iN_le (by omega) (by omega)).mpr (Nat.le_refl _)) (wp_some rfl))
    rw [e1, e2]
  | succ k ih =>
    intro p n hp hn
    obtain ⟨n, rfl⟩ : ∃ n', n = n' + 1 := ⟨n - 1, by omega⟩
    have e3 : iN p + (1 : Int32) = iN (p + 1) := by rw [iL1, iN_add]
    have hnm := m_nameAt K N hK t h hw d p hd hk (by omega)
    have hstep := ih (p + 1) n (by omega) (by omega)
    rw [zCnt_succ] at hstep
    have ea : iN ((List.range p).filter fun q => !decide (tN W d q = 0)).length + (if tN W d p = 0 then (0 : Int32) else (1 : Int32)) = iN (((List.range p).filter fun q => !decide (tN W d q = 0)).length + (if (!decide (tN W d p = 0)) = true then 1 else 0)) := by
      by_cases h0 : tN W d p = 0
      · rw [if_pos h0, if_neg (by rw [decide_eq_true h0]; decide), iL0, iN_add]
      · rw [if_neg h0, if_pos (by rw [decide_eq_false h0]; decide), iL1, iN_add]
    obtain ⟨r, e1, e2⟩ : wp (l_M_names_28_4 K N (n + 1) (iN d) (iN ((List.range p).filter fun q => !decide (tN W d q = 0)).length) (iN p) s t) (fun r => r = .inl (23, [iN (zNm W d)], s, t)) := by
      unfold l_M_names_28_4
      refine wp_bi hs (wp_ifn (by rw [iN_le (by omega) (by omega)]; omega) (wp_bi hnm (wp_let ?_)))
      rw [ea, e3]
      exact ⟨_, hstep, rfl⟩
    rw [e1, e2]
theorem m_names (K : px_K) (N : Nat) (hN : 2000 ≤ N) (hK : zKm K) (t : px_W) {s : px_S} {W : ZSt} (h : zWs s W) (hw : ZWa W) (d : Nat) (hd : d < 24) (hk : tI W d 0 = 1) : f_M_names_28 K N (iN d) s t = some (.inl (some (.int (iN (zNm W d)))), s, t) := by
  obtain ⟨hs, h320⟩ := m_size K N hK t h hw d hd (Or.inl hk)
  have this : l_M_names_28_4 K N N (iN d) (0 : Int32) (0 : Int32) s t = _ := m_names_loop K N hK t h hw d hd hk (tS W d) 0 N (by omega) (by omega)
  unfold f_M_names_28
  rw [this]; rfl
theorem zLeft_le (W : ZSt) : zLeft W ≤ 64 := zCnt_le _ _
/-- whether a new name finds a place -/
def zRoom (W : ZSt) (d : Nat) : Bool := decide (zFpl W d < tS W d) || (decide (zFpl W d < 160) && decide (zWn W d (zFpl W d / 8) ≤ zLeft W))
theorem m_hasRoom (K : px_K) (N : Nat) (hN : 2000 ≤ N) (hK : zKm K) (t : px_W) {s : px_S} {W : ZSt} (h : zWs s W) (hw : ZWa W) (d : Nat) (hd : d < 24) (hk : tI W d 0 = 1) : f_M_hasRoom_28 K N (iN d) s t = some (.inl (some (.int (bN (zRoom W d)))), s, t) := by
  obtain ⟨hs, h320⟩ := m_size K N hK t h hw d hd (Or.inl hk)
  have hfp := m_freePlace K N hN hK t h hw d hd hk
  have hle := zFpl_le (W := W) (d := d)
  have h8 : (8 : Int32) = iN 8 := rfl
  have h160 : (160 : Int32) = iN 160 := rfl
  have hwn : zWn W d (zFpl W d / 8) ≤ 2 := by unfold zWn; split <;> omega
  have hl64 := zLeft_le W
  obtain ⟨r, e1, e2⟩ : wp (f_M_hasRoom_28 K N (iN d) s t) (fun r => r = (.inl (some (.int (bN (zRoom W d)))), s, t)) := by
    unfold f_M_hasRoom_28 zRoom
    refine wp_bi hfp (wp_bi hs ?_)
    by_cases hlt : zFpl W d < tS W d
    · rw [decide_eq_true hlt, Bool.true_or]
      exact wp_if ((iN_lt (by omega) (by omega)).mpr hlt) (wp_some rfl)
    · rw [decide_eq_false hlt, Bool.false_or]
      refine wp_ifn (fun hx => hlt ((iN_lt (by omega) (by omega)).mp hx)) ?_
      by_cases h1 : zFpl W d < 160
      · rw [decide_eq_true h1, Bool.true_and]
        refine wp_ifn (by rw [h160, iN_le (by omega) (by omega)]; omega) ?_
        rw [h8, iN_div (by omega) (by omega) (by omega)]
        refine wp_bi (m_wants K N hK t h hw d (zFpl W d / 8) hd (by omega)) (wp_bi (m_left K N hN hK t h) (wp_some ?_))
        by_cases h2 : zWn W d (zFpl W d / 8) ≤ zLeft W
        · rw [decide_eq_true h2, if_neg (by rw [iN_lt (by omega) (by omega)]; omega)]; rfl
        · rw [decide_eq_false h2, if_pos (by rw [iN_lt (by omega) (by omega)]; omega)]; rfl
      · rw [decide_eq_false h1, Bool.false_and]
        exact wp_if (by rw [h160, iN_le (by omega) (by omega)]; omega) (wp_some rfl)
  rw [e1, e2]
/-! find, inode, entry of the reference -/
def qFind (W : ZSt) (d x : Int32) : Int32 := if zKb W d 1 = true then (match (if 1 ≤ x then zPl W (n32 d) x else none) with
  | some p => tE W (n32 d) p
  | none => -1) else -4
theorem m_find2 (K : px_K) (N : Nat) (hN : 2000 ≤ N) (hK : zKm K) (t : px_W) (s : px_S) (T : ZTs) (h : zRt s T) (hw : ZW T.wd) (hu : T.tv.p.up = true) (d x : Int32) : f_M_find2_28 K N d x s t = some (.inl (some (.int (qFind T.wd d x))), sR s 25 (0 : Int32), t) := by
  have h0 := zRt_25 h 0
  have hws : zWs (sR s 25 (0 : Int32)) T.wd := h0.2.1
  obtain ⟨r, e1, e2⟩ : wp (f_M_find2_28 K N d x s t) (fun r => r = (.inl (some (.int (qFind T.wd d x))), sR s 25 (0 : Int32), t)) := by
    unfold f_M_find2_28 qFind
    refine wp_let (wp_if (by rw [zRw_v h0.1.1, hu]; decide) (wp_bi (m_kind K N hK t hws d 1) ?_))
    cases hk : zKb T.wd d 1 with
    | false =>
      rw [if_neg (c := false = true) Bool.noConfusion]
      exact wp_ifn (fun hx => hx rfl) (wp_some rfl)
    | true =>
      rw [if_pos (c := true = true) rfl]
      obtain ⟨k1, k2, k3⟩ := zKd_of hk
      refine wp_if (by decide) ?_
      obtain ⟨m, m1, m2, _, _⟩ := hw.a.dsz k2 k3
      have hp := m_placeOf K N hN hK t hws hw.a hw.b (n32 d) k2 k3 x
      rw [← k1] at hp
      refine wp_bi hp ?_
      by_cases h1 : 1 ≤ x
      · rw [if_pos h1, if_pos h1]
        cases hz : zPl T.wd (n32 d) x with
        | none => exact wp_ifn (by decide) (wp_some rfl)
        | some p =>
          obtain ⟨p1, p2⟩ := zPl_some hz
          have hi := m_inodeAt K N hK t hws hw.a (n32 d) p k2 k3 p1
          rw [← k1] at hi
          exact wp_if (by show 0 ≤ iN p; rw [iL0, iN_le (by omega) (by omega)]; omega) (wp_bi hi (wp_some rfl))
      · rw [if_neg h1, if_neg h1]
        exact wp_ifn (by decide) (wp_some rfl)
  rw [e1, e2]
/-- how many blocks an inode has -/
def zBc (W : ZSt) (i : Nat) : Nat := (if tF W i = 0 then 0 else 1) + ((List.range 20).filter fun k => !decide (tB W i k = 0)).length
def qInode (W : ZSt) (i w : Int32) : Int32 := if 0 ≤ i ∧ i < 24 ∧ 0 ≤ w ∧ w ≤ 3 then (if w = 0 then tI W (n32 i) 0 else if w = 1 then tI W (n32 i) 1 else if w = 2 then (if tI W (n32 i) 0 = 1 then iN (zNm W (n32 i)) else 0) else iN (zBc W (n32 i))) else -1
theorem m_inode_loop (K : px_K) (N : Nat) (hK : zKm K) (t : px_W) {s : px_S} {W : ZSt} (h : zWs s W) (hw : ZWa W) (i : Nat) (hi : i < 24) (c : Nat) (hc : c ≤ 1) : ∀ (d k n : Nat), k + d = 20 → d < n → l_M_inode_28_51 K N n (iN i) (iN (c + ((List.range k).filter fun q => !decide (tB W i q = 0)).length)) (iN k) s t = some (.inl (67, [iN (c + ((List.range 20).filter fun q => !decide (tB W i q = 0)).length)], s, t)) := by
  intro d
  induction d with
  | zero =>
    intro k n hk hn
    obtain ⟨n, rfl⟩ : ∃ n', n = n' + 1 := ⟨n - 1, by omega⟩
    have hk : k = 20 := by omega
    subst hk
    unfold l_M_inode_28_51
    rw [if_pos (by decide)]
  | succ d ih =>
    intro k n hk hn
    obtain ⟨n, rfl⟩ : ∃ n', n = n' + 1 := ⟨n - 1, by omega⟩
    have e3 : iN k + (1 : Int32) = iN (k + 1) := by rw [iL1, iN_add]
    have hstep := ih (k + 1) n (by omega) (by omega)
    rw [zCnt_succ] at hstep
    have hb := (hw.pv i k hi (by omega)).2
    have ea : iN (c + ((List.range k).filter fun q => !decide (tB W i q = 0)).length) + (if iN (tB W i k) ≤ 0 then (0 : Int32) else (1 : Int32)) = iN (c + (((List.range k).filter fun q => !decide (tB W i q = 0)).length + (if (!decide (tB W i k = 0)) = true then 1 else 0))) := by
      by_cases h0 : tB W i k = 0
      · rw [if_pos (by rw [h0]; decide), if_neg (by rw [decide_eq_true h0]; decide), iL0, iN_add]; rfl
      · rw [if_neg (by rw [iL0, iN_le (by omega) (by omega)]; omega), if_pos (by rw [decide_eq_false h0]; decide), iL1, iN_add]; rfl
    have h20 : ¬ (20 : Int32) ≤ iN k := by
      have : (20 : Int32) = iN 20 := rfl
      rw [this, iN_le (by omega) (by omega)]; omega
    obtain ⟨r, e1, e2⟩ : wp (l_M_inode_28_51 K N (n + 1) (iN i) (iN (c + ((List.range k).filter fun q => !decide (tB W i q = 0)).length)) (iN k) s t) (fun r => r = .inl (67, [iN (c + ((List.range 20).filter fun q => !decide (tB W i q = 0)).length)], s, t)) := by
      unfold l_M_inode_28_51
      refine wp_ifn h20 (wp_bi (m_blockOf K N hK t h hw i k hi (by omega)) (wp_let ?_))
      rw [ea, e3]
      exact ⟨_, hstep, rfl⟩
    rw [e1, e2]
theorem i32_4 {x : Int32} (h0 : 0 ≤ x) (h1 : x ≤ 3) : x = 0 ∨ x = 1 ∨ x = 2 ∨ x = 3 := by
  have h24 : x < 24 := Int32.lt_of_le_of_lt h1 (by decide)
  obtain ⟨a, b⟩ := i32_24 h0 h24
  have h3 : (3 : Int32) = iN 3 := rfl
  rw [a, h3, iN_le (by omega) (by omega)] at h1
  rw [a]
  have : n32 x = 0 ∨ n32 x = 1 ∨ n32 x = 2 ∨ n32 x = 3 := by omega
  rcases this with h | h | h | h <;> rw [h]
  · exact Or.inl rfl
  · exact Or.inr (Or.inl rfl)
  · exact Or.inr (Or.inr (Or.inl rfl))
  · exact Or.inr (Or.inr (Or.inr rfl))
theorem m_inode (K : px_K) (N : Nat) (hN : 2000 ≤ N) (hK : zKm K) (t : px_W) (s : px_S) (T : ZTs) (h : zRt s T) (hw : ZW T.wd) (hu : T.tv.p.up = true) (i w : Int32) : f_M_inode_28 K N i w s t = some (.inl (some (.int (qInode T.wd i w))), sR s 25 (0 : Int32), t) := by
  have h0 := zRt_25 h 0
  have hws : zWs (sR s 25 (0 : Int32)) T.wd := h0.2.1
  obtain ⟨r, e1, e2⟩ : wp (f_M_inode_28 K N i w s t) (fun r => r = (.inl (some (.int (qInode T.wd i w))), sR s 25 (0 : Int32), t)) := by
    unfold f_M_inode_28
    refine wp_let (wp_ifn (by rw [zRw_v h0.1.1, hu]; decide) ?_)
    by_cases c1 : i < 0
    · rw [show qInode T.wd i w = -1 from if_neg (fun hx => absurd hx.1 (Int32.not_le.mpr c1))]
      exact wp_if c1 (wp_some rfl)
    refine wp_ifn c1 ?_
    by_cases c2 : 24 ≤ i
    · rw [show qInode T.wd i w = -1 from if_neg (fun hx => absurd hx.2.1 (Int32.not_lt.mpr c2))]
      exact wp_if c2 (wp_some rfl)
    refine wp_ifn c2 ?_
    by_cases c3 : w < 0
    · rw [show qInode T.wd i w = -1 from if_neg (fun hx => absurd hx.2.2.1 (Int32.not_le.mpr c3))]
      exact wp_if c3 (wp_some rfl)
    refine wp_ifn c3 ?_
    by_cases c4 : w ≤ 3
    · rw [show qInode T.wd i w = (if w = 0 then tI T.wd (n32 i) 0 else if w = 1 then tI T.wd (n32 i) 1 else if w = 2 then (if tI T.wd (n32 i) 0 = 1 then iN (zNm T.wd (n32 i)) else 0) else iN (zBc T.wd (n32 i))) from if_pos ⟨Int32.not_lt.mp c1, Int32.not_le.mp c2, Int32.not_lt.mp c3, c4⟩]
      refine wp_if c4 ?_
      obtain ⟨k1, k2⟩ := i32_24 (Int32.not_lt.mp c1) (Int32.not_le.mp c2)
      obtain ⟨j, hj⟩ : ∃ j, j = n32 i := ⟨_, rfl⟩
      rw [← hj] at k1 k2 ⊢
      rw [k1]
      have hkk := m_kind K N hK t hws (iN j) 1
      rcases i32_4 (Int32.not_lt.mp c3) c4 with e | e | e | e
      · rw [e, if_pos rfl]
        exact wp_ifn (by decide) (wp_bi (m_ofInode K N hK t hws j 0 k2 (by omega)) (wp_some rfl))
      · rw [e, if_neg (c := (1 : Int32) = 0) (by decide), if_pos (c := (1 : Int32) = 1) rfl]
        exact wp_ifn (by decide) (wp_bi (m_ofInode K N hK t hws j 1 k2 (by omega)) (wp_some rfl))
      · rw [e, if_neg (c := (2 : Int32) = 0) (by decide), if_neg (c := (2 : Int32) = 1) (by decide), if_pos (c := (2 : Int32) = 2) rfl]
        refine wp_if (by decide) (wp_ifn (by decide) (wp_bi hkk ?_))
        have hn32 : n32 (iN j) = j := n32_iN (by omega)
        cases hk : zKb T.wd (iN j) 1 with
        | false =>
          have : ¬ tI T.wd j 0 = 1 := fun hx => zKb_no hk ⟨by rw [iL0, iN_le (by omega) (by omega)]; omega, by show iN j < iN 24; rw [iN_lt (by omega) (by omega)]; exact k2, by rw [hn32]; exact hx⟩
          rw [if_neg this]
          exact wp_if rfl (wp_some rfl)
        | true =>
          obtain ⟨_, _, q3⟩ := zKd_of hk
          rw [hn32] at q3
          rw [if_pos q3]
          exact wp_ifn (by decide) (wp_bi (m_names K N hN hK t hws hw.a j k2 q3) (wp_some rfl))
      · rw [e, if_neg (c := (3 : Int32) = 0) (by decide), if_neg (c := (3 : Int32) = 1) (by decide), if_neg (c := (3 : Int32) = 2) (by decide)]
        refine wp_if (by decide) (wp_if (by decide) (wp_bi (m_ofInode K N hK t hws j 6 k2 (by omega)) (wp_let ?_)))
        obtain ⟨f1, f2⟩ := hw.a.pv j 20 k2 (by omega)
        have f1 : tI T.wd j 6 = iN (tF T.wd j) := by rw [tF_eq]; exact f1
        rw [← tF_eq] at f2
        have ec : (if tI T.wd j 6 ≤ 0 then (0 : Int32) else (1 : Int32)) = iN ((if tF T.wd j = 0 then 0 else 1) + ((List.range 0).filter fun q => !decide (tB T.wd j q = 0)).length) := by
          rw [f1]
          by_cases hf : tF T.wd j = 0
          · rw [hf]; rfl
          · rw [if_neg (by rw [iL0, iN_le (by omega) (by omega)]; omega), if_neg hf]; rfl
        rw [ec]
        have hl := m_inode_loop K N hK t hws hw.a j k2 (if tF T.wd j = 0 then 0 else 1) (by split <;> omega) 20 0 N (by omega) (by omega)
        refine wp_lp hl (wp_if rfl (wp_some rfl))
    · rw [show qInode T.wd i w = -1 from if_neg (fun hx => c4 hx.2.2.2)]
      exact wp_ifn c4 (wp_some rfl)
  rw [e1, e2]
def qEntry (W : ZSt) (d p w : Int32) : Int32 := if zKb W d 1 = true ∧ 0 ≤ p ∧ p < iN (tS W (n32 d)) ∧ 0 ≤ w ∧ w ≤ 1 then (if w = 0 then tN W (n32 d) (n32 p) else tE W (n32 d) (n32 p)) else -1
theorem m_entry (K : px_K) (N : Nat) (hN : 2000 ≤ N) (hK : zKm K) (t : px_W) (s : px_S) (T : ZTs) (h : zRt s T) (hw : ZW T.wd) (hu : T.tv.p.up = true) (d p w : Int32) : f_M_entry_28 K N d p w s t = some (.inl (some (.int (qEntry T.wd d p w))), sR s 25 (0 : Int32), t) := by
  have h0 := zRt_25 h 0
  have hws : zWs (sR s 25 (0 : Int32)) T.wd := h0.2.1
  obtain ⟨r, e1, e2⟩ : wp (f_M_entry_28 K N d p w s t) (fun r => r = (.inl (some (.int (qEntry T.wd d p w))), sR s 25 (0 : Int32), t)) := by
    unfold f_M_entry_28
    refine wp_let (wp_ifn (by rw [zRw_v h0.1.1, hu]; decide) (wp_bi (m_kind K N hK t hws d 1) ?_))
    cases hk : zKb T.wd d 1 with
    | false =>
      rw [show qEntry T.wd d p w = -1 from if_neg (fun hx => by rw [hk] at hx; cases hx.1)]
      exact wp_if rfl (wp_some rfl)
    | true =>
      obtain ⟨k1, k2, k3⟩ := zKd_of hk
      refine wp_ifn (by decide) ?_
      by_cases c1 : p < 0
      · rw [show qEntry T.wd d p w = -1 from if_neg (fun hx => absurd hx.2.1 (Int32.not_le.mpr c1))]
        exact wp_if c1 (wp_some rfl)
      refine wp_ifn c1 ?_
      obtain ⟨hs, h320⟩ := m_size K N hK t hws hw.a (n32 d) k2 (Or.inl k3)
      rw [← k1] at hs
      refine wp_bi hs ?_
      by_cases c2 : iN (tS T.wd (n32 d)) ≤ p
      · rw [show qEntry T.wd d p w = -1 from if_neg (fun hx => absurd hx.2.2.1 (Int32.not_lt.mpr c2))]
        exact wp_if c2 (wp_some rfl)
      refine wp_ifn c2 ?_
      have c2' : p < iN (tS T.wd (n32 d)) := Int32.not_le.mp c2
      have hp : p = iN (n32 p) ∧ n32 p < tS T.wd (n32 d) := by
        have hn : p = iN (n32 p) := by
          by_cases hz : 0 < n32 p
          · exact (iN_n32 hz).symm
          · have e : n32 p = 0 := by omega
            rw [e]
            exact Int32.le_antisymm ((n32_le (by omega)).mpr (by omega)) (Int32.not_lt.mp c1)
        refine ⟨hn, ?_⟩
        rw [hn, iN_lt (n32_lt p) (by omega)] at c2'
        exact c2'
      by_cases c3 : w < 0
      · rw [show qEntry T.wd d p w = -1 from if_neg (fun hx => absurd hx.2.2.2.1 (Int32.not_le.mpr c3))]
        exact wp_if c3 (wp_some rfl)
      refine wp_ifn c3 ?_
      by_cases c4 : w ≤ 1
      · rw [show qEntry T.wd d p w = (if w = 0 then tN T.wd (n32 d) (n32 p) else tE T.wd (n32 d) (n32 p)) from if_pos ⟨hk, Int32.not_lt.mp c1, c2', Int32.not_lt.mp c3, c4⟩]
        refine wp_if c4 ?_
        have hn := m_nameAt K N hK t hws hw.a (n32 d) (n32 p) k2 k3 hp.2
        have hi := m_inodeAt K N hK t hws hw.a (n32 d) (n32 p) k2 k3 hp.2
        rw [← k1, ← hp.1] at hn hi
        by_cases hw0 : w = 0
        · rw [if_pos hw0]
          exact wp_ifn (fun hx => hx hw0) (wp_bi hn (wp_some rfl))
        · rw [if_neg hw0]
          exact wp_if hw0 (wp_bi hi (wp_some rfl))
      · rw [show qEntry T.wd d p w = -1 from if_neg (fun hx => c4 hx.2.2.2.2)]
        exact wp_ifn c4 (wp_some rfl)
  rw [e1, e2]
/-! THE TREE IS TOLD (the reference) -/
def xT (T : ZTs) (b w : Nat) (x : Int32) : ZTs := ZTs.mk T.tv (zt T.wd b w x) T.kp (zu T.ch b true) T.kt T.sq T.jr
def xI (T : ZTs) (i w : Nat) (x : Int32) : ZTs := xT T (30 + i / 2) (8 * (i % 2) + w) x
def xGive (T : ZTs) (b : Nat) : ZTs := xT T 29 ((b - 42) / 32) (zclr (T.wd 29 ((b - 42) / 32)) ((b - 42) % 32))
def xTake (T : ZTs) : ZTs := ZTs.mk T.tv (tTake T.wd (zLow T.wd)) T.kp (zu (zu T.ch 29 true) (42 + zLow T.wd) true) T.kt T.sq T.jr
theorem m_tell (K : px_K) (N : Nat) (hK : zKm K) (t : px_W) (s : px_S) (T : ZTs) (h : zRt s T) (b w : Nat) (x : Int32) (hb : b < 106) (hw : w < 16) : ∃ s', f_M_tell_28 K N (iN b) (iN w) x s t = some (.inl none, s', t) ∧ zRt s' (xT T b w x) ∧ zFt s s' := by
  have h39 : K.2.2 39 = 1696 := hK.2.2.2.2.2.2.2.2.2.2.1
  have h41 : K.2.2 41 = 106 := hK.2.2.2.2.2.2.2.2.2.2.2.2.1
  apply wp_B
  unfold f_M_tell_28
  have e : (16 : Int32) * iN b + iN w = iN (16 * b + w) := by rw [iL16, iN_mul, iN_add]
  rw [e, iN_nat (by omega), iN_nat (by omega)]
  refine wp_gd (by rw [h39]; exact iN_in (by omega) (by omega)) (wp_let (wp_gd (by rw [h41]; exact iN_in (by omega) (by omega)) (wp_let (wp_rB ⟨⟨?_, ?_⟩, ?_⟩))))
  · exact zRv_row (zRv_row h.1 (by omega)) (by omega)
  · obtain ⟨j1, j2, j3, j4, j5, j6⟩ := h.2
    refine ⟨fun c v hc hv => ?_, fun c v hc hv hx => ?_, fun c hc => ?_, fun c hc => ?_, j5, j6⟩
    · rw [sA_arr_ne (by omega), sA_arr]
      show _ = zt T.wd b w x c v
      by_cases hcv : c = b ∧ v = w
      · rw [hcv.1, hcv.2, upd_self, zt_self]
      · rw [upd_ne (by omega), zt_ne (by omega)]; exact j1 c v hc hv
    · rw [sA_arr_ne (by omega), sA_arr_ne (by omega)]; exact j2 c v hc hv hx
    · rw [sA_arr]
      show _ = bN (zu T.ch b true c)
      by_cases hcb : c = b
      · rw [hcb, upd_self, zu_self]; rfl
      · rw [upd_ne hcb, zu_ne _ _ hcb, sA_arr_ne (by omega)]; exact j3 c hc
    · rw [sA_arr_ne (by omega), sA_arr_ne (by omega)]; exact j4 c hc
  · exact zFt_trans (zFt_sA (by omega)) (zFt_sA (by omega))
theorem m_tellInode (K : px_K) (N : Nat) (hK : zKm K) (t : px_W) (s : px_S) (T : ZTs) (h : zRt s T) (i w : Nat) (x : Int32) (hi : i < 24) (hw : w < 8) : ∃ s', f_M_tellInode_28 K N (iN i) (iN w) x s t = some (.inl none, s', t) ∧ zRt s' (xI T i w x) ∧ zFt s s' := by
  apply wp_B
  unfold f_M_tellInode_28
  rw [iN_half (by omega), iN_odd (by omega)]
  obtain ⟨s1, a1, a2, a3⟩ := m_tell K N hK t s T h (30 + i / 2) (8 * (i % 2) + w) x (by omega) (by omega)
  exact wp_bv a1 (wp_rB ⟨a2, a3⟩)
theorem m_giveBack (K : px_K) (N : Nat) (hK : zKm K) (t : px_W) (s : px_S) (T : ZTs) (h : zRt s T) (b : Nat) (h42 : 42 ≤ b) (h106 : b < 106) : ∃ s', f_M_giveBack_28 K N (iN b) s t = some (.inl none, s', t) ∧ zRt s' (xGive T b) ∧ zFt s s' := by
  apply wp_B
  obtain ⟨k, rfl⟩ : ∃ k, b = 42 + k := ⟨b - 42, by omega⟩
  have ek : 42 + k - 42 = k := by omega
  obtain ⟨e1, e2, e3⟩ := iN_q (k := k) (by omega)
  have hws : zWs s T.wd := h.2.1
  unfold f_M_giveBack_28 xGive
  rw [ek, e1, e3, e2]
  refine wp_bi (zWs_word K N hK t hws 29 (k / 32) (by omega) (by omega)) ?_
  rw [zclr_eq _ _ (by omega)]
  obtain ⟨s1, a1, a2, a3⟩ := m_tell K N hK t s T h 29 (k / 32) (zclr (T.wd 29 (k / 32)) (k % 32)) (by omega) (by omega)
  exact wp_bv a1 (wp_rB ⟨a2, a3⟩)
theorem m_take_loop (K : px_K) (N : Nat) (hK : zKm K) (t : px_W) {s : px_S} {W : ZSt} (h : zWs s W) (hl : 1 ≤ zLeft W) : ∀ (d k n : Nat), k + d = zLow W → d < n → l_M_take_28_2 K N n (iN (42 + k)) s t = some (.inl (8, [iN (42 + zLow W)], s, t)) := by
  obtain ⟨l1, l2⟩ := zLow_lt hl
  intro d
  induction d with
  | zero =>
    intro k n hk hn
    obtain ⟨n, rfl⟩ : ∃ n', n = n' + 1 := ⟨n - 1, by omega⟩
    have hk : k = zLow W := by omega
    subst hk
    obtain ⟨r, e1, e2⟩ : wp (l_M_take_28_2 K N (n + 1) (iN (42 + zLow W)) s t) (fun r => r = .inl (8, [iN (42 + zLow W)], s, t)) := by
      unfold l_M_take_28_2
      refine wp_bi (m_isUsed K N hK t h (zLow W) l1) ?_
      rw [l2]
      exact wp_if rfl (wp_some rfl)
    rw [e1, e2]
  | succ d ih =>
    intro k n hk hn
    obtain ⟨n, rfl⟩ : ∃ n', n = n' + 1 := ⟨n - 1, by omega⟩
    have e3 : iN (42 + k) + (1 : Int32) = iN (42 + (k + 1)) := by rw [iL1, iN_add]; congr 1
    obtain ⟨r, e1, e2⟩ : wp (l_M_take_28_2 K N (n + 1) (iN (42 + k)) s t) (fun r => r = .inl (8, [iN (42 + zLow W)], s, t)) := by
      unfold l_M_take_28_2
      refine wp_bi (m_isUsed K N hK t h k (by omega)) ?_
      rw [zLow_min (show k < zLow W by omega) (by omega), e3]
      exact wp_ifn (by decide) ⟨_, ih (k + 1) n (by omega) (by omega), rfl⟩
    rw [e1, e2]
theorem m_take34 (K : px_K) (N : Nat) (hK : zKm K) (t : px_W) (b : Nat) (hb : b < 106) : ∀ (d m n : Nat) (s : px_S) (T : ZTs), m + d = 16 → d < n → zRt s T → wp (l_M_take_28_34 K N n (iN b) (iN m) s t) (zC 44 [] t (fun s' => (∃ T' : ZTs, zRt s' T' ∧ T'.tv = T.tv ∧ T'.kp = T.kp ∧ T'.kt = T.kt ∧ T'.sq = T.sq ∧ T'.jr = T.jr ∧ T'.wd = (fun c v => if c = b ∧ m ≤ v ∧ v < 16 then 0 else T.wd c v) ∧ (T'.ch = if m < 16 then zu T.ch b true else T.ch)) ∧ zFt s s')) := by
  intro d
  induction d with
  | zero =>
    intro m n s T hm hn h
    obtain ⟨n, rfl⟩ : ∃ n', n = n' + 1 := ⟨n - 1, by omega⟩
    have hm : m = 16 := by omega
    subst hm
    unfold l_M_take_28_34
    refine wp_if (by decide) (wp_rC ⟨⟨T, h, rfl, rfl, rfl, rfl, rfl, ?_, by rw [if_neg (by omega)]⟩, zFt_refl s⟩)
    funext c v; rw [if_neg (by omega)]
  | succ d ih =>
    intro m n s T hm hn h
    obtain ⟨n, rfl⟩ : ∃ n', n = n' + 1 := ⟨n - 1, by omega⟩
    have e3 : iN m + (1 : Int32) = iN (m + 1) := by rw [iL1, iN_add]
    unfold l_M_take_28_34
    rw [e3]
    refine wp_ifn (by rw [iL16, iN_le (by omega) (by omega)]; omega) ?_
    obtain ⟨s1, a1, a2, a3⟩ := m_tell K N hK t s T h b m 0 hb (by omega)
    refine wp_bv a1 (wp_imp (ih (m + 1) n s1 _ (by omega) (by omega) a2) ?_)
    rintro r ⟨s', r1, ⟨T', q1, q2, q3, q4, q5, q6, q7, q8⟩, r3⟩
    refine ⟨s', r1, ⟨T', q1, q2, q3, q4, q5, q6, ?_, ?_⟩, zFt_trans a3 r3⟩
    · rw [q7]
      funext c v
      show (if c = b ∧ m + 1 ≤ v ∧ v < 16 then 0 else zt T.wd b m 0 c v) = _
      by_cases hcv : c = b ∧ v = m
      · rw [hcv.1, hcv.2, if_neg (by omega), if_pos (by omega), zt_self]
      · rw [zt_ne (by omega)]
        by_cases hle : c = b ∧ m ≤ v ∧ v < 16
        · rw [if_pos (by omega), if_pos hle]
        · rw [if_neg (by omega), if_neg hle]
    · rw [q8, if_pos (c := m < 16) (by omega)]
      show (if m + 1 < 16 then zu (zu T.ch b true) b true else zu T.ch b true) = _
      rw [zu_zu]
      split <;> rfl
theorem m_take (K : px_K) (N : Nat) (hN : 2000 ≤ N) (hK : zKm K) (t : px_W) (s : px_S) (T : ZTs) (h : zRt s T) (hl : 1 ≤ zLeft T.wd) : ∃ s', f_M_take_28 K N s t = some (.inl (some (.int (iN (42 + zLow T.wd)))), s', t) ∧ zRt s' (xTake T) ∧ zFt s s' := by
  apply wp_A
  obtain ⟨l1, l2⟩ := zLow_lt hl
  have hws : zWs s T.wd := h.2.1
  obtain ⟨k, hk⟩ : ∃ k, k = zLow T.wd := ⟨_, rfl⟩
  obtain ⟨e1, e2, e3⟩ := iN_q (k := k) (by omega)
  unfold f_M_take_28
  have hlp : l_M_take_28_2 K N N (42 : Int32) s t = _ := m_take_loop K N hK t hws hl (zLow T.wd) 0 N (by omega) (by omega)
  rw [← hk] at hlp ⊢
  refine wp_lp hlp (wp_if rfl ?_)
  show wp (px_bi _ _ _) _
  rw [e1, e3, e2]
  refine wp_bi (zWs_word K N hK t hws 29 (k / 32) (by omega) (by omega)) ?_
  rw [zset_eq _ _ (by omega)]
  obtain ⟨s1, a1, a2, a3⟩ := m_tell K N hK t s T h 29 (k / 32) (zset (T.wd 29 (k / 32)) (k % 32)) (by omega) (by omega)
  refine wp_bv a1 ?_
  obtain ⟨s2, b1, ⟨T', q1, q2, q3, q4, q5, q6, q7, q8⟩, b3⟩ := wp_C (m_take34 K N hK t (42 + k) (by omega) 16 0 N s1 _ (by omega) (by omega) a2)
  refine wp_lp b1 (wp_if rfl (wp_rA ⟨?_, zFt_trans a3 b3⟩))
  have eT : T' = xTake T := by
    have e : T' = ZTs.mk T'.tv T'.wd T'.kp T'.ch T'.kt T'.sq T'.jr := rfl
    rw [e, q2, q3, q4, q5, q6, q7, q8, if_pos (by omega)]
    unfold xTake
    rw [← hk]
    show ZTs.mk T.tv _ T.kp (zu (zu T.ch 29 true) (42 + k) true) T.kt T.sq T.jr = _
    congr 1
    funext c v
    show (if c = 42 + k ∧ 0 ≤ v ∧ v < 16 then 0 else zt T.wd 29 (k / 32) (zset (T.wd 29 (k / 32)) (k % 32)) c v) = tTake T.wd k c v
    unfold tTake
    by_cases hc : c = 42 + k
    · rw [if_pos hc]
      by_cases hv : v < 16
      · rw [if_pos ⟨hc, Nat.zero_le _, hv⟩, if_pos hv]
      · rw [if_neg (fun hx => hv hx.2.2), if_neg hv, hc, zt_blk (by omega)]
    · rw [if_neg (fun hx => hc hx.1), if_neg hc]
  rw [← eT]; exact q1
/-- a block for an inode -/
def xFor1 (T : ZTs) (i k : Nat) : ZTs := if 4 ≤ k ∧ tF T.wd i = 0 then xI (xTake T) i 6 (iN (42 + zLow T.wd)) else T
def xFor2 (T : ZTs) (i k : Nat) : ZTs := if k < 4 then xI (xTake T) i (2 + k) (iN (42 + zLow T.wd)) else xT (xTake T) (tF (xTake T).wd i) (k - 4) (iN (42 + zLow T.wd))
def xFor (T : ZTs) (i k : Nat) : ZTs := xFor2 (xFor1 T i k) i k
theorem xFor1_wd (T : ZTs) (i k : Nat) : (xFor1 T i k).wd = if 4 ≤ k ∧ tF T.wd i = 0 then zTk1 T.wd i else T.wd := by
  unfold xFor1; split <;> rfl
theorem xFor2_wd (T : ZTs) (i k : Nat) : (xFor2 T i k).wd = zTk2 T.wd i k := by
  unfold xFor2 zTk2
  split <;> rfl
/-- what holds where a block may be taken -/
theorem zfor_1 {W : ZSt} (h : ZW W) {i k : Nat} (hi : i < 24) (hk : k < 20) (hk0 : tI W i 0 ≠ 0) (hl : zWn W i k ≤ zLeft W) (hD : tI W i 0 = 1 → tS W i ≤ 8 * k) (hc : 4 ≤ k ∧ tF W i = 0) : ZPs W (zTk1 W i) i 20 ∧ 1 ≤ zLeft (zTk1 W i) := by
  have h2 : 2 ≤ zLeft W := by unfold zWn at hl; rw [if_pos hc] at hl; exact hl
  have hp := zTk1_ok h hi hk0 hc.2 (by omega) (fun hd => by have := hD hd; omega)
  refine ⟨hp, ?_⟩
  obtain ⟨l1, l2⟩ := zLow_lt (T := W) (by omega)
  have ht := zLeft_take l1 l2
  have e : zLeft (zTk1 W i) = zLeft (tTake W (zLow W)) := by
    unfold zLeft
    congr 1
    refine List.filter_congr (fun q _ => ?_)
    rw [hp.u q, tTake_tU]
  omega
theorem m_takeFor (K : px_K) (N : Nat) (hN : 2000 ≤ N) (hK : zKm K) (t : px_W) (s : px_S) (T : ZTs) (h : zRt s T) (hw : ZW T.wd) (i k : Nat) (hi : i < 24) (hk : k < 20) (hk0 : tI T.wd i 0 ≠ 0) (hl : zWn T.wd i k ≤ zLeft T.wd) (hD : tI T.wd i 0 = 1 → tS T.wd i ≤ 8 * k) : ∃ s', f_M_takeFor_28 K N (iN i) (iN k) s t = some (.inl (some (.int (iN (42 + zLow (xFor1 T i k).wd)))), s', t) ∧ zRt s' (xFor T i k) ∧ zFt s s' := by
  apply wp_A
  have hws : zWs s T.wd := h.2.1
  have h4 : (4 : Int32) = iN 4 := rfl
  unfold f_M_takeFor_28
  refine wp_bi (m_wants K N hK t hws hw.a i k hi hk) ?_
  have e2k : (2 : Int32) + iN k = iN (2 + k) := by rw [iL2, iN_add]
  have ek4 : 4 ≤ k → iN k - (4 : Int32) = iN (k - 4) := fun hx => by rw [h4, iN_sub hx]
  -- the second block, once the first is there
  have go : ∀ (u : px_S) (U : ZTs), zRt u U → ZW U.wd → 1 ≤ zLeft U.wd → (4 ≤ k → tF U.wd i ≠ 0) → zFt s u → ∃ s1, f_M_take_28 K N u t = some (.inl (some (.int (iN (42 + zLow U.wd)))), s1, t) ∧ wp (if (4 : Int32) ≤ iN k then (px_bi (f_M_ofInode_28 K N (iN i) (6 : Int32) s1 t) (fun v16 s13 t14 => (px_bv (f_M_tell_28 K N v16 (iN k - (4 : Int32)) (iN (42 + zLow U.wd)) s13 t14) (fun s18 t19 => (some (.inl (some (.int (iN (42 + zLow U.wd)))), s18, t19))) (fun x22 s18 t19 => none))) (fun x17 s13 t14 => none)) else (px_bv (f_M_tellInode_28 K N (iN i) (iN (2 + k)) (iN (42 + zLow U.wd)) s1 t) (fun s23 t24 => (some (.inl (some (.int (iN (42 + zLow U.wd)))), s23, t24))) (fun x27 s23 t24 => none))) (zA (iN (42 + zLow U.wd)) t (fun s' => zRt s' (xFor2 U i k) ∧ zFt s s')) := by
    intro u U hu hwu hlu hfu hsu
    obtain ⟨s1, a1, a2, a3⟩ := m_take K N hN hK t u U hu hlu
    refine ⟨s1, a1, ?_⟩
    obtain ⟨l1, l2⟩ := zLow_lt hlu
    have htk := hwu.take l2
    have hws1 : zWs s1 (tTake U.wd (zLow U.wd)) := a2.2.1
    by_cases hk4 : 4 ≤ k
    · refine wp_if (by rw [h4]; exact (iN_le (by omega) (by omega)).mpr hk4) ?_
      have hr : f_M_ofInode_28 K N (iN i) (6 : Int32) s1 t = _ := m_ofInode K N hK t hws1 i 6 hi (by omega)
      obtain ⟨f1, f2⟩ := hwu.a.pv i 20 hi (by omega)
      have f1 : tI U.wd i 6 = iN (tF U.wd i) := by rw [tF_eq]; exact f1
      rw [← tF_eq] at f2
      rw [htk.2.1 i 6 hi, f1] at hr
      refine wp_bi hr ?_
      rw [ek4 hk4]
      have hf0 := hfu hk4
      obtain ⟨s2, b1, b2, b3⟩ := m_tell K N hK t s1 (xTake U) a2 (tF U.wd i) (k - 4) (iN (42 + zLow U.wd)) (by omega) (by omega)
      refine wp_bv b1 (wp_rA ⟨?_, zFt_trans hsu (zFt_trans a3 b3)⟩)
      have hF : tF (xTake U).wd i = tF U.wd i := by show n32 (tI (tTake U.wd (zLow U.wd)) i 6) = n32 (tI U.wd i 6); rw [htk.2.1 i 6 hi]
      unfold xFor2; rw [if_neg (by omega), hF]; exact b2
    · refine wp_ifn (by rw [h4, iN_le (by omega) (by omega)]; exact hk4) ?_
      obtain ⟨s2, b1, b2, b3⟩ := m_tellInode K N hK t s1 (xTake U) a2 i (2 + k) (iN (42 + zLow U.wd)) hi (by omega)
      refine wp_bv b1 (wp_rA ⟨?_, zFt_trans hsu (zFt_trans a3 b3)⟩)
      unfold xFor2; rw [if_pos (by omega)]; exact b2
  rw [e2k]
  by_cases hc : 4 ≤ k ∧ tF T.wd i = 0
  · have ewn : zWn T.wd i k = 2 := by unfold zWn; rw [if_pos hc]
    rw [ewn]
    refine wp_ifn (fun hx => hx rfl) ?_
    obtain ⟨hp, hl2⟩ := zfor_1 hw hi hk hk0 hl hD hc
    obtain ⟨s1, a1, a2, a3⟩ := m_take K N hN hK t s T h (by omega)
    refine wp_bi a1 ?_
    obtain ⟨s2, b1, b2, b3⟩ := m_tellInode K N hK t s1 (xTake T) a2 i 6 (iN (42 + zLow T.wd)) hi (by omega)
    refine wp_bv b1 ?_
    have e1 : xFor1 T i k = xI (xTake T) i 6 (iN (42 + zLow T.wd)) := by unfold xFor1; rw [if_pos hc]
    have hU : (xI (xTake T) i 6 (iN (42 + zLow T.wd))).wd = zTk1 T.wd i := rfl
    have e2 : xFor T i k = xFor2 (xI (xTake T) i 6 (iN (42 + zLow T.wd))) i k := by unfold xFor; rw [e1]
    rw [e2, e1]
    obtain ⟨s3, c1, c2⟩ := go s2 _ b2 (by rw [hU]; exact hp.w) (by rw [hU]; exact hl2) (fun _ => by
      rw [hU, tF_eq]; unfold tB; rw [hp.n, n32_iN (by have := (zLow_lt (T := T.wd) (by omega)).1; omega)]; omega) (zFt_trans a3 b3)
    exact wp_bi c1 c2
  · have ewn : zWn T.wd i k = 1 := by unfold zWn; rw [if_neg hc]
    rw [ewn] at hl ⊢
    refine wp_if (by decide) ?_
    have e1 : xFor1 T i k = T := by unfold xFor1; rw [if_neg hc]
    have e2 : xFor T i k = xFor2 T i k := by unfold xFor; rw [e1]
    rw [e2, e1]
    obtain ⟨s3, c1, c2⟩ := go s T h hw hl (fun hx hy => hc ⟨hx, hy⟩) (zFt_refl s)
    exact wp_bi c1 c2
