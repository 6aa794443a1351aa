/-! RELATIONS UNDER CHANGES ELSEWHERE -/
theorem zRs_fm {s u : px_S} {v : ZVs} (h : zRs s v) (hf : zFm s u) (p : ZPw) : zRs u (v.s_p p) := by
  obtain ⟨r1, r2, r3, r4, r5, r6, r7, r8, r9, r10⟩ := h
  obtain ⟨f1, f2, f3, f4⟩ := hf
  refine ⟨by rw [f2 26 (by omega) (by omega)]; exact r1, by rw [f2 27 (by omega) (by omega)]; exact r2, by rw [f2 28 (by omega) (by omega)]; exact r3, by rw [f2 31 (by omega) (by omega)]; exact r4, by rw [f2 32 (by omega) (by omega)]; exact r5, by rw [f2 33 (by omega) (by omega)]; exact r6, by rw [f2 34 (by omega) (by omega)]; exact r7, by rw [f2 35 (by omega) (by omega)]; exact r8, fun i hi => ?_, fun k hk => ?_⟩
  · rw [f1 35 (by omega), f1 36 (by omega), f1 37 (by omega)]; exact r9 i hi
  · rw [f1 38 (by omega)]; exact r10 k hk
theorem zRp_row {s : px_S} {dv : Nat → ZDv} (h : zRp s dv) {c : Nat} {g : Nat → Int32} (hc : c < 29 ∨ 34 < c) : zRp (sF s c g) dv := by
  intro k hk
  obtain ⟨h1, h2, h3, h4, h5, h6⟩ := h k hk
  exact ⟨h1, by rw [sF_arr_ne (by omega)]; exact h2, fun j hj => by rw [sF_arr_ne (by omega), sF_arr_ne (by omega)]; exact h3 j hj, fun b w hb hw => by rw [sF_arr_ne (by omega)]; exact h4 b w hb hw, by rw [sF_arr_ne (by omega)]; exact h5, by rw [sF_arr_ne (by omega)]; exact h6⟩
theorem zRw_row {s : px_S} {p : ZPw} (h : zRw s p) {c : Nat} {g : Nat → Int32} (hc : c < 29 ∨ 34 < c) : zRw (sF s c g) p := ⟨zRp_row h.1 hc, h.2.1, h.2.2.1, h.2.2.2.1, h.2.2.2.2⟩
theorem zRw_int {s : px_S} {p : ZPw} (h : zRw s p) {r : Nat} {x : Int32} (hr : r ≠ 29 ∧ r ≠ 30) : zRw (sR s r x) p := by
  obtain ⟨h1, h2, h3, h4, h5⟩ := h
  exact ⟨zRp_sR h1 _ _, by rw [sR_1, if_neg (fun hx => hr.1 hx.symm)]; exact h2, by rw [sR_1, if_neg (fun hx => hr.2 hx.symm)]; exact h3, h4, h5⟩
theorem zRw_fs {s u : px_S} {p : ZPw} (h : zRw s p) (hf : zFs s u) : zRw u p := by
  obtain ⟨h1, h2, h3, h4, h5⟩ := h
  obtain ⟨f1, f2, f3, f4⟩ := hf
  refine ⟨fun k hk => ?_, by rw [f2]; exact h2, by rw [f2]; exact h3, h4, fun hx => by rw [f3]; exact h5 hx⟩
  obtain ⟨g1, g2, g3, g4, g5, g6⟩ := h1 k hk
  exact ⟨g1, by rw [f1 30 (by omega)]; exact g2, fun j hj => by rw [f1 31 (by omega), f1 32 (by omega)]; exact g3 j hj, fun b w hb hw => by rw [f1 29 (by omega)]; exact g4 b w hb hw, by rw [f1 33 (by omega)]; exact g5, by rw [f1 34 (by omega)]; exact g6⟩
theorem zRs_plc {s : px_S} {v : ZVs} (h : zRs s v) (a : Nat) : zRs (sR s 35 (iN a)) (v.s_plc a) := by
  obtain ⟨r1, r2, r3, r4, r5, r6, r7, r8, r9, r10⟩ := h
  exact ⟨by rw [sR_1, if_neg (by omega)]; exact r1, by rw [sR_1, if_neg (by omega)]; exact r2, by rw [sR_1, if_neg (by omega)]; exact r3, by rw [sR_1, if_neg (by omega)]; exact r4, by rw [sR_1, if_neg (by omega)]; exact r5, by rw [sR_1, if_neg (by omega)]; exact r6, by rw [sR_1, if_neg (by omega)]; exact r7, by rw [sR_1, if_pos rfl]; rfl, r9, r10⟩
theorem zRs_opn {s : px_S} {v : ZVs} (h : zRs s v) (a : Nat) : zRs (sR s 32 (iN a)) (v.s_opn a) := by
  obtain ⟨r1, r2, r3, r4, r5, r6, r7, r8, r9, r10⟩ := h
  exact ⟨by rw [sR_1, if_neg (by omega)]; exact r1, by rw [sR_1, if_neg (by omega)]; exact r2, by rw [sR_1, if_neg (by omega)]; exact r3, by rw [sR_1, if_neg (by omega)]; exact r4, by rw [sR_1, if_pos rfl]; rfl, by rw [sR_1, if_neg (by omega)]; exact r6, by rw [sR_1, if_neg (by omega)]; exact r7, by rw [sR_1, if_neg (by omega)]; exact r8, r9, r10⟩
/-- the epoch's slots rise -/
theorem zUpw_mono {v : ZVs} {e : Nat} : ∀ {l : List Nat} {m m' : Nat}, zUpw v e m l → m' ≤ m → (∀ j, m' ≤ j → j < m → v.se j ≠ e) → zUpw v e m' l := by
  intro l
  cases l with
  | nil => intro m m' _ _ _; trivial
  | cons x l =>
    intro m m' h hm hno
    obtain ⟨x1, x2, x3, x4, x5, x6⟩ := h
    exact ⟨by omega, x2, x3, x4, fun j j1 j2 => by
      by_cases hj : j < m
      · exact hno j j1 hj
      · exact x5 j (by omega) j2, x6⟩
theorem zUpw_range {v : ZVs} {e : Nat} (hb : ∀ s, s < v.n → v.se s = e → 1 ≤ v.sb s) (hn : v.n ≤ 64) : ∀ (d m : Nat), m + d = v.n → zUpw v e m ((List.range' m d).filter fun i => v.se i == e) := by
  intro d
  induction d with
  | zero => intro m _; trivial
  | succ d ih =>
    intro m hm
    have hih := ih (m + 1) (by omega)
    rw [List.range'_succ]
    by_cases he : v.se m = e
    · rw [List.filter_cons_of_pos (by rw [he]; exact beq_self_eq_true e)]
      exact ⟨Nat.le_refl _, by omega, he, hb m (by omega) he, fun j j1 j2 => by omega, hih⟩
    · rw [List.filter_cons_of_neg (by rw [beq_iff_eq]; exact he)]
      refine zUpw_mono hih (by omega) (fun j j1 j2 => ?_)
      have : j = m := by omega
      rw [this]; exact he
theorem zUpw_dl {v : ZVs} {e : Nat} (hb : ∀ s, s < v.n → v.se s = e → 1 ≤ v.sb s) (hn : v.n ≤ 64) : zUpw v e 0 (v.dl e) := by
  have := zUpw_range hb hn v.n 0 (by omega)
  unfold ZVs.dl zDl
  rw [List.range_eq_range']
  exact this
theorem zUpw_drop {v : ZVs} {e : Nat} : ∀ (c : Nat) {l : List Nat} {m : Nat}, zUpw v e m l → zUpw v e m (l.take c) ∧ zUpw v e (zEnd m (l.take c)) (l.drop c) := by
  intro c
  induction c with
  | zero => intro l m h; exact ⟨by rw [List.take_zero]; trivial, by rw [List.take_zero, List.drop_zero]; exact h⟩
  | succ c ih =>
    intro l m h
    cases l with
    | nil => exact ⟨trivial, trivial⟩
    | cons x l =>
      obtain ⟨x1, x2, x3, x4, x5, x6⟩ := h
      obtain ⟨i1, i2⟩ := ih x6
      exact ⟨⟨x1, x2, x3, x4, x5, i1⟩, i2⟩
