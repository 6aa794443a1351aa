/-! THE METHODS ARE WHAT THEIR ROWS SAY (by program). -/
theorem px_wdx_in : ∀ w ∈ px_wdx, w ∈ px_wd := by
  intro w hw
  simp only [px_wd, List.mem_append]
  exact Or.inr (Or.inr (Or.inr (Or.inr (Or.inr (Or.inr (Or.inr (Or.inr (Or.inr (Or.inr (Or.inr (Or.inr (Or.inr (Or.inr (Or.inr (Or.inr (Or.inr hw))))))))))))))))
theorem px_okT_of {M : px_M} {r : px_R} {C tx : String} {idx ik is ic k1 k2 k3 : Nat} {bytes : ByteArray} (t1 : r.2.1 = .new ik) (t2 : r.2.2.1 = 3) (t3 : px_cl[px_nm r 0]? = some (C, px_T0, 0)) (t4 : Bundle.fit C = true)
    (b0 : decode bytes 0 = .ok (.aload_n 0, 1)) (b1 : decode bytes 1 = .ok (.aload_n 1, 1)) (b2 : decode bytes 2 = .ok (.invokespecial idx, 3)) (b5 : decode bytes 5 = .ok (.return_, 1))
    (w1 : px_in px_wd k1 (.classLink M.nm.cls ik C) = true) (w2 : px_in px_wd k2 (.initialized C) = true) (w3 : px_in px_wd k3 (.methodLink M.nm.cls ic (Bundle.initS C)) = true)
    (hat : ∀ w ∈ px_at M.nm.cls ic C "java/lang/RuntimeException" idx bytes ["java/lang/Exception"], w ∈ px_wdx ∨ w ∈ px_four ∨ w = .methodLink M.nm.cls ic (Bundle.initS C)) (hss : (M.nm.cls, is, tx) ∈ px_ss)
    (d3 : decode M.by (r.1 + 3) = .ok (.dup, 1)) (d4 : decode M.by (r.1 + 4) = .ok (.ldc is, 2)) (d6 : decode M.by (r.1 + 6) = .ok (.invokespecial ic, 3)) (d9 : decode M.by (r.1 + 9) = .ok (.athrow, 1)) (hh : M.hf = []) : px_okT px_wd px_ss px_cl M r :=
  ⟨C, "java/lang/RuntimeException", tx, px_T0, ["java/lang/Exception"], bytes, idx, ik, is, ic, t1, t2, t3, t4, by decide +kernel, by decide +kernel, by decide, b0, b1, b2, b5, px_in_mem w1, px_in_mem w2, fun w hw => by
    rcases hat w hw with h | h | h
    · exact Or.inl (px_wdx_in w h)
    · exact Or.inr h
    · exact Or.inl (h ▸ px_in_mem w3), hss, d3, d4, d6, d9, fun h hm => by rw [hh] at hm; cases hm⟩
theorem ok_pm_E_init : px_okM px_wd px_ss px_cl px_P pm_E_init := px_ok0 650 645 (by decide +kernel) ⟨rfl, rfl⟩ (by decide +kernel) (by decide +kernel) (by decide) (by decide +kernel) (by decide +kernel) (by decide +kernel)
theorem ok_pm_E_make : px_okM px_wd px_ss px_cl px_P pm_E_make := by
  refine px_okM_of 645 (by decide +kernel) (Or.inl (px_in_mem (k := 781) (by decide +kernel))) (by decide +kernel) (by decide) (by decide +kernel) ⟨rfl, fun j h f hj hf => ?_⟩ (by decide +kernel) (fun i r hr hk => ?_)
  · match j, hj, hf with
    | 0, hj, hf =>
      cases hj; cases hf
      refine ⟨rfl, rfl, ⟨_, rfl, rfl⟩, by decide, "java/lang/IllegalStateException", px_T0, rfl, (px_in_mem (k := 1070) (by decide +kernel)), (px_in_mem (k := 1066) (by decide +kernel)), fun hlt c' C' T' hne hc => ?_⟩
      exact absurd hlt (by decide)
    | _ + 1, hj, hf => cases hj
  · have h8 : px_no2 pm_E_make = true := by decide +kernel
    have := List.all_eq_true.mp h8 r (List.mem_of_getElem? hr)
    rw [hk] at this
    cases this
theorem ok_pm_E_find : px_okM px_wd px_ss px_cl px_P pm_E_find := px_ok0 782 645 (by decide +kernel) ⟨rfl, rfl⟩ (by decide +kernel) (by decide +kernel) (by decide) (by decide +kernel) (by decide +kernel) (by decide +kernel)
theorem ok_pm_E_write : px_okM px_wd px_ss px_cl px_P pm_E_write := by
  refine px_okM_of 645 (by decide +kernel) (Or.inl (px_in_mem (k := 783) (by decide +kernel))) (by decide +kernel) (by decide) (by decide +kernel) ⟨rfl, fun j h f hj hf => ?_⟩ (by decide +kernel) (fun i r hr hk => ?_)
  · match j, hj, hf with
    | 0, hj, hf =>
      cases hj; cases hf
      refine ⟨rfl, rfl, ⟨_, rfl, rfl⟩, by decide, "java/lang/IllegalStateException", px_T0, rfl, (px_in_mem (k := 1070) (by decide +kernel)), (px_in_mem (k := 1066) (by decide +kernel)), fun hlt c' C' T' hne hc => ?_⟩
      exact absurd hlt (by decide)
    | _ + 1, hj, hf => cases hj
  · have h8 : px_no2 pm_E_write = true := by decide +kernel
    have := List.all_eq_true.mp h8 r (List.mem_of_getElem? hr)
    rw [hk] at this
    cases this
theorem ok_pm_E_read : px_okM px_wd px_ss px_cl px_P pm_E_read := by
  refine px_okM_of 645 (by decide +kernel) (Or.inr ⟨rfl, px_in_mem (k := 784) (by decide +kernel)⟩) (by decide +kernel) (by decide) (by decide +kernel) ⟨rfl, fun j h f hj => by cases hj⟩ (by decide +kernel) (fun i r hr hk => ?_)
  have hi : i = 4 ∨ i = 15 ∨ i = 32 := by
    have h9 : ((List.range pm_E_read.cd.length).all (fun i => match pm_E_read.cd[i]? with
      | some r => !(px_kd r == 2) || decide (i = 4 ∨ i = 15 ∨ i = 32)
      | none => true)) = true := by decide +kernel
    have h8 := List.all_eq_true.mp h9 i (List.mem_range.mpr (List.getElem?_eq_some_iff.mp hr).1)
    rw [hr] at h8
    dsimp only at h8
    rw [hk] at h8
    simpa using h8
  rcases hi with rfl | rfl | rfl
  · cases hr
    exact px_okT_of (C := "java/lang/IllegalStateException") (tx := "it is down") (idx := 7) (ik := 76) (is := 92) (ic := 94) (k1 := 1070) (k2 := 1073) (k3 := 1074) (bytes := Bundle.six) rfl rfl rfl (by decide +kernel) (by decide +kernel) (by decide +kernel) (by decide +kernel) (by decide +kernel) (by decide +kernel) (by decide +kernel) (by decide +kernel) (by decide +kernel) (by decide +kernel) (by decide +kernel) (by decide +kernel) (by decide +kernel) (by decide +kernel) rfl
  · cases hr
    exact px_okT_of (C := "java/util/NoSuchElementException") (tx := "no such file, or place") (idx := 13) (ik := 101) (is := 103) (ic := 105) (k1 := 1075) (k2 := 1076) (k3 := 1077) (bytes := prog_18_method_4_code) rfl rfl rfl (by decide +kernel) (by decide +kernel) (by decide +kernel) (by decide +kernel) (by decide +kernel) (by decide +kernel) (by decide +kernel) (by decide +kernel) (by decide +kernel) (by decide +kernel) (by decide +kernel) (by decide +kernel) (by decide +kernel) (by decide +kernel) rfl
  · cases hr
    exact px_okT_of (C := "java/lang/IllegalStateException") (tx := "it goes down by this") (idx := 7) (ik := 76) (is := 112) (ic := 94) (k1 := 1070) (k2 := 1073) (k3 := 1074) (bytes := Bundle.six) rfl rfl rfl (by decide +kernel) (by decide +kernel) (by decide +kernel) (by decide +kernel) (by decide +kernel) (by decide +kernel) (by decide +kernel) (by decide +kernel) (by decide +kernel) (by decide +kernel) (by decide +kernel) (by decide +kernel) (by decide +kernel) (by decide +kernel) rfl
theorem ok_pm_E_cut : px_okM px_wd px_ss px_cl px_P pm_E_cut := by
  refine px_okM_of 645 (by decide +kernel) (Or.inl (px_in_mem (k := 785) (by decide +kernel))) (by decide +kernel) (by decide) (by decide +kernel) ⟨rfl, fun j h f hj hf => ?_⟩ (by decide +kernel) (fun i r hr hk => ?_)
  · match j, hj, hf with
    | 0, hj, hf =>
      cases hj; cases hf
      refine ⟨rfl, rfl, ⟨_, rfl, rfl⟩, by decide, "java/lang/IllegalStateException", px_T0, rfl, (px_in_mem (k := 1070) (by decide +kernel)), (px_in_mem (k := 1066) (by decide +kernel)), fun hlt c' C' T' hne hc => ?_⟩
      exact absurd hlt (by decide)
    | _ + 1, hj, hf => cases hj
  · have h8 : px_no2 pm_E_cut = true := by decide +kernel
    have := List.all_eq_true.mp h8 r (List.mem_of_getElem? hr)
    rw [hk] at this
    cases this
theorem ok_pm_E_remove : px_okM px_wd px_ss px_cl px_P pm_E_remove := by
  refine px_okM_of 645 (by decide +kernel) (Or.inl (px_in_mem (k := 786) (by decide +kernel))) (by decide +kernel) (by decide) (by decide +kernel) ⟨rfl, fun j h f hj hf => ?_⟩ (by decide +kernel) (fun i r hr hk => ?_)
  · match j, hj, hf with
    | 0, hj, hf =>
      cases hj; cases hf
      refine ⟨rfl, rfl, ⟨_, rfl, rfl⟩, by decide, "java/lang/IllegalStateException", px_T0, rfl, (px_in_mem (k := 1070) (by decide +kernel)), (px_in_mem (k := 1066) (by decide +kernel)), fun hlt c' C' T' hne hc => ?_⟩
      exact absurd hlt (by decide)
    | _ + 1, hj, hf => cases hj
  · have h8 : px_no2 pm_E_remove = true := by decide +kernel
    have := List.all_eq_true.mp h8 r (List.mem_of_getElem? hr)
    rw [hk] at this
    cases this
theorem ok_pm_E_move : px_okM px_wd px_ss px_cl px_P pm_E_move := by
  refine px_okM_of 645 (by decide +kernel) (Or.inl (px_in_mem (k := 787) (by decide +kernel))) (by decide +kernel) (by decide) (by decide +kernel) ⟨rfl, fun j h f hj hf => ?_⟩ (by decide +kernel) (fun i r hr hk => ?_)
  · match j, hj, hf with
    | 0, hj, hf =>
      cases hj; cases hf
      refine ⟨rfl, rfl, ⟨_, rfl, rfl⟩, by decide, "java/lang/IllegalStateException", px_T0, rfl, (px_in_mem (k := 1070) (by decide +kernel)), (px_in_mem (k := 1066) (by decide +kernel)), fun hlt c' C' T' hne hc => ?_⟩
      exact absurd hlt (by decide)
    | _ + 1, hj, hf => cases hj
  · have h8 : px_no2 pm_E_move = true := by decide +kernel
    have := List.all_eq_true.mp h8 r (List.mem_of_getElem? hr)
    rw [hk] at this
    cases this
theorem ok_pm_E_inode : px_okM px_wd px_ss px_cl px_P pm_E_inode := px_ok0 788 645 (by decide +kernel) ⟨rfl, rfl⟩ (by decide +kernel) (by decide +kernel) (by decide) (by decide +kernel) (by decide +kernel) (by decide +kernel)
theorem ok_pm_E_entry : px_okM px_wd px_ss px_cl px_P pm_E_entry := px_ok0 789 645 (by decide +kernel) ⟨rfl, rfl⟩ (by decide +kernel) (by decide +kernel) (by decide) (by decide +kernel) (by decide +kernel) (by decide +kernel)
theorem ok_pm_E_sync : px_okM px_wd px_ss px_cl px_P pm_E_sync := by
  refine px_okM_of 645 (by decide +kernel) (Or.inl (px_in_mem (k := 790) (by decide +kernel))) (by decide +kernel) (by decide) (by decide +kernel) ⟨rfl, fun j h f hj hf => ?_⟩ (by decide +kernel) (fun i r hr hk => ?_)
  · match j, hj, hf with
    | 0, hj, hf =>
      cases hj; cases hf
      refine ⟨rfl, rfl, ⟨_, rfl, rfl⟩, by decide, "java/lang/IllegalStateException", px_T0, rfl, (px_in_mem (k := 1070) (by decide +kernel)), (px_in_mem (k := 1066) (by decide +kernel)), fun hlt c' C' T' hne hc => ?_⟩
      exact absurd hlt (by decide)
    | _ + 1, hj, hf => cases hj
  · have h8 : px_no2 pm_E_sync = true := by decide +kernel
    have := List.all_eq_true.mp h8 r (List.mem_of_getElem? hr)
    rw [hk] at this
    cases this
theorem ok_pm_E_land : px_okM px_wd px_ss px_cl px_P pm_E_land := by
  refine px_okM_of 645 (by decide +kernel) (Or.inl (px_in_mem (k := 791) (by decide +kernel))) (by decide +kernel) (by decide) (by decide +kernel) ⟨rfl, fun j h f hj hf => ?_⟩ (by decide +kernel) (fun i r hr hk => ?_)
  · match j, hj, hf with
    | 0, hj, hf =>
      cases hj; cases hf
      refine ⟨rfl, rfl, ⟨_, rfl, rfl⟩, by decide, "java/lang/IllegalStateException", px_T0, rfl, (px_in_mem (k := 1070) (by decide +kernel)), (px_in_mem (k := 1066) (by decide +kernel)), fun hlt c' C' T' hne hc => ?_⟩
      exact absurd hlt (by decide)
    | _ + 1, hj, hf => cases hj
  · have h8 : px_no2 pm_E_land = true := by decide +kernel
    have := List.all_eq_true.mp h8 r (List.mem_of_getElem? hr)
    rw [hk] at this
    cases this
theorem ok_pm_E_home : px_okM px_wd px_ss px_cl px_P pm_E_home := by
  refine px_okM_of 645 (by decide +kernel) (Or.inl (px_in_mem (k := 792) (by decide +kernel))) (by decide +kernel) (by decide) (by decide +kernel) ⟨rfl, fun j h f hj hf => ?_⟩ (by decide +kernel) (fun i r hr hk => ?_)
  · match j, hj, hf with
    | 0, hj, hf =>
      cases hj; cases hf
      refine ⟨rfl, rfl, ⟨_, rfl, rfl⟩, by decide, "java/lang/IllegalStateException", px_T0, rfl, (px_in_mem (k := 1070) (by decide +kernel)), (px_in_mem (k := 1066) (by decide +kernel)), fun hlt c' C' T' hne hc => ?_⟩
      exact absurd hlt (by decide)
    | _ + 1, hj, hf => cases hj
  · have h8 : px_no2 pm_E_home = true := by decide +kernel
    have := List.all_eq_true.mp h8 r (List.mem_of_getElem? hr)
    rw [hk] at this
    cases this
theorem ok_pm_E_limit : px_okM px_wd px_ss px_cl px_P pm_E_limit := px_ok0 793 645 (by decide +kernel) ⟨rfl, rfl⟩ (by decide +kernel) (by decide +kernel) (by decide) (by decide +kernel) (by decide +kernel) (by decide +kernel)
theorem ok_pm_E_crash : px_okM px_wd px_ss px_cl px_P pm_E_crash := px_ok0 794 645 (by decide +kernel) ⟨rfl, rfl⟩ (by decide +kernel) (by decide +kernel) (by decide) (by decide +kernel) (by decide +kernel) (by decide +kernel)
theorem ok_pm_E_lose : px_okM px_wd px_ss px_cl px_P pm_E_lose := px_ok0 795 645 (by decide +kernel) ⟨rfl, rfl⟩ (by decide +kernel) (by decide +kernel) (by decide) (by decide +kernel) (by decide +kernel) (by decide +kernel)
theorem ok_pm_E_mount : px_okM px_wd px_ss px_cl px_P pm_E_mount := by
  refine px_okM_of 645 (by decide +kernel) (Or.inl (px_in_mem (k := 796) (by decide +kernel))) (by decide +kernel) (by decide) (by decide +kernel) ⟨rfl, fun j h f hj hf => ?_⟩ (by decide +kernel) (fun i r hr hk => ?_)
  · match j, hj, hf with
    | 0, hj, hf =>
      cases hj; cases hf
      refine ⟨rfl, rfl, ⟨_, rfl, rfl⟩, by decide, "java/lang/IllegalStateException", px_T0, rfl, (px_in_mem (k := 1070) (by decide +kernel)), (px_in_mem (k := 1066) (by decide +kernel)), fun hlt c' C' T' hne hc => ?_⟩
      exact absurd hlt (by decide)
    | _ + 1, hj, hf => cases hj
  · have h8 : px_no2 pm_E_mount = true := by decide +kernel
    have := List.all_eq_true.mp h8 r (List.mem_of_getElem? hr)
    rw [hk] at this
    cases this
theorem ok_pm_E_attach : px_okM px_wd px_ss px_cl px_P pm_E_attach := by
  refine px_okM_of 645 (by decide +kernel) (Or.inl (px_in_mem (k := 797) (by decide +kernel))) (by decide +kernel) (by decide) (by decide +kernel) ⟨rfl, fun j h f hj hf => ?_⟩ (by decide +kernel) (fun i r hr hk => ?_)
  · match j, hj, hf with
    | 0, hj, hf =>
      cases hj; cases hf
      refine ⟨rfl, rfl, ⟨_, rfl, rfl⟩, by decide, "java/lang/IllegalStateException", px_T0, rfl, (px_in_mem (k := 1070) (by decide +kernel)), (px_in_mem (k := 1066) (by decide +kernel)), fun hlt c' C' T' hne hc => ?_⟩
      exact absurd hlt (by decide)
    | _ + 1, hj, hf => cases hj
  · have h8 : px_no2 pm_E_attach = true := by decide +kernel
    have := List.all_eq_true.mp h8 r (List.mem_of_getElem? hr)
    rw [hk] at this
    cases this
theorem ok_pm_E_slot : px_okM px_wd px_ss px_cl px_P pm_E_slot := px_ok0 798 645 (by decide +kernel) ⟨rfl, rfl⟩ (by decide +kernel) (by decide +kernel) (by decide) (by decide +kernel) (by decide +kernel) (by decide +kernel)
theorem ok_pm_E_word : px_okM px_wd px_ss px_cl px_P pm_E_word := px_ok0 799 645 (by decide +kernel) ⟨rfl, rfl⟩ (by decide +kernel) (by decide +kernel) (by decide) (by decide +kernel) (by decide +kernel) (by decide +kernel)
theorem ok_pm_E_count : px_okM px_wd px_ss px_cl px_P pm_E_count := px_ok0 800 645 (by decide +kernel) ⟨rfl, rfl⟩ (by decide +kernel) (by decide +kernel) (by decide) (by decide +kernel) (by decide +kernel) (by decide +kernel)
theorem ok_pm_E_isLoaded : px_okM px_wd px_ss px_cl px_P pm_E_isLoaded := by
  refine px_okM_of 645 (by decide +kernel) (Or.inl (px_in_mem (k := 801) (by decide +kernel))) (by decide +kernel) (by decide) (by decide +kernel) ⟨rfl, fun j h f hj hf => ?_⟩ (by decide +kernel) (fun i r hr hk => ?_)
  · match j, hj, hf with
    | 0, hj, hf =>
      cases hj; cases hf
      refine ⟨rfl, rfl, ⟨_, rfl, rfl⟩, by decide, "java/lang/IllegalStateException", px_T0, rfl, (px_in_mem (k := 1070) (by decide +kernel)), (px_in_mem (k := 1066) (by decide +kernel)), fun hlt c' C' T' hne hc => ?_⟩
      exact absurd hlt (by decide)
    | _ + 1, hj, hf => cases hj
  · have h8 : px_no2 pm_E_isLoaded = true := by decide +kernel
    have := List.all_eq_true.mp h8 r (List.mem_of_getElem? hr)
    rw [hk] at this
    cases this
theorem ok_pm_E_goDown : px_okM px_wd px_ss px_cl px_P pm_E_goDown := px_ok0 802 645 (by decide +kernel) ⟨rfl, rfl⟩ (by decide +kernel) (by decide +kernel) (by decide) (by decide +kernel) (by decide +kernel) (by decide +kernel)
theorem ok_pm_M_init : px_okM px_wd px_ss px_cl px_P pm_M_init := px_ok0 656 653 (by decide +kernel) ⟨rfl, rfl⟩ (by decide +kernel) (by decide +kernel) (by decide) (by decide +kernel) (by decide +kernel) (by decide +kernel)
theorem ok_pm_M_thrown : px_okM px_wd px_ss px_cl px_P pm_M_thrown := px_ok0 803 653 (by decide +kernel) ⟨rfl, rfl⟩ (by decide +kernel) (by decide +kernel) (by decide) (by decide +kernel) (by decide +kernel) (by decide +kernel)
theorem ok_pm_M_at : px_okM px_wd px_ss px_cl px_P pm_M_at := px_ok0 804 653 (by decide +kernel) ⟨rfl, rfl⟩ (by decide +kernel) (by decide +kernel) (by decide) (by decide +kernel) (by decide +kernel) (by decide +kernel)
theorem ok_pm_M_becomesStable : px_okM px_wd px_ss px_cl px_P pm_M_becomesStable := px_ok0 805 653 (by decide +kernel) ⟨rfl, rfl⟩ (by decide +kernel) (by decide +kernel) (by decide) (by decide +kernel) (by decide +kernel) (by decide +kernel)
theorem ok_pm_M_goes : px_okM px_wd px_ss px_cl px_P pm_M_goes := px_ok0 806 653 (by decide +kernel) ⟨rfl, rfl⟩ (by decide +kernel) (by decide +kernel) (by decide) (by decide +kernel) (by decide +kernel) (by decide +kernel)
theorem ok_pm_M_acts : px_okM px_wd px_ss px_cl px_P pm_M_acts := px_ok0 807 653 (by decide +kernel) ⟨rfl, rfl⟩ (by decide +kernel) (by decide +kernel) (by decide) (by decide +kernel) (by decide +kernel) (by decide +kernel)
theorem ok_pm_M_write : px_okM px_wd px_ss px_cl px_P pm_M_write := px_ok0 808 653 (by decide +kernel) ⟨rfl, rfl⟩ (by decide +kernel) (by decide +kernel) (by decide) (by decide +kernel) (by decide +kernel) (by decide +kernel)
theorem ok_pm_M_flush : px_okM px_wd px_ss px_cl px_P pm_M_flush := px_ok0 809 653 (by decide +kernel) ⟨rfl, rfl⟩ (by decide +kernel) (by decide +kernel) (by decide) (by decide +kernel) (by decide +kernel) (by decide +kernel)
theorem ok_pm_M_read : px_okM px_wd px_ss px_cl px_P pm_M_read := px_ok0 810 653 (by decide +kernel) ⟨rfl, rfl⟩ (by decide +kernel) (by decide +kernel) (by decide) (by decide +kernel) (by decide +kernel) (by decide +kernel)
theorem ok_pm_M_copy : px_okM px_wd px_ss px_cl px_P pm_M_copy := px_ok0 811 653 (by decide +kernel) ⟨rfl, rfl⟩ (by decide +kernel) (by decide +kernel) (by decide) (by decide +kernel) (by decide +kernel) (by decide +kernel)
