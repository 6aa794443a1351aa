/-! THE METHODS ARE WHAT THEIR ROWS SAY (by program). -/
theorem ok_pm_V_flushAll : px_okM px_wd px_ss px_cl px_P pm_V_flushAll := px_ok0 962 24 (by decide +kernel) ⟨rfl, rfl⟩ (by decide +kernel) (by decide +kernel) (by decide) (by decide +kernel) (by decide +kernel) (by decide +kernel)
theorem ok_pm_V_close : px_okM px_wd px_ss px_cl px_P pm_V_close := px_ok0 963 24 (by decide +kernel) ⟨rfl, rfl⟩ (by decide +kernel) (by decide +kernel) (by decide) (by decide +kernel) (by decide +kernel) (by decide +kernel)
theorem ok_pm_V_setRecord : px_okM px_wd px_ss px_cl px_P pm_V_setRecord := px_ok0 964 24 (by decide +kernel) ⟨rfl, rfl⟩ (by decide +kernel) (by decide +kernel) (by decide) (by decide +kernel) (by decide +kernel) (by decide +kernel)
theorem ok_pm_V_changeHalves : px_okM px_wd px_ss px_cl px_P pm_V_changeHalves := px_ok0 965 24 (by decide +kernel) ⟨rfl, rfl⟩ (by decide +kernel) (by decide +kernel) (by decide) (by decide +kernel) (by decide +kernel) (by decide +kernel)
theorem ok_pm_V_landOldest : px_okM px_wd px_ss px_cl px_P pm_V_landOldest := px_ok0 966 24 (by decide +kernel) ⟨rfl, rfl⟩ (by decide +kernel) (by decide +kernel) (by decide) (by decide +kernel) (by decide +kernel) (by decide +kernel)
theorem ok_pm_V_finishLanding : px_okM px_wd px_ss px_cl px_P pm_V_finishLanding := px_ok0 967 24 (by decide +kernel) ⟨rfl, rfl⟩ (by decide +kernel) (by decide +kernel) (by decide) (by decide +kernel) (by decide +kernel) (by decide +kernel)
theorem ok_pm_V_goodHalf : px_okM px_wd px_ss px_cl px_P pm_V_goodHalf := px_ok0 968 24 (by decide +kernel) ⟨rfl, rfl⟩ (by decide +kernel) (by decide +kernel) (by decide) (by decide +kernel) (by decide +kernel) (by decide +kernel)
theorem ok_pm_V_openFlash : px_okM px_wd px_ss px_cl px_P pm_V_openFlash := px_ok0 969 24 (by decide +kernel) ⟨rfl, rfl⟩ (by decide +kernel) (by decide +kernel) (by decide) (by decide +kernel) (by decide +kernel) (by decide +kernel)
theorem ok_pm_V_startSlots : px_okM px_wd px_ss px_cl px_P pm_V_startSlots := px_ok0 970 24 (by decide +kernel) ⟨rfl, rfl⟩ (by decide +kernel) (by decide +kernel) (by decide) (by decide +kernel) (by decide +kernel) (by decide +kernel)
theorem ok_pm_V_hasLast : px_okM px_wd px_ss px_cl px_P pm_V_hasLast := px_ok0 971 24 (by decide +kernel) ⟨rfl, rfl⟩ (by decide +kernel) (by decide +kernel) (by decide) (by decide +kernel) (by decide +kernel) (by decide +kernel)
theorem ok_pm_V_takeRecord : px_okM px_wd px_ss px_cl px_P pm_V_takeRecord := px_ok0 972 24 (by decide +kernel) ⟨rfl, rfl⟩ (by decide +kernel) (by decide +kernel) (by decide) (by decide +kernel) (by decide +kernel) (by decide +kernel)
theorem ok_pm_V_openDisc : px_okM px_wd px_ss px_cl px_P pm_V_openDisc := px_ok0 973 24 (by decide +kernel) ⟨rfl, rfl⟩ (by decide +kernel) (by decide +kernel) (by decide) (by decide +kernel) (by decide +kernel) (by decide +kernel)
theorem ok_pm_V_takeNewFlash : px_okM px_wd px_ss px_cl px_P pm_V_takeNewFlash := px_ok0 974 24 (by decide +kernel) ⟨rfl, rfl⟩ (by decide +kernel) (by decide +kernel) (by decide) (by decide +kernel) (by decide +kernel) (by decide +kernel)
theorem ok_pm_L_cell : px_okM px_wd px_ss px_cl px_P pm_L_cell := px_ok0 975 976 (by decide +kernel) ⟨rfl, rfl⟩ (by decide +kernel) (by decide +kernel) (by decide) (by decide +kernel) (by decide +kernel) (by decide +kernel)
theorem ok_pm_L_read : px_okM px_wd px_ss px_cl px_P pm_L_read := by
  refine px_okM_of 976 (by decide +kernel) (Or.inl (px_in_mem (k := 977) (by decide +kernel))) (by decide +kernel) (by decide) (by decide +kernel) ⟨rfl, fun j h f hj hf => ?_⟩ (by decide +kernel) (fun i r hr hk => ?_)
  · match j, hj, hf with
    | 0, hj, hf =>
      cases hj; cases hf
      refine ⟨rfl, rfl, ⟨_, rfl, rfl⟩, by decide, "java/lang/IllegalStateException", px_T0, rfl, (px_in_mem (k := 1071) (by decide +kernel)), (px_in_mem (k := 1066) (by decide +kernel)), fun hlt c' C' T' hne hc => ?_⟩
      match c', hne, hc with
      | 0, hne, hc => cases hc
      | 1, hne, hc => cases hc
      | 2, hne, hc => cases hc
      | 3, hne, hc => cases hc
      | 4, hne, hc => cases hc
      | 5, hne, hc => cases hc
      | 6, hne, hc => cases hc
      | 7, hne, hc => exact absurd rfl hne
      | 8, hne, hc => cases hc; exact (px_in_mem (k := 1069) (by decide +kernel))
      | _ + 9, hne, hc => cases hc
    | 1, hj, hf =>
      cases hj; cases hf
      refine ⟨rfl, rfl, ⟨_, rfl, rfl⟩, by decide, "java/util/NoSuchElementException", px_T0, rfl, (px_in_mem (k := 1072) (by decide +kernel)), (px_in_mem (k := 1067) (by decide +kernel)), fun hlt c' C' T' hne hc => ?_⟩
      exact absurd hlt (by decide)
    | _ + 2, hj, hf => cases hj
  · have h8 : px_no2 pm_L_read = true := by decide +kernel
    have := List.all_eq_true.mp h8 r (List.mem_of_getElem? hr)
    rw [hk] at this
    cases this
theorem ok_pm_Integer_bitCount : px_okM px_wd px_ss px_cl px_P pm_Integer_bitCount := px_ok0 978 979 (by decide +kernel) ⟨rfl, rfl⟩ (by decide +kernel) (by decide +kernel) (by decide) (by decide +kernel) (by decide +kernel) (by decide +kernel)
theorem ok_pm_Math_max : px_okM px_wd px_ss px_cl px_P pm_Math_max := px_ok0 980 981 (by decide +kernel) ⟨rfl, rfl⟩ (by decide +kernel) (by decide +kernel) (by decide) (by decide +kernel) (by decide +kernel) (by decide +kernel)
theorem ok_pm_Math_min : px_okM px_wd px_ss px_cl px_P pm_Math_min := px_ok0 982 981 (by decide +kernel) ⟨rfl, rfl⟩ (by decide +kernel) (by decide +kernel) (by decide) (by decide +kernel) (by decide +kernel) (by decide +kernel)
theorem ok_pm_Arrays_fill : px_okM px_wd px_ss px_cl px_P pm_Arrays_fill := px_ok0 983 984 (by decide +kernel) ⟨rfl, rfl⟩ (by decide +kernel) (by decide +kernel) (by decide) (by decide +kernel) (by decide +kernel) (by decide +kernel)
