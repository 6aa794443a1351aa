/-! THE METHODS ARE WHAT THEIR ROWS SAY (by program). -/
theorem ok_pm_D_flush : px_okM px_wd px_ss px_cl px_P pm_D_flush := by
  refine px_okM_of 16 (by decide +kernel) (Or.inr ⟨rfl, px_in_mem (k := 892) (by decide +kernel)⟩) (by decide +kernel) (by decide) (by decide +kernel) ⟨rfl, fun j h f hj => by cases hj⟩ (by decide +kernel) (fun i r hr hk => ?_)
  have hi : i = 15 := by
    have h9 : ((List.range pm_D_flush.cd.length).all (fun i => match pm_D_flush.cd[i]? with
      | some r => !(px_kd r == 2) || decide (i = 15)
      | none => true)) = true := by decide +kernel
    have h8 := List.all_eq_true.mp h9 i (List.mem_range.mpr (List.getElem?_eq_some_iff.mp hr).1)
    rw [hr] at h8
    dsimp only at h8
    rw [hk] at h8
    simpa using h8
  rcases hi with rfl
  · cases hr
    exact px_okT_of (C := "java/lang/IllegalStateException") (tx := "the power goes") (idx := 7) (ik := 45) (is := 47) (ic := 49) (k1 := 1078) (k2 := 1073) (k3 := 1079) (bytes := Bundle.six) rfl rfl rfl (by decide +kernel) (by decide +kernel) (by decide +kernel) (by decide +kernel) (by decide +kernel) (by decide +kernel) (by decide +kernel) (by decide +kernel) (by decide +kernel) (by decide +kernel) (by decide +kernel) (by decide +kernel) (by decide +kernel) (by decide +kernel) rfl
theorem ok_pm_D_losePending : px_okM px_wd px_ss px_cl px_P pm_D_losePending := px_ok0 893 16 (by decide +kernel) ⟨rfl, rfl⟩ (by decide +kernel) (by decide +kernel) (by decide) (by decide +kernel) (by decide +kernel) (by decide +kernel)
theorem ok_pm_D_wipe : px_okM px_wd px_ss px_cl px_P pm_D_wipe := px_ok0 894 16 (by decide +kernel) ⟨rfl, rfl⟩ (by decide +kernel) (by decide +kernel) (by decide) (by decide +kernel) (by decide +kernel) (by decide +kernel)
theorem ok_pm_P_init : px_okM px_wd px_ss px_cl px_P pm_P_init := px_ok0 12 9 (by decide +kernel) ⟨rfl, rfl⟩ (by decide +kernel) (by decide +kernel) (by decide) (by decide +kernel) (by decide +kernel) (by decide +kernel)
theorem ok_pm_P_limitTo : px_okM px_wd px_ss px_cl px_P pm_P_limitTo := px_ok0 895 9 (by decide +kernel) ⟨rfl, rfl⟩ (by decide +kernel) (by decide +kernel) (by decide) (by decide +kernel) (by decide +kernel) (by decide +kernel)
theorem ok_pm_S_init : px_okM px_wd px_ss px_cl px_P pm_S_init := px_ok0 30 27 (by decide +kernel) ⟨rfl, rfl⟩ (by decide +kernel) (by decide +kernel) (by decide) (by decide +kernel) (by decide +kernel) (by decide +kernel)
theorem ok_pm_S_clear : px_okM px_wd px_ss px_cl px_P pm_S_clear := px_ok0 896 27 (by decide +kernel) ⟨rfl, rfl⟩ (by decide +kernel) (by decide +kernel) (by decide) (by decide +kernel) (by decide +kernel) (by decide +kernel)
theorem ok_pm_S_free : px_okM px_wd px_ss px_cl px_P pm_S_free := px_ok0 897 27 (by decide +kernel) ⟨rfl, rfl⟩ (by decide +kernel) (by decide +kernel) (by decide) (by decide +kernel) (by decide +kernel) (by decide +kernel)
theorem ok_pm_S_setClean : px_okM px_wd px_ss px_cl px_P pm_S_setClean := px_ok0 898 27 (by decide +kernel) ⟨rfl, rfl⟩ (by decide +kernel) (by decide +kernel) (by decide) (by decide +kernel) (by decide +kernel) (by decide +kernel)
theorem ok_pm_S_setDirty : px_okM px_wd px_ss px_cl px_P pm_S_setDirty := px_ok0 899 27 (by decide +kernel) ⟨rfl, rfl⟩ (by decide +kernel) (by decide +kernel) (by decide) (by decide +kernel) (by decide +kernel) (by decide +kernel)
theorem ok_pm_S_newest : px_okM px_wd px_ss px_cl px_P pm_S_newest := px_ok0 900 27 (by decide +kernel) ⟨rfl, rfl⟩ (by decide +kernel) (by decide +kernel) (by decide) (by decide +kernel) (by decide +kernel) (by decide +kernel)
theorem ok_pm_S_findIn : px_okM px_wd px_ss px_cl px_P pm_S_findIn := px_ok0 901 27 (by decide +kernel) ⟨rfl, rfl⟩ (by decide +kernel) (by decide +kernel) (by decide) (by decide +kernel) (by decide +kernel) (by decide +kernel)
theorem ok_pm_S_toWrite : px_okM px_wd px_ss px_cl px_P pm_S_toWrite := px_ok0 902 27 (by decide +kernel) ⟨rfl, rfl⟩ (by decide +kernel) (by decide +kernel) (by decide) (by decide +kernel) (by decide +kernel) (by decide +kernel)
theorem ok_pm_S_hasClosed : px_okM px_wd px_ss px_cl px_P pm_S_hasClosed := px_ok0 903 27 (by decide +kernel) ⟨rfl, rfl⟩ (by decide +kernel) (by decide +kernel) (by decide) (by decide +kernel) (by decide +kernel) (by decide +kernel)
theorem ok_pm_S_gather : px_okM px_wd px_ss px_cl px_P pm_S_gather := px_ok0 904 27 (by decide +kernel) ⟨rfl, rfl⟩ (by decide +kernel) (by decide +kernel) (by decide) (by decide +kernel) (by decide +kernel) (by decide +kernel)
theorem ok_pm_S_sortByBlock : px_okM px_wd px_ss px_cl px_P pm_S_sortByBlock := px_ok0 905 27 (by decide +kernel) ⟨rfl, rfl⟩ (by decide +kernel) (by decide +kernel) (by decide) (by decide +kernel) (by decide +kernel) (by decide +kernel)
theorem ok_pm_S_setLanded : px_okM px_wd px_ss px_cl px_P pm_S_setLanded := px_ok0 906 27 (by decide +kernel) ⟨rfl, rfl⟩ (by decide +kernel) (by decide +kernel) (by decide) (by decide +kernel) (by decide +kernel) (by decide +kernel)
theorem ok_pm_S_tellOf : px_okM px_wd px_ss px_cl px_P pm_S_tellOf := px_ok0 907 27 (by decide +kernel) ⟨rfl, rfl⟩ (by decide +kernel) (by decide +kernel) (by decide) (by decide +kernel) (by decide +kernel) (by decide +kernel)
theorem ok_pm_T_init : px_okM px_wd px_ss px_cl px_P pm_T_init := px_ok0 40 37 (by decide +kernel) ⟨rfl, rfl⟩ (by decide +kernel) (by decide +kernel) (by decide) (by decide +kernel) (by decide +kernel) (by decide +kernel)
theorem ok_pm_T_tellCount : px_okM px_wd px_ss px_cl px_P pm_T_tellCount := px_ok0 908 37 (by decide +kernel) ⟨rfl, rfl⟩ (by decide +kernel) (by decide +kernel) (by decide) (by decide +kernel) (by decide +kernel) (by decide +kernel)
theorem ok_pm_T_usedInodes : px_okM px_wd px_ss px_cl px_P pm_T_usedInodes := px_ok0 909 37 (by decide +kernel) ⟨rfl, rfl⟩ (by decide +kernel) (by decide +kernel) (by decide) (by decide +kernel) (by decide +kernel) (by decide +kernel)
theorem ok_pm_T_usedBlocks : px_okM px_wd px_ss px_cl px_P pm_T_usedBlocks := px_ok0 910 37 (by decide +kernel) ⟨rfl, rfl⟩ (by decide +kernel) (by decide +kernel) (by decide) (by decide +kernel) (by decide +kernel) (by decide +kernel)
theorem ok_pm_T_at : px_okM px_wd px_ss px_cl px_P pm_T_at := px_ok0 911 37 (by decide +kernel) ⟨rfl, rfl⟩ (by decide +kernel) (by decide +kernel) (by decide) (by decide +kernel) (by decide +kernel) (by decide +kernel)
theorem ok_pm_T_tell : px_okM px_wd px_ss px_cl px_P pm_T_tell := px_ok0 912 37 (by decide +kernel) ⟨rfl, rfl⟩ (by decide +kernel) (by decide +kernel) (by decide) (by decide +kernel) (by decide +kernel) (by decide +kernel)
theorem ok_pm_T_setChanged : px_okM px_wd px_ss px_cl px_P pm_T_setChanged := px_ok0 913 37 (by decide +kernel) ⟨rfl, rfl⟩ (by decide +kernel) (by decide +kernel) (by decide) (by decide +kernel) (by decide +kernel) (by decide +kernel)
theorem ok_pm_T_inodeWord : px_okM px_wd px_ss px_cl px_P pm_T_inodeWord := px_ok0 914 37 (by decide +kernel) ⟨rfl, rfl⟩ (by decide +kernel) (by decide +kernel) (by decide) (by decide +kernel) (by decide +kernel) (by decide +kernel)
theorem ok_pm_T_tellInode : px_okM px_wd px_ss px_cl px_P pm_T_tellInode := px_ok0 915 37 (by decide +kernel) ⟨rfl, rfl⟩ (by decide +kernel) (by decide +kernel) (by decide) (by decide +kernel) (by decide +kernel) (by decide +kernel)
theorem ok_pm_T_isDirectory : px_okM px_wd px_ss px_cl px_P pm_T_isDirectory := px_ok0 916 37 (by decide +kernel) ⟨rfl, rfl⟩ (by decide +kernel) (by decide +kernel) (by decide) (by decide +kernel) (by decide +kernel) (by decide +kernel)
theorem ok_pm_T_isFile : px_okM px_wd px_ss px_cl px_P pm_T_isFile := px_ok0 917 37 (by decide +kernel) ⟨rfl, rfl⟩ (by decide +kernel) (by decide +kernel) (by decide) (by decide +kernel) (by decide +kernel) (by decide +kernel)
theorem ok_pm_T_blockNumber : px_okM px_wd px_ss px_cl px_P pm_T_blockNumber := px_ok0 918 37 (by decide +kernel) ⟨rfl, rfl⟩ (by decide +kernel) (by decide +kernel) (by decide) (by decide +kernel) (by decide +kernel) (by decide +kernel)
theorem ok_pm_T_indirectOf : px_okM px_wd px_ss px_cl px_P pm_T_indirectOf := px_ok0 919 37 (by decide +kernel) ⟨rfl, rfl⟩ (by decide +kernel) (by decide +kernel) (by decide) (by decide +kernel) (by decide +kernel) (by decide +kernel)
theorem ok_pm_T_blockOf : px_okM px_wd px_ss px_cl px_P pm_T_blockOf := px_ok0 920 37 (by decide +kernel) ⟨rfl, rfl⟩ (by decide +kernel) (by decide +kernel) (by decide) (by decide +kernel) (by decide +kernel) (by decide +kernel)
theorem ok_pm_T_tellBlockOf : px_okM px_wd px_ss px_cl px_P pm_T_tellBlockOf := px_ok0 921 37 (by decide +kernel) ⟨rfl, rfl⟩ (by decide +kernel) (by decide +kernel) (by decide) (by decide +kernel) (by decide +kernel) (by decide +kernel)
theorem ok_pm_T_blocksOf : px_okM px_wd px_ss px_cl px_P pm_T_blocksOf := px_ok0 922 37 (by decide +kernel) ⟨rfl, rfl⟩ (by decide +kernel) (by decide +kernel) (by decide) (by decide +kernel) (by decide +kernel) (by decide +kernel)
theorem ok_pm_T_take : px_okM px_wd px_ss px_cl px_P pm_T_take := px_ok0 923 37 (by decide +kernel) ⟨rfl, rfl⟩ (by decide +kernel) (by decide +kernel) (by decide) (by decide +kernel) (by decide +kernel) (by decide +kernel)
theorem ok_pm_T_giveBack : px_okM px_wd px_ss px_cl px_P pm_T_giveBack := px_ok0 924 37 (by decide +kernel) ⟨rfl, rfl⟩ (by decide +kernel) (by decide +kernel) (by decide) (by decide +kernel) (by decide +kernel) (by decide +kernel)
theorem ok_pm_T_addBlock : px_okM px_wd px_ss px_cl px_P pm_T_addBlock := px_ok0 925 37 (by decide +kernel) ⟨rfl, rfl⟩ (by decide +kernel) (by decide +kernel) (by decide) (by decide +kernel) (by decide +kernel) (by decide +kernel)
theorem ok_pm_T_entryWord : px_okM px_wd px_ss px_cl px_P pm_T_entryWord := px_ok0 926 37 (by decide +kernel) ⟨rfl, rfl⟩ (by decide +kernel) (by decide +kernel) (by decide) (by decide +kernel) (by decide +kernel) (by decide +kernel)
theorem ok_pm_T_tellEntry : px_okM px_wd px_ss px_cl px_P pm_T_tellEntry := px_ok0 927 37 (by decide +kernel) ⟨rfl, rfl⟩ (by decide +kernel) (by decide +kernel) (by decide) (by decide +kernel) (by decide +kernel) (by decide +kernel)
theorem ok_pm_T_placesOf : px_okM px_wd px_ss px_cl px_P pm_T_placesOf := px_ok0 928 37 (by decide +kernel) ⟨rfl, rfl⟩ (by decide +kernel) (by decide +kernel) (by decide) (by decide +kernel) (by decide +kernel) (by decide +kernel)
theorem ok_pm_T_namesIn : px_okM px_wd px_ss px_cl px_P pm_T_namesIn := px_ok0 929 37 (by decide +kernel) ⟨rfl, rfl⟩ (by decide +kernel) (by decide +kernel) (by decide) (by decide +kernel) (by decide +kernel) (by decide +kernel)
theorem ok_pm_T_placeOf : px_okM px_wd px_ss px_cl px_P pm_T_placeOf := px_ok0 930 37 (by decide +kernel) ⟨rfl, rfl⟩ (by decide +kernel) (by decide +kernel) (by decide) (by decide +kernel) (by decide +kernel) (by decide +kernel)
theorem ok_pm_T_placeForNew : px_okM px_wd px_ss px_cl px_P pm_T_placeForNew := px_ok0 931 37 (by decide +kernel) ⟨rfl, rfl⟩ (by decide +kernel) (by decide +kernel) (by decide) (by decide +kernel) (by decide +kernel) (by decide +kernel)
theorem ok_pm_T_freeInode : px_okM px_wd px_ss px_cl px_P pm_T_freeInode := px_ok0 932 37 (by decide +kernel) ⟨rfl, rfl⟩ (by decide +kernel) (by decide +kernel) (by decide) (by decide +kernel) (by decide +kernel) (by decide +kernel)
theorem ok_pm_T_lookUp : px_okM px_wd px_ss px_cl px_P pm_T_lookUp := px_ok0 933 37 (by decide +kernel) ⟨rfl, rfl⟩ (by decide +kernel) (by decide +kernel) (by decide) (by decide +kernel) (by decide +kernel) (by decide +kernel)
theorem ok_pm_T_create : px_okM px_wd px_ss px_cl px_P pm_T_create := px_ok0 934 37 (by decide +kernel) ⟨rfl, rfl⟩ (by decide +kernel) (by decide +kernel) (by decide) (by decide +kernel) (by decide +kernel) (by decide +kernel)
