/-! THE METHODS ARE WHAT THEIR ROWS SAY (by program). -/
theorem ok_pm_M_closed : px_okM px_wd px_ss px_cl px_P pm_M_closed := px_ok0 866 653 (by decide +kernel) ⟨rfl, rfl⟩ (by decide +kernel) (by decide +kernel) (by decide) (by decide +kernel) (by decide +kernel) (by decide +kernel)
theorem ok_pm_M_sync : px_okM px_wd px_ss px_cl px_P pm_M_sync := px_ok0 867 653 (by decide +kernel) ⟨rfl, rfl⟩ (by decide +kernel) (by decide +kernel) (by decide) (by decide +kernel) (by decide +kernel) (by decide +kernel)
theorem ok_pm_M_land : px_okM px_wd px_ss px_cl px_P pm_M_land := px_ok0 868 653 (by decide +kernel) ⟨rfl, rfl⟩ (by decide +kernel) (by decide +kernel) (by decide) (by decide +kernel) (by decide +kernel) (by decide +kernel)
theorem ok_pm_M_home : px_okM px_wd px_ss px_cl px_P pm_M_home := px_ok0 869 653 (by decide +kernel) ⟨rfl, rfl⟩ (by decide +kernel) (by decide +kernel) (by decide) (by decide +kernel) (by decide +kernel) (by decide +kernel)
theorem ok_pm_M_limit : px_okM px_wd px_ss px_cl px_P pm_M_limit := px_ok0 870 653 (by decide +kernel) ⟨rfl, rfl⟩ (by decide +kernel) (by decide +kernel) (by decide) (by decide +kernel) (by decide +kernel) (by decide +kernel)
theorem ok_pm_M_crash : px_okM px_wd px_ss px_cl px_P pm_M_crash := px_ok0 871 653 (by decide +kernel) ⟨rfl, rfl⟩ (by decide +kernel) (by decide +kernel) (by decide) (by decide +kernel) (by decide +kernel) (by decide +kernel)
theorem ok_pm_M_newFlash : px_okM px_wd px_ss px_cl px_P pm_M_newFlash := px_ok0 872 653 (by decide +kernel) ⟨rfl, rfl⟩ (by decide +kernel) (by decide +kernel) (by decide) (by decide +kernel) (by decide +kernel) (by decide +kernel)
theorem ok_pm_M_lose : px_okM px_wd px_ss px_cl px_P pm_M_lose := px_ok0 873 653 (by decide +kernel) ⟨rfl, rfl⟩ (by decide +kernel) (by decide +kernel) (by decide) (by decide +kernel) (by decide +kernel) (by decide +kernel)
theorem ok_pm_M_halfThatCounts : px_okM px_wd px_ss px_cl px_P pm_M_halfThatCounts := px_ok0 874 653 (by decide +kernel) ⟨rfl, rfl⟩ (by decide +kernel) (by decide +kernel) (by decide) (by decide +kernel) (by decide +kernel) (by decide +kernel)
theorem ok_pm_M_mount : px_okM px_wd px_ss px_cl px_P pm_M_mount := px_ok0 875 653 (by decide +kernel) ⟨rfl, rfl⟩ (by decide +kernel) (by decide +kernel) (by decide) (by decide +kernel) (by decide +kernel) (by decide +kernel)
theorem ok_pm_M_redo : px_okM px_wd px_ss px_cl px_P pm_M_redo := px_ok0 876 653 (by decide +kernel) ⟨rfl, rfl⟩ (by decide +kernel) (by decide +kernel) (by decide) (by decide +kernel) (by decide +kernel) (by decide +kernel)
theorem ok_pm_M_isRecord : px_okM px_wd px_ss px_cl px_P pm_M_isRecord := px_ok0 877 653 (by decide +kernel) ⟨rfl, rfl⟩ (by decide +kernel) (by decide +kernel) (by decide) (by decide +kernel) (by decide +kernel) (by decide +kernel)
theorem ok_pm_M_hasLast : px_okM px_wd px_ss px_cl px_P pm_M_hasLast := px_ok0 878 653 (by decide +kernel) ⟨rfl, rfl⟩ (by decide +kernel) (by decide +kernel) (by decide) (by decide +kernel) (by decide +kernel) (by decide +kernel)
theorem ok_pm_M_takesHalf : px_okM px_wd px_ss px_cl px_P pm_M_takesHalf := px_ok0 879 653 (by decide +kernel) ⟨rfl, rfl⟩ (by decide +kernel) (by decide +kernel) (by decide) (by decide +kernel) (by decide +kernel) (by decide +kernel)
theorem ok_pm_M_wordThere : px_okM px_wd px_ss px_cl px_P pm_M_wordThere := px_ok0 880 653 (by decide +kernel) ⟨rfl, rfl⟩ (by decide +kernel) (by decide +kernel) (by decide) (by decide +kernel) (by decide +kernel) (by decide +kernel)
theorem ok_pm_M_loadsTree : px_okM px_wd px_ss px_cl px_P pm_M_loadsTree := px_ok0 881 653 (by decide +kernel) ⟨rfl, rfl⟩ (by decide +kernel) (by decide +kernel) (by decide) (by decide +kernel) (by decide +kernel) (by decide +kernel)
theorem ok_pm_M_isCommit : px_okM px_wd px_ss px_cl px_P pm_M_isCommit := px_ok0 882 653 (by decide +kernel) ⟨rfl, rfl⟩ (by decide +kernel) (by decide +kernel) (by decide) (by decide +kernel) (by decide +kernel) (by decide +kernel)
theorem ok_pm_M_attach : px_okM px_wd px_ss px_cl px_P pm_M_attach := px_ok0 883 653 (by decide +kernel) ⟨rfl, rfl⟩ (by decide +kernel) (by decide +kernel) (by decide) (by decide +kernel) (by decide +kernel) (by decide +kernel)
theorem ok_pm_M_slot : px_okM px_wd px_ss px_cl px_P pm_M_slot := px_ok0 884 653 (by decide +kernel) ⟨rfl, rfl⟩ (by decide +kernel) (by decide +kernel) (by decide) (by decide +kernel) (by decide +kernel) (by decide +kernel)
theorem ok_pm_M_word2 : px_okM px_wd px_ss px_cl px_P pm_M_word2 := px_ok0 885 653 (by decide +kernel) ⟨rfl, rfl⟩ (by decide +kernel) (by decide +kernel) (by decide) (by decide +kernel) (by decide +kernel) (by decide +kernel)
theorem ok_pm_M_count : px_okM px_wd px_ss px_cl px_P pm_M_count := px_ok0 886 653 (by decide +kernel) ⟨rfl, rfl⟩ (by decide +kernel) (by decide +kernel) (by decide) (by decide +kernel) (by decide +kernel) (by decide +kernel)
theorem ok_pm_M_inodes : px_okM px_wd px_ss px_cl px_P pm_M_inodes := px_ok0 887 653 (by decide +kernel) ⟨rfl, rfl⟩ (by decide +kernel) (by decide +kernel) (by decide) (by decide +kernel) (by decide +kernel) (by decide +kernel)
theorem ok_pm_D_init : px_okM px_wd px_ss px_cl px_P pm_D_init := px_ok0 19 16 (by decide +kernel) ⟨rfl, rfl⟩ (by decide +kernel) (by decide +kernel) (by decide) (by decide +kernel) (by decide +kernel) (by decide +kernel)
theorem ok_pm_D_has : px_okM px_wd px_ss px_cl px_P pm_D_has := px_ok0 888 16 (by decide +kernel) ⟨rfl, rfl⟩ (by decide +kernel) (by decide +kernel) (by decide) (by decide +kernel) (by decide +kernel) (by decide +kernel)
theorem ok_pm_D_preset : px_okM px_wd px_ss px_cl px_P pm_D_preset := px_ok0 889 16 (by decide +kernel) ⟨rfl, rfl⟩ (by decide +kernel) (by decide +kernel) (by decide) (by decide +kernel) (by decide +kernel) (by decide +kernel)
theorem ok_pm_D_at : px_okM px_wd px_ss px_cl px_P pm_D_at := px_ok0 890 16 (by decide +kernel) ⟨rfl, rfl⟩ (by decide +kernel) (by decide +kernel) (by decide) (by decide +kernel) (by decide +kernel) (by decide +kernel)
theorem ok_pm_D_put : px_okM px_wd px_ss px_cl px_P pm_D_put := by
  refine px_okM_of 16 (by decide +kernel) (Or.inr ⟨rfl, px_in_mem (k := 891) (by decide +kernel)⟩) (by decide +kernel) (by decide) (by decide +kernel) ⟨rfl, fun j h f hj => by cases hj⟩ (by decide +kernel) (fun i r hr hk => ?_)
  have hi : i = 28 := by
    have h9 : ((List.range pm_D_put.cd.length).all (fun i => match pm_D_put.cd[i]? with
      | some r => !(px_kd r == 2) || decide (i = 28)
      | none => true)) = true := by decide +kernel
    have h8 := List.all_eq_true.mp h9 i (List.mem_range.mpr (List.getElem?_eq_some_iff.mp hr).1)
    rw [hr] at h8
    dsimp only at h8
    rw [hk] at h8
    simpa using h8
  rcases hi with rfl
  · cases hr
    exact px_okT_of (C := "java/lang/IllegalStateException") (tx := "the power goes") (idx := 7) (ik := 45) (is := 47) (ic := 49) (k1 := 1078) (k2 := 1073) (k3 := 1079) (bytes := Bundle.six) rfl rfl rfl (by decide +kernel) (by decide +kernel) (by decide +kernel) (by decide +kernel) (by decide +kernel) (by decide +kernel) (by decide +kernel) (by decide +kernel) (by decide +kernel) (by decide +kernel) (by decide +kernel) (by decide +kernel) (by decide +kernel) (by decide +kernel) rfl
