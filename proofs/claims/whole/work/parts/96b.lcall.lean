/-! EACH CALL, OF BOTH -/
theorem st_make (K : px_K) (N n sets c : Nat) (hN : 2000 ≤ N) (hK : zKc K n sets) (hKm : zKm K) (hc : c + 4000000 < 2000000000) (t : px_W) (s : px_S) (h : zI n sets c s) (d x a2 : Int32) : zGo n sets (c + 2000000) t (f_E_make_1 K N d x a2 s t) (f_M_make_28 K N d x a2) := by
  rcases h with ⟨T, hT⟩ | ⟨v, hv⟩
  · obtain ⟨i1, i2, i3, i4, i5, i6, i7, i8⟩ := id hT
    have hna : T.tv.p.na + 3000000 < 2147483648 := by omega
    have hup := i5.iv.up
    have hz : ZSz T.tv.sets T.tv.ways T.tv.eps := i5.iv.sz
    obtain ⟨hn1, hn2⟩ := zBnd2 hna (zfr_home T hz).n2
    have F := zfr_call i5 hna (fun U => xMake U d x (if a2 = 0 then 2 else 1)) (fun U hU => (by obtain ⟨_, L, _, st⟩ := zmake_ok hU.ww d x (if a2 = 0 then 2 else 1) (by split <;> simp); exact zfr_tv st.1))
    exact zGo_er hT (c_makeCall K N n sets hN hK t s T i6 i7 i1 i2 i5 hna d x a2) (fun u t1 hr => m_makeCall K N hN hKm t1 u T hr i4 i5 hna d x a2) (zcall_ok i5 hna hn2 (fun U => xMake U d x (if a2 = 0 then 2 else 1)) (fun U hU h7 => zstep_ok hU h7 (zmake_ok hU.ww d x (if a2 = 0 then 2 else 1) (by split <;> simp)))) F.s F.w (by have := F.n2; omega)
  · obtain ⟨i1, i2, i3, i4, i5, i6, i7⟩ := id hv
    have hs29 : s.1 29 = 0 := (zRw_up i2.1).mpr i4.up
    exact zGo_q (Or.inr ⟨v, hv⟩) ((c_down K N t s i1.2.2).1 d x a2) ((m_down K N t s hs29).1 d x a2)
theorem st_remove (K : px_K) (N n sets c : Nat) (hN : 2000 ≤ N) (hK : zKc K n sets) (hKm : zKm K) (hc : c + 4000000 < 2000000000) (t : px_W) (s : px_S) (h : zI n sets c s) (d x : Int32) : zGo n sets (c + 2000000) t (f_E_remove_1 K N d x s t) (f_M_remove_28 K N d x) := by
  rcases h with ⟨T, hT⟩ | ⟨v, hv⟩
  · obtain ⟨i1, i2, i3, i4, i5, i6, i7, i8⟩ := id hT
    have hna : T.tv.p.na + 3000000 < 2147483648 := by omega
    have hup := i5.iv.up
    have hz : ZSz T.tv.sets T.tv.ways T.tv.eps := i5.iv.sz
    obtain ⟨hn1, hn2⟩ := zBnd2 hna (zfr_home T hz).n2
    have F := zfr_call i5 hna (fun U => xRemove U d x) (fun U hU => (by obtain ⟨_, L, _, st⟩ := zremove_ok hU.ww d x; exact zfr_tv st.1))
    exact zGo_er hT (c_removeCall K N n sets hN hK t s T i6 i7 i1 i2 i5 hna d x) (fun u t1 hr => m_removeCall K N hN hKm t1 u T hr i4 i5 hna d x) (zcall_ok i5 hna hn2 (fun U => xRemove U d x) (fun U hU h7 => zstep_ok hU h7 (zremove_ok hU.ww d x))) F.s F.w (by have := F.n2; omega)
  · obtain ⟨i1, i2, i3, i4, i5, i6, i7⟩ := id hv
    have hs29 : s.1 29 = 0 := (zRw_up i2.1).mpr i4.up
    exact zGo_q (Or.inr ⟨v, hv⟩) ((c_down K N t s i1.2.2).2.2.2.2.1 d x) ((m_down K N t s hs29).2.2.2.2.1 d x)
theorem st_move (K : px_K) (N n sets c : Nat) (hN : 2000 ≤ N) (hK : zKc K n sets) (hKm : zKm K) (hc : c + 4000000 < 2000000000) (t : px_W) (s : px_S) (h : zI n sets c s) (d x d2 x2 : Int32) : zGo n sets (c + 2000000) t (f_E_move_1 K N d x d2 x2 s t) (f_M_move_28 K N d x d2 x2) := by
  rcases h with ⟨T, hT⟩ | ⟨v, hv⟩
  · obtain ⟨i1, i2, i3, i4, i5, i6, i7, i8⟩ := id hT
    have hna : T.tv.p.na + 3000000 < 2147483648 := by omega
    have hup := i5.iv.up
    have hz : ZSz T.tv.sets T.tv.ways T.tv.eps := i5.iv.sz
    obtain ⟨hn1, hn2⟩ := zBnd2 hna (zfr_home T hz).n2
    have F := zfr_call i5 hna (fun U => xMove U d x d2 x2) (fun U hU => (by obtain ⟨_, L, _, st⟩ := zmove_ok hU.ww d x d2 x2; exact zfr_tv st.1))
    exact zGo_er hT (c_moveCall K N n sets hN hK t s T i6 i7 i1 i2 i5 hna d x d2 x2) (fun u t1 hr => m_moveCall K N hN hKm t1 u T hr i4 i5 hna d x d2 x2) (zcall_ok i5 hna hn2 (fun U => xMove U d x d2 x2) (fun U hU h7 => zstep_ok hU h7 (zmove_ok hU.ww d x d2 x2))) F.s F.w (by have := F.n2; omega)
  · obtain ⟨i1, i2, i3, i4, i5, i6, i7⟩ := id hv
    have hs29 : s.1 29 = 0 := (zRw_up i2.1).mpr i4.up
    exact zGo_q (Or.inr ⟨v, hv⟩) ((c_down K N t s i1.2.2).2.2.2.2.2.1 d x d2 x2) ((m_down K N t s hs29).2.2.2.2.2.1 d x d2 x2)
theorem st_write (K : px_K) (N n sets c : Nat) (hN : 2000 ≤ N) (hK : zKc K n sets) (hKm : zKm K) (hc : c + 4000000 < 2000000000) (t : px_W) (s : px_S) (h : zI n sets c s) (f p x : Int32) : zGo n sets (c + 2000000) t (f_E_write_1 K N f p x s t) (f_M_write2_28 K N f p x) := by
  rcases h with ⟨T, hT⟩ | ⟨v, hv⟩
  · obtain ⟨i1, i2, i3, i4, i5, i6, i7, i8⟩ := id hT
    have hna : T.tv.p.na + 3000000 < 2147483648 := by omega
    have hup := i5.iv.up
    have hz : ZSz T.tv.sets T.tv.ways T.tv.eps := i5.iv.sz
    obtain ⟨hn1, hn2⟩ := zBnd2 hna (zfr_home T hz).n2
    have F := zfr_call i5 hna (fun U => xWrite U f p x) (fun U hU => zfr_write U f p x)
    exact zGo_er hT (c_writeCall K N n sets hN hK t s T i6 i7 i1 i2 i5 hna f p x) (fun u t1 hr => m_writeCall K N hN hKm t1 u T hr i4 i5 hna f p x) (zcall_ok i5 hna hn2 (fun U => xWrite U f p x) (fun U hU h7 => (zwrite_ok hU h7 f p x).1)) F.s F.w (by have := F.n2; omega)
  · obtain ⟨i1, i2, i3, i4, i5, i6, i7⟩ := id hv
    have hs29 : s.1 29 = 0 := (zRw_up i2.1).mpr i4.up
    exact zGo_q (Or.inr ⟨v, hv⟩) ((c_down K N t s i1.2.2).2.2.1 f p x) ((m_down K N t s hs29).2.2.1 f p x)
theorem st_cut (K : px_K) (N n sets c : Nat) (hN : 2000 ≤ N) (hK : zKc K n sets) (hKm : zKm K) (hc : c + 4000000 < 2000000000) (t : px_W) (s : px_S) (h : zI n sets c s) (f m : Int32) : zGo n sets (c + 2000000) t (f_E_cut_1 K N f m s t) (f_M_cut_28 K N f m) := by
  rcases h with ⟨T, hT⟩ | ⟨v, hv⟩
  · obtain ⟨i1, i2, i3, i4, i5, i6, i7, i8⟩ := id hT
    have hna : T.tv.p.na + 3000000 < 2147483648 := by omega
    have hup := i5.iv.up
    have hz : ZSz T.tv.sets T.tv.ways T.tv.eps := i5.iv.sz
    obtain ⟨hn1, hn2⟩ := zBnd2 hna (zfr_home T hz).n2
    have F := zfr_call i5 hna (fun U => xCut U f m) (fun U hU => zfr_cut U f m)
    exact zGo_er hT (c_cutCall K N n sets hN hK t s T i6 i7 i1 i2 i5 hna f m) (fun u t1 hr => m_cutCall K N hN hKm t1 u T hr i4 i5 hna f m) (zcall_ok i5 hna hn2 (fun U => xCut U f m) (fun U hU h7 => (zcut_ok hU h7 f m).1)) F.s F.w (by have := F.n2; omega)
  · obtain ⟨i1, i2, i3, i4, i5, i6, i7⟩ := id hv
    have hs29 : s.1 29 = 0 := (zRw_up i2.1).mpr i4.up
    exact zGo_q (Or.inr ⟨v, hv⟩) ((c_down K N t s i1.2.2).2.2.2.1 f m) ((m_down K N t s hs29).2.2.2.1 f m)
theorem st_find (K : px_K) (N n sets c : Nat) (hN : 2000 ≤ N) (hK : zKc K n sets) (hKm : zKm K) (hc : c + 4000000 < 2000000000) (t : px_W) (s : px_S) (h : zI n sets c s) (d x : Int32) : zGo n sets (c + 2000000) t (f_E_find_1 K N d x s t) (f_M_find2_28 K N d x) := by
  rcases h with ⟨T, hT⟩ | ⟨v, hv⟩
  · obtain ⟨i1, i2, i3, i4, i5, i6, i7, i8⟩ := id hT
    have hna : T.tv.p.na + 3000000 < 2147483648 := by omega
    have hup := i5.iv.up
    have hz : ZSz T.tv.sets T.tv.ways T.tv.eps := i5.iv.sz
    exact zGo_q (Or.inl ⟨T, hT⟩) (c_findCall K N n sets hN hK t s T i1 i2 i5.ww d x) (m_find2 K N hN hKm t s T i3 i5.ww hup d x)
  · obtain ⟨i1, i2, i3, i4, i5, i6, i7⟩ := id hv
    have hs29 : s.1 29 = 0 := (zRw_up i2.1).mpr i4.up
    exact zGo_q (Or.inr ⟨v, hv⟩) ((c_down K N t s i1.2.2).2.1 d x) ((m_down K N t s hs29).2.1 d x)
theorem st_inode (K : px_K) (N n sets c : Nat) (hN : 2000 ≤ N) (hK : zKc K n sets) (hKm : zKm K) (hc : c + 4000000 < 2000000000) (t : px_W) (s : px_S) (h : zI n sets c s) (i w : Int32) : zGo n sets (c + 2000000) t (f_E_inode_1 K N i w s t) (f_M_inode_28 K N i w) := by
  rcases h with ⟨T, hT⟩ | ⟨v, hv⟩
  · obtain ⟨i1, i2, i3, i4, i5, i6, i7, i8⟩ := id hT
    have hna : T.tv.p.na + 3000000 < 2147483648 := by omega
    have hup := i5.iv.up
    have hz : ZSz T.tv.sets T.tv.ways T.tv.eps := i5.iv.sz
    exact zGo_q (Or.inl ⟨T, hT⟩) (c_inodeCall K N n sets hN hK t s T i1 i2 i5.ww i w) (m_inode K N hN hKm t s T i3 i5.ww hup i w)
  · obtain ⟨i1, i2, i3, i4, i5, i6, i7⟩ := id hv
    have hs29 : s.1 29 = 0 := (zRw_up i2.1).mpr i4.up
    exact zGo_q (Or.inr ⟨v, hv⟩) ((c_down K N t s i1.2.2).2.2.2.2.2.2.1 i w) ((m_down K N t s hs29).2.2.2.2.2.2.1 i w)
theorem st_entry (K : px_K) (N n sets c : Nat) (hN : 2000 ≤ N) (hK : zKc K n sets) (hKm : zKm K) (hc : c + 4000000 < 2000000000) (t : px_W) (s : px_S) (h : zI n sets c s) (d p w : Int32) : zGo n sets (c + 2000000) t (f_E_entry_1 K N d p w s t) (f_M_entry_28 K N d p w) := by
  rcases h with ⟨T, hT⟩ | ⟨v, hv⟩
  · obtain ⟨i1, i2, i3, i4, i5, i6, i7, i8⟩ := id hT
    have hna : T.tv.p.na + 3000000 < 2147483648 := by omega
    have hup := i5.iv.up
    have hz : ZSz T.tv.sets T.tv.ways T.tv.eps := i5.iv.sz
    exact zGo_q (Or.inl ⟨T, hT⟩) (c_entryCall K N n sets hK t s T i1 i2 i5.ww d p w) (m_entry K N hN hKm t s T i3 i5.ww hup d p w)
  · obtain ⟨i1, i2, i3, i4, i5, i6, i7⟩ := id hv
    have hs29 : s.1 29 = 0 := (zRw_up i2.1).mpr i4.up
    exact zGo_q (Or.inr ⟨v, hv⟩) ((c_down K N t s i1.2.2).2.2.2.2.2.2.2.1 d p w) ((m_down K N t s hs29).2.2.2.2.2.2.2.1 d p w)
theorem st_slot (K : px_K) (N n sets c : Nat) (hN : 2000 ≤ N) (hK : zKc K n sets) (hKm : zKm K) (hc : c + 4000000 < 2000000000) (t : px_W) (s : px_S) (h : zI n sets c s) (i w : Int32) : zGo n sets (c + 2000000) t (f_E_slot_1 K N i w s t) (f_M_slot_28 K N i w) := by
  rcases h with ⟨T, hT⟩ | ⟨v, hv⟩
  · obtain ⟨i1, i2, i3, i4, i5, i6, i7, i8⟩ := id hT
    have hna : T.tv.p.na + 3000000 < 2147483648 := by omega
    have hup := i5.iv.up
    have hz : ZSz T.tv.sets T.tv.ways T.tv.eps := i5.iv.sz
    exact zGo_q (Or.inl ⟨T, hT⟩) (c_slotCall K N n sets hK t s T.tv i6 i7 i1.1 i2 hz (fun hw => (i5.iv.rf hw).1.hh) i w) (m_slot K N hKm t s T.tv i3.1 i4 hup i w)
  · obtain ⟨i1, i2, i3, i4, i5, i6, i7⟩ := id hv
    have hs29 : s.1 29 = 0 := (zRw_up i2.1).mpr i4.up
    exact zGo_q (Or.inr ⟨v, hv⟩) ((c_down K N t s i1.2.2).2.2.2.2.2.2.2.2.2.2.2.2.1 i w) ((m_down K N t s hs29).2.2.2.2.2.2.2.2.2.2.2.2.1 i w)
theorem st_sync (K : px_K) (N n sets c : Nat) (hN : 2000 ≤ N) (hK : zKc K n sets) (hKm : zKm K) (hc : c + 4000000 < 2000000000) (t : px_W) (s : px_S) (h : zI n sets c s) : zGo n sets (c + 2000000) t (f_E_sync_1 K N s t) (f_M_sync_28 K N) := by
  rcases h with ⟨T, hT⟩ | ⟨v, hv⟩
  · obtain ⟨i1, i2, i3, i4, i5, i6, i7, i8⟩ := id hT
    have hna : T.tv.p.na + 3000000 < 2147483648 := by omega
    have hup := i5.iv.up
    have hz : ZSz T.tv.sets T.tv.ways T.tv.eps := i5.iv.sz
    have F := zfr_commit T i5
    exact zGo_er hT (c_syncCall K N n sets hN hK t s T i6 i7 i1 i2 i5 hna) (fun u t1 hr => m_sync hWZ K N hN hKm t1 u T hr i4 i5 hna) (zcommit_ok i5 hna) F.s F.w (by have := F.n2; omega)
  · obtain ⟨i1, i2, i3, i4, i5, i6, i7⟩ := id hv
    have hs29 : s.1 29 = 0 := (zRw_up i2.1).mpr i4.up
    exact zGo_q (Or.inr ⟨v, hv⟩) ((c_down K N t s i1.2.2).2.2.2.2.2.2.2.2.1) ((m_down K N t s hs29).2.2.2.2.2.2.2.2.1)
theorem st_home (K : px_K) (N n sets c : Nat) (hN : 2000 ≤ N) (hK : zKc K n sets) (hKm : zKm K) (hc : c + 4000000 < 2000000000) (t : px_W) (s : px_S) (h : zI n sets c s) : zGo n sets (c + 2000000) t (f_E_home_1 K N s t) (f_M_home_28 K N) := by
  rcases h with ⟨T, hT⟩ | ⟨v, hv⟩
  · obtain ⟨i1, i2, i3, i4, i5, i6, i7, i8⟩ := id hT
    have hna : T.tv.p.na + 3000000 < 2147483648 := by omega
    have hup := i5.iv.up
    have hz : ZSz T.tv.sets T.tv.ways T.tv.eps := i5.iv.sz
    have F := zfr_commit T i5
    have F2 := F.trans (zfr_home T.commit (F.sz hz))
    have hta := zcommit_ok i5 hna
    have hb := F.n2
    exact zGo_er hT (c_homeCall K N n sets hN hK t s T i6 i7 i1 i2 i5 hna) (fun u t1 hr => m_homeCall hWZ K N hN hKm t1 u T hr i4 i5 hna hta (by omega)) (zhome_ok hta (by omega) (F.sz hz)) F2.s F2.w (by have := F2.n2; omega)
  · obtain ⟨i1, i2, i3, i4, i5, i6, i7⟩ := id hv
    have hs29 : s.1 29 = 0 := (zRw_up i2.1).mpr i4.up
    exact zGo_q (Or.inr ⟨v, hv⟩) ((c_down K N t s i1.2.2).2.2.2.2.2.2.2.2.2.2.1) ((m_down K N t s hs29).2.2.2.2.2.2.2.2.2.2.1)
theorem st_land (K : px_K) (N n sets c : Nat) (hN : 2000 ≤ N) (hK : zKc K n sets) (hKm : zKm K) (hc : c + 4000000 < 2000000000) (t : px_W) (s : px_S) (h : zI n sets c s) : zGo n sets (c + 2000000) t (f_E_land_1 K N s t) (f_M_land_28 K N) := by
  rcases h with ⟨T, hT⟩ | ⟨v, hv⟩
  · obtain ⟨i1, i2, i3, i4, i5, i6, i7, i8⟩ := id hT
    have hna : T.tv.p.na + 3000000 < 2147483648 := by omega
    have hup := i5.iv.up
    have hz : ZSz T.tv.sets T.tv.ways T.tv.eps := i5.iv.sz
    have F : ZFr 135 T.tv (if T.tv.wf = true then T.s_tv T.tv.land1.2 else T).tv := by
      split
      · exact (zfr_land1 T.tv hz).1
      · exact (ZFr.refl _).mono (by omega)
    have hok : ZTOk ZW (fun V => ZTi ZW V) (if T.tv.wf = true then T.s_tv T.tv.land1.2 else T) := by
      split
      · rename_i hw
        exact zland_ok i5 hw (by omega)
      · exact Or.inl ⟨hup, i5⟩
    exact zGo_er hT (c_landCall K N n sets hN hK t s T i6 i1 i2 i5 hna) (fun u t1 hr => m_landCall K N hN hKm t1 u T hr i4 i5 hna) hok F.s F.w (by have := F.n2; omega)
  · obtain ⟨i1, i2, i3, i4, i5, i6, i7⟩ := id hv
    have hs29 : s.1 29 = 0 := (zRw_up i2.1).mpr i4.up
    exact zGo_q (Or.inr ⟨v, hv⟩) ((c_down K N t s i1.2.2).2.2.2.2.2.2.2.2.2.1) ((m_down K N t s hs29).2.2.2.2.2.2.2.2.2.1)
theorem st_attach (K : px_K) (N n sets c : Nat) (hN : 2000 ≤ N) (hK : zKc K n sets) (hKm : zKm K) (hc : c + 4000000 < 2000000000) (t : px_W) (s : px_S) (h : zI n sets c s) : zGo n sets (c + 2000000) t (f_E_attach_1 K N s t) (f_M_attach_28 K N) := by
  rcases h with ⟨T, hT⟩ | ⟨v, hv⟩
  · obtain ⟨i1, i2, i3, i4, i5, i6, i7, i8⟩ := id hT
    have hna : T.tv.p.na + 3000000 < 2147483648 := by omega
    have hup := i5.iv.up
    have hz : ZSz T.tv.sets T.tv.ways T.tv.eps := i5.iv.sz
    cases hw : T.tv.wf with
    | true => exact zGo_q (Or.inl ⟨T, hT⟩) (c_attachUse K N t s T i1 i2 hw) (m_attachUse K N t s T i3 hup hw)
    | false =>
      have hrd := i5.iv.rd hw
      have hsz : T.tv.attach.sets = T.tv.sets ∧ T.tv.attach.ways = T.tv.ways := by unfold ZVs.attach; exact ⟨rfl, rfl⟩
      have hb := (zattach_na T.tv).2
      exact zGo_er hT (c_attachCall K N n sets hN hK t s T i6 i7 i1 i2 hrd hna) (fun u t1 hr => m_attach K N hN hKm t1 u T hr hrd hna) (zattach_ok i5 hrd (by omega)) hsz.1 hsz.2 (by show T.tv.attach.p.na ≤ _; omega)
  · obtain ⟨i1, i2, i3, i4, i5, i6, i7⟩ := id hv
    have hs29 : s.1 29 = 0 := (zRw_up i2.1).mpr i4.up
    exact zGo_q (Or.inr ⟨v, hv⟩) ((c_down K N t s i1.2.2).2.2.2.2.2.2.2.2.2.2.2.1) ((m_down K N t s hs29).2.2.2.2.2.2.2.2.2.2.2.1)
theorem st_limit (K : px_K) (N n sets c : Nat) (hN : 2000 ≤ N) (hK : zKc K n sets) (hKm : zKm K) (hc : c + 4000000 < 2000000000) (t : px_W) (s : px_S) (h : zI n sets c s) (k : Int32) (m : Int64) : zGo n sets (c + 2000000) t (f_E_limit_1 K N k m s t) (f_M_limit_28 K N k m) := by
  rcases h with ⟨T, hT⟩ | ⟨v, hv⟩
  · obtain ⟨i1, i2, i3, i4, i5, i6, i7, i8⟩ := id hT
    have hna : T.tv.p.na + 3000000 < 2147483648 := by omega
    have hup := i5.iv.up
    have hz : ZSz T.tv.sets T.tv.ways T.tv.eps := i5.iv.sz
    obtain ⟨l1, l2⟩ := c_limitCall K N n t s T i6 i1 i2 hup k m
    by_cases hk : 1 ≤ k ∧ k ≤ 1000
    · exact zGo_er hT (l1 hk) (fun u t1 hr => by
        obtain ⟨s', a1, a2, a3⟩ := (m_limit K N t1 u T hr k m).1 ⟨hup, hk⟩
        exact ⟨s', a1, a2, zMm_sm i4 rfl rfl rfl rfl rfl rfl rfl, a3⟩) (Or.inl ⟨hup, zlim_ok i5 k m⟩) rfl rfl (by show T.tv.p.na ≤ _; omega)
    · exact zGo_q (Or.inl ⟨T, hT⟩) (l2 hk) ((m_limit K N t s T i3 k m).2 (fun hx => hk hx.2))
  · obtain ⟨i1, i2, i3, i4, i5, i6, i7⟩ := id hv
    have hs29 : s.1 29 = 0 := (zRw_up i2.1).mpr i4.up
    exact zGo_q (Or.inr ⟨v, hv⟩) ((c_down K N t s i1.2.2).2.2.2.2.2.2.2.2.2.2.2.2.2.1 k m) (m_limitDn K N t s hs29 k m)
theorem st_crash (K : px_K) (N n sets c : Nat) (hN : 2000 ≤ N) (hK : zKc K n sets) (hKm : zKm K) (hc : c + 4000000 < 2000000000) (t : px_W) (s : px_S) (h : zI n sets c s) (m : Int64) : zGo n sets (c + 2000000) t (f_E_crash_1 K N m s t) (f_M_crash_28 K N m) := by
  rcases h with ⟨T, hT⟩ | ⟨v, hv⟩
  · obtain ⟨i1, i2, i3, i4, i5, i6, i7, i8⟩ := id hT
    have hna : T.tv.p.na + 3000000 < 2147483648 := by omega
    have hup := i5.iv.up
    have hz : ZSz T.tv.sets T.tv.ways T.tv.eps := i5.iv.sz
    refine zGo_es i3.1 i6 i7 i8 (c_crashCall K N n sets hN hK t s T.tv i6 (by rw [← i6]; exact i1.1.1) (zCt_s i1) i2 m) (fun u t1 hr => ?_) (i5.iv.crash (zGood_mono ZW) m) rfl rfl (by show T.tv.p.na ≤ _; omega)
    obtain ⟨s', a1, a2, a3⟩ := m_crash K N hN hKm t1 u T.tv hr m
    rw [if_pos hup] at a2
    rw [hup] at a1
    exact ⟨s', a1, a2, zMm_sm i4 rfl rfl rfl rfl rfl rfl rfl, a3⟩
  · obtain ⟨i1, i2, i3, i4, i5, i6, i7⟩ := id hv
    have hs29 : s.1 29 = 0 := (zRw_up i2.1).mpr i4.up
    obtain ⟨s', a1, a2, a3⟩ := m_crash K N hN hKm t s v i2 m
    rw [if_neg (by rw [i4.up]; exact Bool.noConfusion)] at a2
    rw [i4.up] at a1
    exact ⟨0, s, t, s', (c_down K N t s i1.2.2).2.2.2.2.2.2.2.2.2.2.2.2.2.2 m, a1, Or.inr ⟨v, zEd_fu i1 a3, a2, i3, i4, i5, i6, by omega⟩, zTt_refl t⟩
theorem st_lose (K : px_K) (N n sets c : Nat) (hN : 2000 ≤ N) (hK : zKc K n sets) (hKm : zKm K) (hc : c + 4000000 < 2000000000) (t : px_W) (s : px_S) (h : zI n sets c s) (m : Int64) : zGo n sets (c + 2000000) t (f_E_lose_1 K N m s t) (f_M_lose_28 K N m) := by
  rcases h with ⟨T, hT⟩ | ⟨v, hv⟩
  · obtain ⟨i1, i2, i3, i4, i5, i6, i7, i8⟩ := id hT
    have hna : T.tv.p.na + 3000000 < 2147483648 := by omega
    have hup := i5.iv.up
    have hz : ZSz T.tv.sets T.tv.ways T.tv.eps := i5.iv.sz
    have hX := c_loseCall K N n sets hN hK t s T.tv i6 (by rw [← i6]; exact i1.1.1) (zCt_s i1) (by rw [i2, hup]; rfl) m
    rw [if_pos hup] at hX
    refine zGo_es i3.1 i6 i7 i8 hX (fun u t1 hr => ?_) (zlose_up (zGood_mono ZW) i5.iv.cr m) rfl rfl (by show T.tv.p.na ≤ _; omega)
    obtain ⟨s', a1, a2, a3⟩ := m_lose K N hN hKm t1 u T.tv hr m
    rw [if_pos hup] at a2
    exact ⟨s', a1, a2, zMm_sm i4 rfl rfl rfl rfl rfl rfl rfl, a3⟩
  · obtain ⟨i1, i2, i3, i4, i5, i6, i7⟩ := id hv
    have hs29 : s.1 29 = 0 := (zRw_up i2.1).mpr i4.up
    have hX := c_loseCall K N n sets hN hK t s v i5 (by rw [← i5]; exact i1.1) i1.2.1 (by rw [i1.2.2, i4.up]; rfl) m
    rw [if_neg (by rw [i4.up]; exact Bool.noConfusion)] at hX
    refine zGo_es i2 i5 i6 i7 hX (fun u t1 hr => ?_) (zlose_down i4) rfl rfl (by show v.p.na ≤ _; omega)
    obtain ⟨s', a1, a2, a3⟩ := m_lose K N hN hKm t1 u v hr m
    rw [if_neg (by rw [i4.up]; exact Bool.noConfusion)] at a2
    exact ⟨s', a1, a2, zMm_sm i3 rfl rfl rfl rfl rfl rfl rfl, a3⟩
theorem bN_if (x : Int32) : ∃ f : Bool, (if x = 0 then (0 : Int32) else (1 : Int32)) = bN f := by
  by_cases hx : x = 0
  · exact ⟨false, by rw [if_pos hx]; rfl⟩
  · exact ⟨true, by rw [if_neg hx]; rfl⟩
theorem st_word (K : px_K) (N n sets c : Nat) (hN : 2000 ≤ N) (hK : zKc K n sets) (hKm : zKm K) (hc : c + 4000000 < 2000000000) (t : px_W) (s : px_S) (h : zI n sets c s) (d b w x : Int32) : zGo n sets (c + 2000000) t (f_E_word_1 K N d b w (if x = 0 then (0 : Int32) else (1 : Int32)) s t) (f_M_word2_28 K N d b w (if x = 0 then (0 : Int32) else (1 : Int32))) := by
  obtain ⟨st, hst⟩ := bN_if x
  rw [hst]
  rcases h with ⟨T, hT⟩ | ⟨v, hv⟩
  · obtain ⟨i1, i2, i3, i4, i5, i6, i7, i8⟩ := id hT
    have hna : T.tv.p.na + 3000000 < 2147483648 := by omega
    have hup := i5.iv.up
    have hz : ZSz T.tv.sets T.tv.ways T.tv.eps := i5.iv.sz
    exact zGo_q (Or.inl ⟨T, hT⟩) (c_wordCall K N n sets hK t s T.tv i6 (by rw [← i6]; exact i1.1.1) d b w st) (m_word2 K N hN hKm t s T.tv i3.1 hz d b w st)
  · obtain ⟨i1, i2, i3, i4, i5, i6, i7⟩ := id hv
    have hs29 : s.1 29 = 0 := (zRw_up i2.1).mpr i4.up
    exact zGo_q (Or.inr ⟨v, hv⟩) (c_wordCall K N n sets hK t s v i5 (by rw [← i5]; exact i1.1) d b w st) (m_word2 K N hN hKm t s v i2 i4.sz d b w st)
theorem st_count (K : px_K) (N n sets c : Nat) (hN : 2000 ≤ N) (hK : zKc K n sets) (hKm : zKm K) (hc : c + 4000000 < 2000000000) (t : px_W) (s : px_S) (h : zI n sets c s) (a : Int32) : zGo n sets (c + 2000000) t (f_E_count_1 K N a s t) (f_M_count_28 K N a) := by
  rcases h with ⟨T, hT⟩ | ⟨v, hv⟩
  · obtain ⟨i1, i2, i3, i4, i5, i6, i7, i8⟩ := id hT
    have hna : T.tv.p.na + 3000000 < 2147483648 := by omega
    have hup := i5.iv.up
    have hz : ZSz T.tv.sets T.tv.ways T.tv.eps := i5.iv.sz
    exact zGo_q (Or.inl ⟨T, hT⟩) (c_countUp K N n sets hN hK t s T i6 i1 i2 i5 a) (m_countUp K N hN hKm t s T i3 i4 hup a)
  · obtain ⟨i1, i2, i3, i4, i5, i6, i7⟩ := id hv
    have hs29 : s.1 29 = 0 := (zRw_up i2.1).mpr i4.up
    exact zGo_q (Or.inr ⟨v, hv⟩) (c_countDn K N n sets hK t s v i5 i1 a) (m_countDn K N hN hKm t s v i2 i4.up a)
theorem st_mount (K : px_K) (N n sets c : Nat) (hN : 2000 ≤ N) (hK : zKc K n sets) (hKm : zKm K) (hc : c + 4000000 < 2000000000) (t : px_W) (s : px_S) (h : zI n sets c s) (x k : Int32) (m : Int64) : zGo n sets (c + 2000000) t (f_E_mount_1 K N (if x = 0 then (0 : Int32) else (1 : Int32)) k m s t) (f_M_mount_28 K N (if x = 0 then (0 : Int32) else (1 : Int32)) k m) := by
  obtain ⟨f, hf⟩ := bN_if x
  rw [hf]
  rcases h with ⟨T, hT⟩ | ⟨v, hv⟩
  · obtain ⟨i1, i2, i3, i4, i5, i6, i7, i8⟩ := id hT
    have hna : T.tv.p.na + 3000000 < 2147483648 := by omega
    have hup := i5.iv.up
    have hz : ZSz T.tv.sets T.tv.ways T.tv.eps := i5.iv.sz
    exact zGo_q (Or.inl ⟨T, hT⟩) (c_mountUp K N t s i2 (bN f) k m) (m_mountUp K N hN hKm t s T.tv i3.1 hup (bN f) k m)
  · obtain ⟨i1, i2, i3, i4, i5, i6, i7⟩ := id hv
    have hs29 : s.1 29 = 0 := (zRw_up i2.1).mpr i4.up
    obtain ⟨l1, l2⟩ := c_mountCall K N n sets hN hK t s v i5 i6 i1 i4 (by omega) f k m
    by_cases hno : f = true ∧ v.good = none
    · exact zGo_q (Or.inr ⟨v, hv⟩) (l1 hno.1 hno.2) ((m_mount hWZ K N hN hKm t s v i2 i3 i4 (by omega) f k m).1 hno.1 hno.2)
    · obtain ⟨h0, hg⟩ : ∃ h0, f = true → v.good = some h0 := by
        cases hgo : v.good with
        | none => exact ⟨0, fun hx => absurd ⟨hx, hgo⟩ hno⟩
        | some h0 => exact ⟨h0, fun _ => rfl⟩
      obtain ⟨ok1, F1⟩ := zmount_ok i4 (by omega) f h0 hg k m
      obtain ⟨r, e, hm⟩ := l2 h0 hg
      have hmr := fun u t1 hr => (m_mount hWZ K N hN hKm t1 u v hr i3 i4 (by omega) f k m).2 h0 hg
      obtain ⟨v1, hv1⟩ : ∃ v1, v1 = zMv1 v f h0 k m := ⟨_, rfl⟩
      rw [← hv1] at ok1 F1 hm hmr
      have hs1 : v1.sets = v.sets := F1.s
      have hw1 : v1.ways = v.ways := F1.w
      have hb1 : v1.p.na ≤ v.p.na + 286 := F1.n2
      have hn1 : v1.n = n := by show v1.sets * v1.ways = n; rw [hs1, hw1]; exact i5
      rcases hm with ⟨hup, u, t1, rfl, ht, hx, hst⟩ | ⟨hdn, u, t1, rfl, ht, hx, hd1⟩
      · have hiv : ZIv (zGood ZW) (fun V => V = v1.cur) v1 := by
          rcases ok1 with ⟨_, q⟩ | q
          · exact q
          · have := q.up; rw [hup] at this; cases this
        have hok := zload hWZ hiv (by omega)
        have F2 : ZFr 779402 v1 (zLoad v1).home.tv := zfr_home (zLoad v1) hiv.sz
        have hb2 := F2.n2
        obtain ⟨s1, f1, r', e', hr'⟩ := hmr u t1 (zRv_hl i2 (zHx_l hx))
        rcases hr' with ⟨_, s', rfl, y2, y3, y4⟩ | ⟨hdn, _⟩
        · have hfu : zFu u s' := zFu_trans f1 (zFt_fu y4)
          refine ⟨_, u, t1, s', e, e', ?_, ht⟩
          rcases hst with ⟨hu2, c1, c2⟩ | ⟨hu2, c1⟩
          · refine Or.inl ⟨(zLoad v1).home, zCt_fu c1 hfu, by rw [hfu.2.1 0 (by omega)]; exact c2, y2, y3, ?_, (zFr_n F2).trans hn1, F2.s.trans (hs1.trans i6), by omega⟩
            rcases hok with ⟨_, q⟩ | q
            · exact q.1
            · have := q.up; rw [hu2] at this; cases this
          · refine Or.inr ⟨(zLoad v1).home.tv, zEd_fu c1 hfu, y2.1, y3, ?_, (zFr_n F2).trans hn1, F2.s.trans (hs1.trans i6), by omega⟩
            rcases hok with ⟨q, _⟩ | q
            · rw [hu2] at q; cases q
            · exact q
        · rw [hup] at hdn; cases hdn
      · obtain ⟨s1, f1, r', e', hr'⟩ := hmr u t1 (zRv_hl i2 (zHx_l hx))
        rcases hr' with ⟨hup, _⟩ | ⟨_, s', rfl, y2, y3, y4⟩
        · rw [hdn] at hup; cases hup
        · have hfu : zFu u s' := zFu_trans f1 (zFt_fu y4)
          refine ⟨_, u, t1, s', e, e', Or.inr ⟨v1, zEd_fu hd1 hfu, y2, y3, ?_, hn1, hs1.trans i6, by omega⟩, ht⟩
          rcases ok1 with ⟨q, _⟩ | q
          · rw [hdn] at q; cases q
          · exact q
theorem zread_ok {T : ZTs} (hi : ZTi ZW T) (f p : Int32) : ZTOk ZW (fun V => ZTi ZW V) (xRead T f p).2.2 ∧ ZFr 1 T.tv (xRead T f p).2.2.tv := by
  by_cases hc : zKb T.wd f 2 = true ∧ 0 ≤ p ∧ p < 320
  · obtain ⟨k1, k2, k3⟩ := zKd_of hc.1
    obtain ⟨p1, p2⟩ := i32_320 hc.2.1 hc.2.2
    have hr := (hi.ww.a.pv (n32 f) (n32 p / 16) k2 (by omega)).2
    have e : xRead T f p = (if tB T.wd (n32 f) (n32 p / 16) = 0 then (0, 0, T)
      else (if (xFetch T (tB T.wd (n32 f) (n32 p / 16))).tv.p.up = true then (0, T.wd (tB T.wd (n32 f) (n32 p / 16)) (n32 p % 16), xFetch T (tB T.wd (n32 f) (n32 p / 16))) else (1, 0, xFetch T (tB T.wd (n32 f) (n32 p / 16))))) := if_pos hc
    rw [e]
    split
    · exact ⟨Or.inl ⟨hi.iv.up, hi⟩, zfr_same _⟩
    · split
      · exact ⟨zfetch_ok hi (by omega), zfr_fetch T _⟩
      · exact ⟨zfetch_ok hi (by omega), zfr_fetch T _⟩
  · have e : xRead T f p = (2, 0, T) := if_neg hc
    rw [e]
    exact ⟨Or.inl ⟨hi.iv.up, hi⟩, zfr_same _⟩
theorem st_read (K : px_K) (N n sets c : Nat) (hN : 2000 ≤ N) (hK : zKc K n sets) (hKm : zKm K) (hc : c + 4000000 < 2000000000) (t : px_W) (s : px_S) (h : zI n sets c s) (hK46 : K.2.2 46 = 1) (f p : Int32) : ∃ k a s1 t1 s2, f_L_read_1_46 K N f p s t = some (.inl (some (.int k)), s1, t1) ∧ f_M_read2_28 K N f p s1 t1 = some (.inl (some (.int a)), s2, t1) ∧ s2.1 25 = k ∧ (k = 0 → s2.2.2.2 0 = a.toInt64) ∧ zI n sets (c + 2000000) s2 ∧ zTt t t1 := by
  rcases h with ⟨T, hT⟩ | ⟨v, hv⟩
  · obtain ⟨i1, i2, i3, i4, i5, i6, i7, i8⟩ := id hT
    have hna : T.tv.p.na + 3000000 < 2147483648 := by omega
    have hup := i5.iv.up
    have hz : ZSz T.tv.sets T.tv.ways T.tv.eps := i5.iv.sz
    obtain ⟨hok, F⟩ := zread_ok i5 f p
    have hb := F.n2
    obtain ⟨r, e, u, t1, rfl, ht, hx, ho, hst⟩ := c_readCall K N n sets hN hK hK46 t s T i6 i7 i1 i2 i5 (by omega) f p
    obtain ⟨s', a1, a2, a3, a4, a5⟩ := m_read2 K N hN hKm t1 u T (zRt_hl i3 hx) i4 i5 i5.ww f p
    have hk3 : (xRead T f p).1 < 2147483648 := by
      unfold xRead
      split
      · split
        · show 0 < _; omega
        · split
          · show 0 < _; omega
          · show 1 < _; omega
      · show 2 < _; omega
    refine ⟨_, _, u, t1, s', e, a1, a4, fun hk => ?_, ?_, ht⟩
    · rw [a5.2.2.2]
      exact ho (iN_inj hk3 (by omega) (hk.trans iL0))
    · rcases hst with ⟨hu2, c1, c2⟩ | ⟨hu2, c1⟩
      · refine Or.inl ⟨_, zCt_fu c1 a5, by rw [a5.2.1 0 (by omega)]; exact c2, a2, a3, ?_, (zFr_n F).trans i6, F.s.trans i7, by omega⟩
        rcases hok with ⟨_, q⟩ | q
        · exact q
        · have := q.up; rw [hu2] at this; cases this
      · refine Or.inr ⟨_, zEd_fu c1 a5, a2.1, a3, ?_, (zFr_n F).trans i6, F.s.trans i7, by omega⟩
        rcases hok with ⟨q, _⟩ | q
        · rw [hu2] at q; cases q
        · exact q
  · obtain ⟨i1, i2, i3, i4, i5, i6, i7⟩ := id hv
    have hs29 : s.1 29 = 0 := (zRw_up i2.1).mpr i4.up
    exact ⟨1, 0, s, t ++ [px_exc 7], sR s 25 (1 : Int32), c_readDn K N t s i1.2.2 f p, (m_down K N (t ++ [px_exc 7]) s hs29).2.2.2.2.2.2.2.2.2.2.2.2.2 f p, sR_self _ _ _, fun hk => absurd hk (by decide), zI_mono (zI_25 (Or.inr ⟨v, hv⟩) 1) (by omega), zTt_1 t 7⟩
