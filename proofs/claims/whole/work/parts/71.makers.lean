theorem nh_Law_7 : ∀ j, j < 8 → defaultValue (zy_Vol j) = vp_V [.null, .null, .null, .null, .null, .null, .null, .int (zi 0)] j := by
  intro j hj
  rcases (show j = 0 ∨ j = 1 ∨ j = 2 ∨ j = 3 ∨ j = 4 ∨ j = 5 ∨ j = 6 ∨ j = 7 by omega) with rfl | rfl | rfl | rfl | rfl | rfl | rfl | rfl
  · exact rfl
  · exact rfl
  · exact rfl
  · exact rfl
  · exact rfl
  · exact rfl
  · exact rfl
  · exact zi_defb

theorem nw_Law_7 : Nw zc_Law 7 5 8 [.null, .null, .null, .null, .null, .null, .null, .int (zi 0)] := ⟨zc_Vol, zt_Vol, zy_Vol, rfl, zv_Vol, zo_Vol, nh_Law_7, (tm_1 _ (List.mem_of_getElem? (i := 10) rfl)), rfl, (tm_1 _ (List.mem_of_getElem? (i := 11) rfl)), rfl, (tm_1 _ (List.mem_of_getElem? (i := 1) rfl))⟩
theorem nh_Vol_7 : ∀ j, j < 7 → defaultValue (zy_Disk j) = vp_V [.null, .null, .null, .null, .null, .null, .null] j := by
  intro j hj
  rcases (show j = 0 ∨ j = 1 ∨ j = 2 ∨ j = 3 ∨ j = 4 ∨ j = 5 ∨ j = 6 by omega) with rfl | rfl | rfl | rfl | rfl | rfl | rfl
  · exact rfl
  · exact rfl
  · exact rfl
  · exact rfl
  · exact rfl
  · exact rfl
  · exact rfl

theorem nw_Vol_7 : Nw zc_Vol 7 0 7 [.null, .null, .null, .null, .null, .null, .null] := ⟨zc_Disk, zt_Disk, zy_Disk, rfl, zv_Disk, zo_Disk, nh_Vol_7, (tm_1 _ (List.mem_of_getElem? (i := 18) rfl)), rfl, (tm_1 _ (List.mem_of_getElem? (i := 19) rfl)), rfl, (tm_1 _ (List.mem_of_getElem? (i := 2) rfl))⟩
theorem nh_Disk_31 : ∀ j, j < 3 → defaultValue (zy_Runs j) = vp_V [.null, .null, .int (zi 0)] j := by
  intro j hj
  rcases (show j = 0 ∨ j = 1 ∨ j = 2 by omega) with rfl | rfl | rfl
  · exact rfl
  · exact rfl
  · exact zi_def0

theorem nw_Disk_31 : Nw zc_Disk 31 3 3 [.null, .null, .int (zi 0)] := ⟨zc_Runs, zt_Runs, zy_Runs, rfl, zv_Runs, zo_Runs, nh_Disk_31, (tm_1 _ (List.mem_of_getElem? (i := 24) rfl)), rfl, (tm_1 _ (List.mem_of_getElem? (i := 25) rfl)), rfl, (tm_1 _ (List.mem_of_getElem? (i := 3) rfl))⟩
theorem nh_Vol_22 : ∀ j, j < 3 → defaultValue (zy_Mind j) = vp_V [.null, .null, .int (zi 0)] j := by
  intro j hj
  rcases (show j = 0 ∨ j = 1 ∨ j = 2 by omega) with rfl | rfl | rfl
  · exact rfl
  · exact rfl
  · exact zi_def0

theorem nw_Vol_22 : Nw zc_Vol 22 1 3 [.null, .null, .int (zi 0)] := ⟨zc_Mind, zt_Mind, zy_Mind, rfl, zv_Mind, zo_Mind, nh_Vol_22, (tm_1 _ (List.mem_of_getElem? (i := 66) rfl)), rfl, (tm_1 _ (List.mem_of_getElem? (i := 67) rfl)), rfl, (tm_1 _ (List.mem_of_getElem? (i := 4) rfl))⟩
theorem nh_Vol_31 : ∀ j, j < 1 → defaultValue (zy_Text j) = vp_V [.null] j := by
  intro j hj
  rcases (show j = 0 by omega) with rfl
  · exact rfl

theorem nw_Vol_31 : Nw zc_Vol 31 4 1 [.null] := ⟨zc_Text, zt_Text, zy_Text, rfl, zv_Text, zo_Text, nh_Vol_31, (tm_1 _ (List.mem_of_getElem? (i := 82) rfl)), rfl, (tm_1 _ (List.mem_of_getElem? (i := 83) rfl)), rfl, (tm_1 _ (List.mem_of_getElem? (i := 5) rfl))⟩
theorem nh_Text_9 : ∀ j, j < 2 → defaultValue (zy_Row j) = vp_V [.null, .int (zi 0)] j := by
  intro j hj
  rcases (show j = 0 ∨ j = 1 by omega) with rfl | rfl
  · exact rfl
  · exact zi_def0

theorem nw_Text_9 : Nw zc_Text 9 2 2 [.null, .int (zi 0)] := ⟨zc_Row, zt_Row, zy_Row, rfl, zv_Row, zo_Row, nh_Text_9, (tm_1 _ (List.mem_of_getElem? (i := 88) rfl)), rfl, (tm_1 _ (List.mem_of_getElem? (i := 89) rfl)), rfl, (tm_1 _ (List.mem_of_getElem? (i := 6) rfl))⟩
theorem nh_Vol_38 : ∀ j, j < 2 → defaultValue (zy_Row j) = vp_V [.null, .int (zi 0)] j := by
  intro j hj
  rcases (show j = 0 ∨ j = 1 by omega) with rfl | rfl
  · exact rfl
  · exact zi_def0

theorem nw_Vol_38 : Nw zc_Vol 38 2 2 [.null, .int (zi 0)] := ⟨zc_Row, zt_Row, zy_Row, rfl, zv_Row, zo_Row, nh_Vol_38, (tm_1 _ (List.mem_of_getElem? (i := 112) rfl)), rfl, (tm_1 _ (List.mem_of_getElem? (i := 89) rfl)), rfl, (tm_1 _ (List.mem_of_getElem? (i := 6) rfl))⟩
theorem nh_Law_10 : ∀ j, j < 26 → defaultValue (zy_Mod j) = vp_V [.null, .null, .null, .null, .null, .null, .null, .int (zi 0), .int (zi 0), .null, .null, .null, .null, .int (zi 0), .int (zi 0), .int (zi 0), .int (zi 0), .null, .int (zi 0), .int (zi 0), .int (zi 0), .null, .null, .null, .int (zi 0), .int (zi 0)] j := by
  intro j hj
  rcases (show j = 0 ∨ j = 1 ∨ j = 2 ∨ j = 3 ∨ j = 4 ∨ j = 5 ∨ j = 6 ∨ j = 7 ∨ j = 8 ∨ j = 9 ∨ j = 10 ∨ j = 11 ∨ j = 12 ∨ j = 13 ∨ j = 14 ∨ j = 15 ∨ j = 16 ∨ j = 17 ∨ j = 18 ∨ j = 19 ∨ j = 20 ∨ j = 21 ∨ j = 22 ∨ j = 23 ∨ j = 24 ∨ j = 25 by omega) with rfl | rfl | rfl | rfl | rfl | rfl | rfl | rfl | rfl | rfl | rfl | rfl | rfl | rfl | rfl | rfl | rfl | rfl | rfl | rfl | rfl | rfl | rfl | rfl | rfl | rfl
  · exact rfl
  · exact rfl
  · exact rfl
  · exact rfl
  · exact rfl
  · exact rfl
  · exact rfl
  · exact zi_def0
  · exact zi_def0
  · exact rfl
  · exact rfl
  · exact rfl
  · exact rfl
  · exact zi_def0
  · exact zi_def0
  · exact zi_def0
  · exact zi_def0
  · exact rfl
  · exact zi_defb
  · exact zi_defb
  · exact zi_def0
  · exact rfl
  · exact rfl
  · exact rfl
  · exact zi_def0
  · exact zi_def0

theorem nw_Law_10 : Nw zc_Law 10 6 26 [.null, .null, .null, .null, .null, .null, .null, .int (zi 0), .int (zi 0), .null, .null, .null, .null, .int (zi 0), .int (zi 0), .int (zi 0), .int (zi 0), .null, .int (zi 0), .int (zi 0), .int (zi 0), .null, .null, .null, .int (zi 0), .int (zi 0)] := ⟨zc_Mod, zt_Mod, zy_Mod, rfl, zv_Mod, zo_Mod, nh_Law_10, (tm_4 _ (List.mem_of_getElem? (i := 31) rfl)), rfl, (tm_4 _ (List.mem_of_getElem? (i := 32) rfl)), rfl, (tm_1 _ (List.mem_of_getElem? (i := 8) rfl))⟩
theorem ff_Runs_9 (x : Nat) : Ff zc_Runs 9 3 0 (.ref x) := ⟨zc_Runs, zt_Runs, 3, zy_Runs, (.array .int), rfl, by decide, zv_Runs, zo_Runs, zn_Runs, by decide +kernel, by decide +kernel, by decide +kernel, rfl, rfl, (tm_1 _ (List.mem_of_getElem? (i := 30) rfl)), rfl⟩
theorem ff_Runs_15 (x : Nat) : Ff zc_Runs 15 3 1 (.ref x) := ⟨zc_Runs, zt_Runs, 3, zy_Runs, (.array .int), rfl, by decide, zv_Runs, zo_Runs, zn_Runs, by decide +kernel, by decide +kernel, by decide +kernel, rfl, rfl, (tm_1 _ (List.mem_of_getElem? (i := 31) rfl)), rfl⟩
theorem ff_Disk_9 (x : Nat) : Ff zc_Disk 9 0 0 (.ref x) := ⟨zc_Disk, zt_Disk, 7, zy_Disk, (.array .int), rfl, by decide, zv_Disk, zo_Disk, zn_Disk, by decide +kernel, by decide +kernel, by decide +kernel, rfl, rfl, (tm_1 _ (List.mem_of_getElem? (i := 44) rfl)), rfl⟩
theorem ff_Disk_15 (x : Nat) : Ff zc_Disk 15 0 1 (.ref x) := ⟨zc_Disk, zt_Disk, 7, zy_Disk, (.array .int), rfl, by decide, zv_Disk, zo_Disk, zn_Disk, by decide +kernel, by decide +kernel, by decide +kernel, rfl, rfl, (tm_1 _ (List.mem_of_getElem? (i := 45) rfl)), rfl⟩
theorem ff_Disk_18 (x : Nat) : Ff zc_Disk 18 0 2 (.ref x) := ⟨zc_Disk, zt_Disk, 7, zy_Disk, (.array .int), rfl, by decide, zv_Disk, zo_Disk, zn_Disk, by decide +kernel, by decide +kernel, by decide +kernel, rfl, rfl, (tm_1 _ (List.mem_of_getElem? (i := 46) rfl)), rfl⟩
theorem ff_Disk_21 (x : Nat) : Ff zc_Disk 21 0 3 (.ref x) := ⟨zc_Disk, zt_Disk, 7, zy_Disk, (.array .int), rfl, by decide, zv_Disk, zo_Disk, zn_Disk, by decide +kernel, by decide +kernel, by decide +kernel, rfl, rfl, (tm_1 _ (List.mem_of_getElem? (i := 47) rfl)), rfl⟩
theorem ff_Disk_24 (x : Nat) : Ff zc_Disk 24 0 4 (.ref x) := ⟨zc_Disk, zt_Disk, 7, zy_Disk, (.array .int), rfl, by decide, zv_Disk, zo_Disk, zn_Disk, by decide +kernel, by decide +kernel, by decide +kernel, rfl, rfl, (tm_1 _ (List.mem_of_getElem? (i := 48) rfl)), rfl⟩
theorem ff_Disk_27 (x : Nat) : Ff zc_Disk 27 0 5 (.ref x) := ⟨zc_Disk, zt_Disk, 7, zy_Disk, (.array .boolean), rfl, by decide, zv_Disk, zo_Disk, zn_Disk, by decide +kernel, by decide +kernel, by decide +kernel, rfl, rfl, (tm_1 _ (List.mem_of_getElem? (i := 49) rfl)), rfl⟩
theorem ff_Disk_34 (x : Nat) : Ff zc_Disk 34 0 6 (.ref x) := ⟨zc_Disk, zt_Disk, 7, zy_Disk, (.object "TwinTreeVolume$Runs"), rfl, by decide, zv_Disk, zo_Disk, zn_Disk, by decide +kernel, by decide +kernel, by decide +kernel, rfl, rfl, (tm_1 _ (List.mem_of_getElem? (i := 50) rfl)), rfl⟩
theorem ff_Mind_9 (x : Nat) : Ff zc_Mind 9 1 0 (.ref x) := ⟨zc_Mind, zt_Mind, 3, zy_Mind, (.object "TwinTreeVolume$Disk"), rfl, by decide, zv_Mind, zo_Mind, zn_Mind, by decide +kernel, by decide +kernel, by decide +kernel, rfl, rfl, (tm_1 _ (List.mem_of_getElem? (i := 72) rfl)), rfl⟩
theorem ff_Mind_15 (x : Nat) : Ff zc_Mind 15 1 1 (.ref x) := ⟨zc_Mind, zt_Mind, 3, zy_Mind, (.object "TwinTreeVolume$Disk"), rfl, by decide, zv_Mind, zo_Mind, zn_Mind, by decide +kernel, by decide +kernel, by decide +kernel, rfl, rfl, (tm_1 _ (List.mem_of_getElem? (i := 73) rfl)), rfl⟩
theorem ff_Row_15 (x : Nat) : Ff zc_Row 15 2 0 (.ref x) := ⟨zc_Row, zt_Row, 2, zy_Row, (.array .int), rfl, by decide, zv_Row, zo_Row, zn_Row, by decide +kernel, by decide +kernel, by decide +kernel, rfl, rfl, (tm_1 _ (List.mem_of_getElem? (i := 97) rfl)), rfl⟩
theorem ff_Text_14 (x : Nat) : Ff zc_Text 14 4 0 (.ref x) := ⟨zc_Text, zt_Text, 1, zy_Text, (.object "TwinTreeVolume$Row"), rfl, by decide, zv_Text, zo_Text, zn_Text, by decide +kernel, by decide +kernel, by decide +kernel, rfl, rfl, (tm_1 _ (List.mem_of_getElem? (i := 107) rfl)), rfl⟩
theorem ff_Vol_10 (x : Nat) : Ff zc_Vol 10 5 0 (.ref x) := ⟨zc_Vol, zt_Vol, 8, zy_Vol, (.object "TwinTreeVolume$Disk"), rfl, by decide, zv_Vol, zo_Vol, zn_Vol, by decide +kernel, by decide +kernel, by decide +kernel, rfl, rfl, (tm_1 _ (List.mem_of_getElem? (i := 114) rfl)), rfl⟩
theorem ff_Vol_19 (x : Nat) : Ff zc_Vol 19 5 1 (.ref x) := ⟨zc_Vol, zt_Vol, 8, zy_Vol, (.object "TwinTreeVolume$Disk"), rfl, by decide, zv_Vol, zo_Vol, zn_Vol, by decide +kernel, by decide +kernel, by decide +kernel, rfl, rfl, (tm_1 _ (List.mem_of_getElem? (i := 115) rfl)), rfl⟩
theorem ff_Vol_16 (x : Nat) : Ff zc_Vol 16 5 2 (.ref x) := ⟨zc_Vol, zt_Vol, 8, zy_Vol, (.object "TwinTreeVolume$Disk"), rfl, by decide, zv_Vol, zo_Vol, zn_Vol, by decide +kernel, by decide +kernel, by decide +kernel, rfl, rfl, (tm_1 _ (List.mem_of_getElem? (i := 116) rfl)), rfl⟩
theorem ff_Vol_27 (x : Nat) : Ff zc_Vol 27 5 3 (.ref x) := ⟨zc_Vol, zt_Vol, 8, zy_Vol, (.object "TwinTreeVolume$Mind"), rfl, by decide, zv_Vol, zo_Vol, zn_Vol, by decide +kernel, by decide +kernel, by decide +kernel, rfl, rfl, (tm_1 _ (List.mem_of_getElem? (i := 117) rfl)), rfl⟩
theorem ff_Vol_34 (x : Nat) : Ff zc_Vol 34 5 4 (.ref x) := ⟨zc_Vol, zt_Vol, 8, zy_Vol, (.object "TwinTreeVolume$Text"), rfl, by decide, zv_Vol, zo_Vol, zn_Vol, by decide +kernel, by decide +kernel, by decide +kernel, rfl, rfl, (tm_1 _ (List.mem_of_getElem? (i := 118) rfl)), rfl⟩
theorem ff_Vol_43 (x : Nat) : Ff zc_Vol 43 5 5 (.ref x) := ⟨zc_Vol, zt_Vol, 8, zy_Vol, (.object "TwinTreeVolume$Row"), rfl, by decide, zv_Vol, zo_Vol, zn_Vol, by decide +kernel, by decide +kernel, by decide +kernel, rfl, rfl, (tm_1 _ (List.mem_of_getElem? (i := 119) rfl)), rfl⟩
theorem ff_Vol_47 (x : Nat) : Ff zc_Vol 47 5 6 (.ref x) := ⟨zc_Vol, zt_Vol, 8, zy_Vol, (.array .int), rfl, by decide, zv_Vol, zo_Vol, zn_Vol, by decide +kernel, by decide +kernel, by decide +kernel, rfl, rfl, (tm_1 _ (List.mem_of_getElem? (i := 120) rfl)), rfl⟩
theorem ff_Mod_7 (x : Nat) : Ff zc_Mod 7 6 0 (.ref x) := ⟨zc_Mod, zt_Mod, 26, zy_Mod, (.array .int), rfl, by decide, zv_Mod, zo_Mod, zn_Mod, by decide +kernel, by decide +kernel, by decide +kernel, rfl, rfl, (tm_4 _ (List.mem_of_getElem? (i := 37) rfl)), rfl⟩
theorem ff_Mod_13 (x : Nat) : Ff zc_Mod 13 6 1 (.ref x) := ⟨zc_Mod, zt_Mod, 26, zy_Mod, (.array .int), rfl, by decide, zv_Mod, zo_Mod, zn_Mod, by decide +kernel, by decide +kernel, by decide +kernel, rfl, rfl, (tm_4 _ (List.mem_of_getElem? (i := 38) rfl)), rfl⟩
theorem ff_Mod_16 (x : Nat) : Ff zc_Mod 16 6 2 (.ref x) := ⟨zc_Mod, zt_Mod, 26, zy_Mod, (.array .int), rfl, by decide, zv_Mod, zo_Mod, zn_Mod, by decide +kernel, by decide +kernel, by decide +kernel, rfl, rfl, (tm_4 _ (List.mem_of_getElem? (i := 39) rfl)), rfl⟩
theorem ff_Mod_19 (x : Nat) : Ff zc_Mod 19 6 3 (.ref x) := ⟨zc_Mod, zt_Mod, 26, zy_Mod, (.array .int), rfl, by decide, zv_Mod, zo_Mod, zn_Mod, by decide +kernel, by decide +kernel, by decide +kernel, rfl, rfl, (tm_4 _ (List.mem_of_getElem? (i := 40) rfl)), rfl⟩
theorem ff_Mod_22 (x : Nat) : Ff zc_Mod 22 6 4 (.ref x) := ⟨zc_Mod, zt_Mod, 26, zy_Mod, (.array .int), rfl, by decide, zv_Mod, zo_Mod, zn_Mod, by decide +kernel, by decide +kernel, by decide +kernel, rfl, rfl, (tm_4 _ (List.mem_of_getElem? (i := 41) rfl)), rfl⟩
theorem ff_Mod_25 (x : Nat) : Ff zc_Mod 25 6 5 (.ref x) := ⟨zc_Mod, zt_Mod, 26, zy_Mod, (.array .int), rfl, by decide, zv_Mod, zo_Mod, zn_Mod, by decide +kernel, by decide +kernel, by decide +kernel, rfl, rfl, (tm_4 _ (List.mem_of_getElem? (i := 42) rfl)), rfl⟩
theorem ff_Mod_28 (x : Nat) : Ff zc_Mod 28 6 6 (.ref x) := ⟨zc_Mod, zt_Mod, 26, zy_Mod, (.array .int), rfl, by decide, zv_Mod, zo_Mod, zn_Mod, by decide +kernel, by decide +kernel, by decide +kernel, rfl, rfl, (tm_4 _ (List.mem_of_getElem? (i := 43) rfl)), rfl⟩
theorem ff_Mod_31 (x : Nat) : Ff zc_Mod 31 6 9 (.ref x) := ⟨zc_Mod, zt_Mod, 26, zy_Mod, (.array .int), rfl, by decide, zv_Mod, zo_Mod, zn_Mod, by decide +kernel, by decide +kernel, by decide +kernel, rfl, rfl, (tm_4 _ (List.mem_of_getElem? (i := 46) rfl)), rfl⟩
theorem ff_Mod_34 (x : Nat) : Ff zc_Mod 34 6 10 (.ref x) := ⟨zc_Mod, zt_Mod, 26, zy_Mod, (.array .int), rfl, by decide, zv_Mod, zo_Mod, zn_Mod, by decide +kernel, by decide +kernel, by decide +kernel, rfl, rfl, (tm_4 _ (List.mem_of_getElem? (i := 47) rfl)), rfl⟩
theorem ff_Mod_37 (x : Nat) : Ff zc_Mod 37 6 11 (.ref x) := ⟨zc_Mod, zt_Mod, 26, zy_Mod, (.array .int), rfl, by decide, zv_Mod, zo_Mod, zn_Mod, by decide +kernel, by decide +kernel, by decide +kernel, rfl, rfl, (tm_4 _ (List.mem_of_getElem? (i := 48) rfl)), rfl⟩
theorem ff_Mod_40 (x : Nat) : Ff zc_Mod 40 6 12 (.ref x) := ⟨zc_Mod, zt_Mod, 26, zy_Mod, (.array .int), rfl, by decide, zv_Mod, zo_Mod, zn_Mod, by decide +kernel, by decide +kernel, by decide +kernel, rfl, rfl, (tm_4 _ (List.mem_of_getElem? (i := 49) rfl)), rfl⟩
theorem ff_Mod_43 (x : Nat) : Ff zc_Mod 43 6 17 (.ref x) := ⟨zc_Mod, zt_Mod, 26, zy_Mod, (.array .int), rfl, by decide, zv_Mod, zo_Mod, zn_Mod, by decide +kernel, by decide +kernel, by decide +kernel, rfl, rfl, (tm_4 _ (List.mem_of_getElem? (i := 54) rfl)), rfl⟩
theorem ff_Mod_46 (x : Nat) : Ff zc_Mod 46 6 21 (.ref x) := ⟨zc_Mod, zt_Mod, 26, zy_Mod, (.array .int), rfl, by decide, zv_Mod, zo_Mod, zn_Mod, by decide +kernel, by decide +kernel, by decide +kernel, rfl, rfl, (tm_4 _ (List.mem_of_getElem? (i := 58) rfl)), rfl⟩
theorem ff_Mod_49 (x : Nat) : Ff zc_Mod 49 6 22 (.ref x) := ⟨zc_Mod, zt_Mod, 26, zy_Mod, (.array .int), rfl, by decide, zv_Mod, zo_Mod, zn_Mod, by decide +kernel, by decide +kernel, by decide +kernel, rfl, rfl, (tm_4 _ (List.mem_of_getElem? (i := 59) rfl)), rfl⟩
theorem ff_Mod_52 (x : Nat) : Ff zc_Mod 52 6 23 (.ref x) := ⟨zc_Mod, zt_Mod, 26, zy_Mod, (.array .int), rfl, by decide, zv_Mod, zo_Mod, zn_Mod, by decide +kernel, by decide +kernel, by decide +kernel, rfl, rfl, (tm_4 _ (List.mem_of_getElem? (i := 60) rfl)), rfl⟩
theorem mi_Vol : Mi y_Vol_init b_Vol_init 3 0 := ⟨(tm_1 _ (List.mem_of_getElem? (i := 13) rfl)), (tm_1 _ (List.mem_of_getElem? (i := 1) rfl)), (tm_1 _ (List.mem_of_getElem? (i := 14) rfl)), ⟨by decide +kernel, by decide +kernel⟩, by decide +kernel, rfl⟩
theorem mi_Mod : Mi y_Mod_init b_Mod_init 2 0 := ⟨(tm_4 _ (List.mem_of_getElem? (i := 34) rfl)), (tm_1 _ (List.mem_of_getElem? (i := 8) rfl)), (tm_4 _ (List.mem_of_getElem? (i := 35) rfl)), ⟨by decide +kernel, by decide +kernel⟩, by decide +kernel, rfl⟩
theorem mi_Disk : Mi y_Disk_init b_Disk_init 2 0 := ⟨(tm_1 _ (List.mem_of_getElem? (i := 21) rfl)), (tm_1 _ (List.mem_of_getElem? (i := 2) rfl)), (tm_1 _ (List.mem_of_getElem? (i := 22) rfl)), ⟨by decide +kernel, by decide +kernel⟩, by decide +kernel, rfl⟩
theorem mi_Mind : Mi y_Mind_init b_Mind_init 3 2 := ⟨(tm_1 _ (List.mem_of_getElem? (i := 69) rfl)), (tm_1 _ (List.mem_of_getElem? (i := 4) rfl)), (tm_1 _ (List.mem_of_getElem? (i := 70) rfl)), ⟨by decide +kernel, by decide +kernel⟩, by decide +kernel, rfl⟩
theorem mi_Row : Mi y_Row_init b_Row_init 2 1 := ⟨(tm_1 _ (List.mem_of_getElem? (i := 91) rfl)), (tm_1 _ (List.mem_of_getElem? (i := 6) rfl)), (tm_1 _ (List.mem_of_getElem? (i := 92) rfl)), ⟨by decide +kernel, by decide +kernel⟩, by decide +kernel, rfl⟩
theorem mi_Runs : Mi y_Runs_init b_Runs_init 1 0 := ⟨(tm_1 _ (List.mem_of_getElem? (i := 27) rfl)), (tm_1 _ (List.mem_of_getElem? (i := 3) rfl)), (tm_1 _ (List.mem_of_getElem? (i := 28) rfl)), ⟨by decide +kernel, by decide +kernel⟩, by decide +kernel, rfl⟩
theorem mi_Text : Mi y_Text_init b_Text_init 1 0 := ⟨(tm_1 _ (List.mem_of_getElem? (i := 85) rfl)), (tm_1 _ (List.mem_of_getElem? (i := 5) rfl)), (tm_1 _ (List.mem_of_getElem? (i := 86) rfl)), ⟨by decide +kernel, by decide +kernel⟩, by decide +kernel, rfl⟩
theorem d_Runs_init_0 : decode b_Runs_init 0 = .ok (.aload_n 0, 1) := by decide +kernel
theorem d_Runs_init_1 : decode b_Runs_init 1 = .ok (.invokespecial 3, 3) := by decide +kernel
theorem d_Runs_init_4 : decode b_Runs_init 4 = .ok (.aload_n 0, 1) := by decide +kernel
theorem d_Runs_init_5 : decode b_Runs_init 5 = .ok (.bipush 32, 2) := by decide +kernel
theorem d_Runs_init_7 : decode b_Runs_init 7 = .ok (.newarray .int, 2) := by decide +kernel
theorem d_Runs_init_9 : decode b_Runs_init 9 = .ok (.putfield 9, 3) := by decide +kernel
theorem d_Runs_init_12 : decode b_Runs_init 12 = .ok (.aload_n 0, 1) := by decide +kernel
theorem d_Runs_init_13 : decode b_Runs_init 13 = .ok (.bipush 32, 2) := by decide +kernel
theorem d_Runs_init_15 : decode b_Runs_init 15 = .ok (.newarray .int, 2) := by decide +kernel
theorem d_Runs_init_17 : decode b_Runs_init 17 = .ok (.putfield 15, 3) := by decide +kernel
theorem d_Runs_init_20 : decode b_Runs_init 20 = .ok (.aload_n 0, 1) := by decide +kernel
theorem d_Runs_init_21 : decode b_Runs_init 21 = .ok (.iconst 0, 1) := by decide +kernel
theorem d_Runs_init_22 : decode b_Runs_init 22 = .ok (.putfield 18, 3) := by decide +kernel
theorem d_Runs_init_25 : decode b_Runs_init 25 = .ok (.return_, 1) := by decide +kernel
theorem d_Disk_init_0 : decode b_Disk_init 0 = .ok (.aload_n 0, 1) := by decide +kernel
theorem d_Disk_init_1 : decode b_Disk_init 1 = .ok (.invokespecial 3, 3) := by decide +kernel
theorem d_Disk_init_4 : decode b_Disk_init 4 = .ok (.aload_n 0, 1) := by decide +kernel
theorem d_Disk_init_5 : decode b_Disk_init 5 = .ok (.bipush 64, 2) := by decide +kernel
theorem d_Disk_init_7 : decode b_Disk_init 7 = .ok (.newarray .int, 2) := by decide +kernel
theorem d_Disk_init_9 : decode b_Disk_init 9 = .ok (.putfield 9, 3) := by decide +kernel
theorem d_Disk_init_12 : decode b_Disk_init 12 = .ok (.aload_n 0, 1) := by decide +kernel
theorem d_Disk_init_13 : decode b_Disk_init 13 = .ok (.bipush 64, 2) := by decide +kernel
theorem d_Disk_init_15 : decode b_Disk_init 15 = .ok (.newarray .int, 2) := by decide +kernel
theorem d_Disk_init_17 : decode b_Disk_init 17 = .ok (.putfield 15, 3) := by decide +kernel
theorem d_Disk_init_20 : decode b_Disk_init 20 = .ok (.aload_n 0, 1) := by decide +kernel
theorem d_Disk_init_21 : decode b_Disk_init 21 = .ok (.iconst 4, 1) := by decide +kernel
theorem d_Disk_init_22 : decode b_Disk_init 22 = .ok (.newarray .int, 2) := by decide +kernel
theorem d_Disk_init_24 : decode b_Disk_init 24 = .ok (.putfield 18, 3) := by decide +kernel
theorem d_Disk_init_27 : decode b_Disk_init 27 = .ok (.aload_n 0, 1) := by decide +kernel
theorem d_Disk_init_28 : decode b_Disk_init 28 = .ok (.bipush 96, 2) := by decide +kernel
theorem d_Disk_init_30 : decode b_Disk_init 30 = .ok (.newarray .int, 2) := by decide +kernel
theorem d_Disk_init_32 : decode b_Disk_init 32 = .ok (.putfield 21, 3) := by decide +kernel
theorem d_Disk_init_35 : decode b_Disk_init 35 = .ok (.aload_n 0, 1) := by decide +kernel
theorem d_Disk_init_36 : decode b_Disk_init 36 = .ok (.bipush 96, 2) := by decide +kernel
theorem d_Disk_init_38 : decode b_Disk_init 38 = .ok (.newarray .int, 2) := by decide +kernel
theorem d_Disk_init_40 : decode b_Disk_init 40 = .ok (.putfield 24, 3) := by decide +kernel
theorem d_Disk_init_43 : decode b_Disk_init 43 = .ok (.aload_n 0, 1) := by decide +kernel
theorem d_Disk_init_44 : decode b_Disk_init 44 = .ok (.bipush 96, 2) := by decide +kernel
theorem d_Disk_init_46 : decode b_Disk_init 46 = .ok (.newarray .boolean, 2) := by decide +kernel
theorem d_Disk_init_48 : decode b_Disk_init 48 = .ok (.putfield 27, 3) := by decide +kernel
theorem d_Disk_init_51 : decode b_Disk_init 51 = .ok (.aload_n 0, 1) := by decide +kernel
theorem d_Disk_init_52 : decode b_Disk_init 52 = .ok (.new 31, 3) := by decide +kernel
theorem d_Disk_init_55 : decode b_Disk_init 55 = .ok (.dup, 1) := by decide +kernel
theorem d_Disk_init_56 : decode b_Disk_init 56 = .ok (.invokespecial 33, 3) := by decide +kernel
theorem d_Disk_init_59 : decode b_Disk_init 59 = .ok (.putfield 34, 3) := by decide +kernel
theorem d_Disk_init_62 : decode b_Disk_init 62 = .ok (.iconst 0, 1) := by decide +kernel
theorem d_Disk_init_63 : decode b_Disk_init 63 = .ok (.istore_n 1, 1) := by decide +kernel
theorem d_Disk_init_64 : decode b_Disk_init 64 = .ok (.iload_n 1, 1) := by decide +kernel
theorem d_Disk_init_65 : decode b_Disk_init 65 = .ok (.aload_n 0, 1) := by decide +kernel
theorem d_Disk_init_66 : decode b_Disk_init 66 = .ok (.getfield 9, 3) := by decide +kernel
theorem d_Disk_init_69 : decode b_Disk_init 69 = .ok (.arraylength, 1) := by decide +kernel
theorem d_Disk_init_70 : decode b_Disk_init 70 = .ok (.if_icmp .ge 16, 3) := by decide +kernel
theorem d_Disk_init_73 : decode b_Disk_init 73 = .ok (.aload_n 0, 1) := by decide +kernel
theorem d_Disk_init_74 : decode b_Disk_init 74 = .ok (.getfield 9, 3) := by decide +kernel
theorem d_Disk_init_77 : decode b_Disk_init 77 = .ok (.iload_n 1, 1) := by decide +kernel
theorem d_Disk_init_78 : decode b_Disk_init 78 = .ok (.iconst (-1), 1) := by decide +kernel
theorem d_Disk_init_79 : decode b_Disk_init 79 = .ok (.iastore, 1) := by decide +kernel
theorem d_Disk_init_80 : decode b_Disk_init 80 = .ok (.iinc 1 1, 3) := by decide +kernel
theorem d_Disk_init_83 : decode b_Disk_init 83 = .ok (.goto (-19), 3) := by decide +kernel
theorem d_Disk_init_86 : decode b_Disk_init 86 = .ok (.iconst 0, 1) := by decide +kernel
theorem d_Disk_init_87 : decode b_Disk_init 87 = .ok (.istore_n 1, 1) := by decide +kernel
theorem d_Disk_init_88 : decode b_Disk_init 88 = .ok (.iload_n 1, 1) := by decide +kernel
theorem d_Disk_init_89 : decode b_Disk_init 89 = .ok (.aload_n 0, 1) := by decide +kernel
theorem d_Disk_init_90 : decode b_Disk_init 90 = .ok (.getfield 21, 3) := by decide +kernel
theorem d_Disk_init_93 : decode b_Disk_init 93 = .ok (.arraylength, 1) := by decide +kernel
theorem d_Disk_init_94 : decode b_Disk_init 94 = .ok (.if_icmp .ge 32, 3) := by decide +kernel
theorem d_Disk_init_97 : decode b_Disk_init 97 = .ok (.iload_n 1, 1) := by decide +kernel
theorem d_Disk_init_98 : decode b_Disk_init 98 = .ok (.aload_n 0, 1) := by decide +kernel
theorem d_Disk_init_99 : decode b_Disk_init 99 = .ok (.getfield 24, 3) := by decide +kernel
theorem d_Disk_init_102 : decode b_Disk_init 102 = .ok (.arraylength, 1) := by decide +kernel
theorem d_Disk_init_103 : decode b_Disk_init 103 = .ok (.if_icmp .ge 23, 3) := by decide +kernel
theorem d_Disk_init_106 : decode b_Disk_init 106 = .ok (.aload_n 0, 1) := by decide +kernel
theorem d_Disk_init_107 : decode b_Disk_init 107 = .ok (.getfield 21, 3) := by decide +kernel
theorem d_Disk_init_110 : decode b_Disk_init 110 = .ok (.iload_n 1, 1) := by decide +kernel
theorem d_Disk_init_111 : decode b_Disk_init 111 = .ok (.iconst (-1), 1) := by decide +kernel
theorem d_Disk_init_112 : decode b_Disk_init 112 = .ok (.iastore, 1) := by decide +kernel
theorem d_Disk_init_113 : decode b_Disk_init 113 = .ok (.aload_n 0, 1) := by decide +kernel
theorem d_Disk_init_114 : decode b_Disk_init 114 = .ok (.getfield 24, 3) := by decide +kernel
theorem d_Disk_init_117 : decode b_Disk_init 117 = .ok (.iload_n 1, 1) := by decide +kernel
theorem d_Disk_init_118 : decode b_Disk_init 118 = .ok (.iconst (-1), 1) := by decide +kernel
theorem d_Disk_init_119 : decode b_Disk_init 119 = .ok (.iastore, 1) := by decide +kernel
theorem d_Disk_init_120 : decode b_Disk_init 120 = .ok (.iinc 1 1, 3) := by decide +kernel
theorem d_Disk_init_123 : decode b_Disk_init 123 = .ok (.goto (-35), 3) := by decide +kernel
theorem d_Disk_init_126 : decode b_Disk_init 126 = .ok (.return_, 1) := by decide +kernel
theorem d_Row_init_0 : decode b_Row_init 0 = .ok (.aload_n 0, 1) := by decide +kernel
theorem d_Row_init_1 : decode b_Row_init 1 = .ok (.invokespecial 3, 3) := by decide +kernel
theorem d_Row_init_4 : decode b_Row_init 4 = .ok (.aload_n 0, 1) := by decide +kernel
theorem d_Row_init_5 : decode b_Row_init 5 = .ok (.iconst 0, 1) := by decide +kernel
theorem d_Row_init_6 : decode b_Row_init 6 = .ok (.iload_n 1, 1) := by decide +kernel
theorem d_Row_init_7 : decode b_Row_init 7 = .ok (.invokestatic 9, 3) := by decide +kernel
theorem d_Row_init_10 : decode b_Row_init 10 = .ok (.newarray .int, 2) := by decide +kernel
theorem d_Row_init_12 : decode b_Row_init 12 = .ok (.putfield 15, 3) := by decide +kernel
theorem d_Row_init_15 : decode b_Row_init 15 = .ok (.aload_n 0, 1) := by decide +kernel
theorem d_Row_init_16 : decode b_Row_init 16 = .ok (.iconst 0, 1) := by decide +kernel
theorem d_Row_init_17 : decode b_Row_init 17 = .ok (.putfield 21, 3) := by decide +kernel
theorem d_Row_init_20 : decode b_Row_init 20 = .ok (.return_, 1) := by decide +kernel
theorem d_Text_init_0 : decode b_Text_init 0 = .ok (.aload_n 0, 1) := by decide +kernel
theorem d_Text_init_1 : decode b_Text_init 1 = .ok (.invokespecial 3, 3) := by decide +kernel
theorem d_Text_init_4 : decode b_Text_init 4 = .ok (.aload_n 0, 1) := by decide +kernel
theorem d_Text_init_5 : decode b_Text_init 5 = .ok (.new 9, 3) := by decide +kernel
theorem d_Text_init_8 : decode b_Text_init 8 = .ok (.dup, 1) := by decide +kernel
theorem d_Text_init_9 : decode b_Text_init 9 = .ok (.bipush 96, 2) := by decide +kernel
theorem d_Text_init_11 : decode b_Text_init 11 = .ok (.invokespecial 11, 3) := by decide +kernel
theorem d_Text_init_14 : decode b_Text_init 14 = .ok (.putfield 14, 3) := by decide +kernel
theorem d_Text_init_17 : decode b_Text_init 17 = .ok (.return_, 1) := by decide +kernel
theorem d_Mind_init_0 : decode b_Mind_init 0 = .ok (.aload_n 0, 1) := by decide +kernel
theorem d_Mind_init_1 : decode b_Mind_init 1 = .ok (.invokespecial 3, 3) := by decide +kernel
theorem d_Mind_init_4 : decode b_Mind_init 4 = .ok (.aload_n 0, 1) := by decide +kernel
theorem d_Mind_init_5 : decode b_Mind_init 5 = .ok (.aload_n 1, 1) := by decide +kernel
theorem d_Mind_init_6 : decode b_Mind_init 6 = .ok (.putfield 9, 3) := by decide +kernel
theorem d_Mind_init_9 : decode b_Mind_init 9 = .ok (.aload_n 0, 1) := by decide +kernel
theorem d_Mind_init_10 : decode b_Mind_init 10 = .ok (.aload_n 2, 1) := by decide +kernel
theorem d_Mind_init_11 : decode b_Mind_init 11 = .ok (.putfield 15, 3) := by decide +kernel
theorem d_Mind_init_14 : decode b_Mind_init 14 = .ok (.aload_n 0, 1) := by decide +kernel
theorem d_Mind_init_15 : decode b_Mind_init 15 = .ok (.iconst 0, 1) := by decide +kernel
theorem d_Mind_init_16 : decode b_Mind_init 16 = .ok (.putfield 18, 3) := by decide +kernel
theorem d_Mind_init_19 : decode b_Mind_init 19 = .ok (.return_, 1) := by decide +kernel
theorem d_Vol_init_0 : decode b_Vol_init 0 = .ok (.aload_n 0, 1) := by decide +kernel
theorem d_Vol_init_1 : decode b_Vol_init 1 = .ok (.invokespecial 1, 3) := by decide +kernel
theorem d_Vol_init_4 : decode b_Vol_init 4 = .ok (.new 7, 3) := by decide +kernel
theorem d_Vol_init_7 : decode b_Vol_init 7 = .ok (.dup, 1) := by decide +kernel
theorem d_Vol_init_8 : decode b_Vol_init 8 = .ok (.invokespecial 9, 3) := by decide +kernel
theorem d_Vol_init_11 : decode b_Vol_init 11 = .ok (.astore_n 1, 1) := by decide +kernel
theorem d_Vol_init_12 : decode b_Vol_init 12 = .ok (.new 7, 3) := by decide +kernel
theorem d_Vol_init_15 : decode b_Vol_init 15 = .ok (.dup, 1) := by decide +kernel
theorem d_Vol_init_16 : decode b_Vol_init 16 = .ok (.invokespecial 9, 3) := by decide +kernel
theorem d_Vol_init_19 : decode b_Vol_init 19 = .ok (.astore_n 2, 1) := by decide +kernel
theorem d_Vol_init_20 : decode b_Vol_init 20 = .ok (.aload_n 0, 1) := by decide +kernel
theorem d_Vol_init_21 : decode b_Vol_init 21 = .ok (.aload_n 1, 1) := by decide +kernel
theorem d_Vol_init_22 : decode b_Vol_init 22 = .ok (.putfield 10, 3) := by decide +kernel
theorem d_Vol_init_25 : decode b_Vol_init 25 = .ok (.aload_n 0, 1) := by decide +kernel
theorem d_Vol_init_26 : decode b_Vol_init 26 = .ok (.aload_n 2, 1) := by decide +kernel
theorem d_Vol_init_27 : decode b_Vol_init 27 = .ok (.putfield 16, 3) := by decide +kernel
theorem d_Vol_init_30 : decode b_Vol_init 30 = .ok (.aload_n 0, 1) := by decide +kernel
theorem d_Vol_init_31 : decode b_Vol_init 31 = .ok (.new 7, 3) := by decide +kernel
theorem d_Vol_init_34 : decode b_Vol_init 34 = .ok (.dup, 1) := by decide +kernel
theorem d_Vol_init_35 : decode b_Vol_init 35 = .ok (.invokespecial 9, 3) := by decide +kernel
theorem d_Vol_init_38 : decode b_Vol_init 38 = .ok (.putfield 19, 3) := by decide +kernel
theorem d_Vol_init_41 : decode b_Vol_init 41 = .ok (.aload_n 0, 1) := by decide +kernel
theorem d_Vol_init_42 : decode b_Vol_init 42 = .ok (.new 22, 3) := by decide +kernel
theorem d_Vol_init_45 : decode b_Vol_init 45 = .ok (.dup, 1) := by decide +kernel
theorem d_Vol_init_46 : decode b_Vol_init 46 = .ok (.aload_n 1, 1) := by decide +kernel
theorem d_Vol_init_47 : decode b_Vol_init 47 = .ok (.aload_n 2, 1) := by decide +kernel
theorem d_Vol_init_48 : decode b_Vol_init 48 = .ok (.invokespecial 24, 3) := by decide +kernel
theorem d_Vol_init_51 : decode b_Vol_init 51 = .ok (.putfield 27, 3) := by decide +kernel
theorem d_Vol_init_54 : decode b_Vol_init 54 = .ok (.aload_n 0, 1) := by decide +kernel
theorem d_Vol_init_55 : decode b_Vol_init 55 = .ok (.new 31, 3) := by decide +kernel
theorem d_Vol_init_58 : decode b_Vol_init 58 = .ok (.dup, 1) := by decide +kernel
theorem d_Vol_init_59 : decode b_Vol_init 59 = .ok (.invokespecial 33, 3) := by decide +kernel
theorem d_Vol_init_62 : decode b_Vol_init 62 = .ok (.putfield 34, 3) := by decide +kernel
theorem d_Vol_init_65 : decode b_Vol_init 65 = .ok (.aload_n 0, 1) := by decide +kernel
theorem d_Vol_init_66 : decode b_Vol_init 66 = .ok (.new 38, 3) := by decide +kernel
theorem d_Vol_init_69 : decode b_Vol_init 69 = .ok (.dup, 1) := by decide +kernel
theorem d_Vol_init_70 : decode b_Vol_init 70 = .ok (.bipush 32, 2) := by decide +kernel
theorem d_Vol_init_72 : decode b_Vol_init 72 = .ok (.invokespecial 40, 3) := by decide +kernel
theorem d_Vol_init_75 : decode b_Vol_init 75 = .ok (.putfield 43, 3) := by decide +kernel
theorem d_Vol_init_78 : decode b_Vol_init 78 = .ok (.aload_n 0, 1) := by decide +kernel
theorem d_Vol_init_79 : decode b_Vol_init 79 = .ok (.bipush 7, 2) := by decide +kernel
theorem d_Vol_init_81 : decode b_Vol_init 81 = .ok (.newarray .int, 2) := by decide +kernel
theorem d_Vol_init_83 : decode b_Vol_init 83 = .ok (.putfield 47, 3) := by decide +kernel
theorem d_Vol_init_86 : decode b_Vol_init 86 = .ok (.aload_n 0, 1) := by decide +kernel
theorem d_Vol_init_87 : decode b_Vol_init 87 = .ok (.iconst 0, 1) := by decide +kernel
theorem d_Vol_init_88 : decode b_Vol_init 88 = .ok (.putfield 51, 3) := by decide +kernel
theorem d_Vol_init_91 : decode b_Vol_init 91 = .ok (.return_, 1) := by decide +kernel
theorem d_Mod_init_0 : decode b_Mod_init 0 = .ok (.aload_n 0, 1) := by decide +kernel
theorem d_Mod_init_1 : decode b_Mod_init 1 = .ok (.invokespecial 1, 3) := by decide +kernel
theorem d_Mod_init_4 : decode b_Mod_init 4 = .ok (.aload_n 0, 1) := by decide +kernel
theorem d_Mod_init_5 : decode b_Mod_init 5 = .ok (.bipush 7, 2) := by decide +kernel
theorem d_Mod_init_7 : decode b_Mod_init 7 = .ok (.newarray .int, 2) := by decide +kernel
theorem d_Mod_init_9 : decode b_Mod_init 9 = .ok (.putfield 7, 3) := by decide +kernel
theorem d_Mod_init_12 : decode b_Mod_init 12 = .ok (.aload_n 0, 1) := by decide +kernel
theorem d_Mod_init_13 : decode b_Mod_init 13 = .ok (.bipush 64, 2) := by decide +kernel
theorem d_Mod_init_15 : decode b_Mod_init 15 = .ok (.newarray .int, 2) := by decide +kernel
theorem d_Mod_init_17 : decode b_Mod_init 17 = .ok (.putfield 13, 3) := by decide +kernel
theorem d_Mod_init_20 : decode b_Mod_init 20 = .ok (.aload_n 0, 1) := by decide +kernel
theorem d_Mod_init_21 : decode b_Mod_init 21 = .ok (.bipush 64, 2) := by decide +kernel
theorem d_Mod_init_23 : decode b_Mod_init 23 = .ok (.newarray .int, 2) := by decide +kernel
theorem d_Mod_init_25 : decode b_Mod_init 25 = .ok (.putfield 16, 3) := by decide +kernel
theorem d_Mod_init_28 : decode b_Mod_init 28 = .ok (.aload_n 0, 1) := by decide +kernel
theorem d_Mod_init_29 : decode b_Mod_init 29 = .ok (.bipush 96, 2) := by decide +kernel
theorem d_Mod_init_31 : decode b_Mod_init 31 = .ok (.newarray .int, 2) := by decide +kernel
theorem d_Mod_init_33 : decode b_Mod_init 33 = .ok (.putfield 19, 3) := by decide +kernel
theorem d_Mod_init_36 : decode b_Mod_init 36 = .ok (.aload_n 0, 1) := by decide +kernel
theorem d_Mod_init_37 : decode b_Mod_init 37 = .ok (.bipush 96, 2) := by decide +kernel
theorem d_Mod_init_39 : decode b_Mod_init 39 = .ok (.newarray .int, 2) := by decide +kernel
theorem d_Mod_init_41 : decode b_Mod_init 41 = .ok (.putfield 22, 3) := by decide +kernel
theorem d_Mod_init_44 : decode b_Mod_init 44 = .ok (.aload_n 0, 1) := by decide +kernel
theorem d_Mod_init_45 : decode b_Mod_init 45 = .ok (.bipush 96, 2) := by decide +kernel
theorem d_Mod_init_47 : decode b_Mod_init 47 = .ok (.newarray .int, 2) := by decide +kernel
theorem d_Mod_init_49 : decode b_Mod_init 49 = .ok (.putfield 25, 3) := by decide +kernel
theorem d_Mod_init_52 : decode b_Mod_init 52 = .ok (.aload_n 0, 1) := by decide +kernel
theorem d_Mod_init_53 : decode b_Mod_init 53 = .ok (.iconst 4, 1) := by decide +kernel
theorem d_Mod_init_54 : decode b_Mod_init 54 = .ok (.newarray .int, 2) := by decide +kernel
theorem d_Mod_init_56 : decode b_Mod_init 56 = .ok (.putfield 28, 3) := by decide +kernel
theorem d_Mod_init_59 : decode b_Mod_init 59 = .ok (.aload_n 0, 1) := by decide +kernel
theorem d_Mod_init_60 : decode b_Mod_init 60 = .ok (.bipush 96, 2) := by decide +kernel
theorem d_Mod_init_62 : decode b_Mod_init 62 = .ok (.newarray .int, 2) := by decide +kernel
theorem d_Mod_init_64 : decode b_Mod_init 64 = .ok (.putfield 31, 3) := by decide +kernel
theorem d_Mod_init_67 : decode b_Mod_init 67 = .ok (.aload_n 0, 1) := by decide +kernel
theorem d_Mod_init_68 : decode b_Mod_init 68 = .ok (.bipush 33, 2) := by decide +kernel
theorem d_Mod_init_70 : decode b_Mod_init 70 = .ok (.newarray .int, 2) := by decide +kernel
theorem d_Mod_init_72 : decode b_Mod_init 72 = .ok (.putfield 34, 3) := by decide +kernel
theorem d_Mod_init_75 : decode b_Mod_init 75 = .ok (.aload_n 0, 1) := by decide +kernel
theorem d_Mod_init_76 : decode b_Mod_init 76 = .ok (.bipush 33, 2) := by decide +kernel
theorem d_Mod_init_78 : decode b_Mod_init 78 = .ok (.newarray .int, 2) := by decide +kernel
theorem d_Mod_init_80 : decode b_Mod_init 80 = .ok (.putfield 37, 3) := by decide +kernel
theorem d_Mod_init_83 : decode b_Mod_init 83 = .ok (.aload_n 0, 1) := by decide +kernel
theorem d_Mod_init_84 : decode b_Mod_init 84 = .ok (.bipush 99, 2) := by decide +kernel
theorem d_Mod_init_86 : decode b_Mod_init 86 = .ok (.newarray .int, 2) := by decide +kernel
theorem d_Mod_init_88 : decode b_Mod_init 88 = .ok (.putfield 40, 3) := by decide +kernel
theorem d_Mod_init_91 : decode b_Mod_init 91 = .ok (.aload_n 0, 1) := by decide +kernel
theorem d_Mod_init_92 : decode b_Mod_init 92 = .ok (.sipush 1260, 3) := by decide +kernel
theorem d_Mod_init_95 : decode b_Mod_init 95 = .ok (.newarray .int, 2) := by decide +kernel
theorem d_Mod_init_97 : decode b_Mod_init 97 = .ok (.putfield 43, 3) := by decide +kernel
theorem d_Mod_init_100 : decode b_Mod_init 100 = .ok (.aload_n 0, 1) := by decide +kernel
theorem d_Mod_init_101 : decode b_Mod_init 101 = .ok (.bipush 96, 2) := by decide +kernel
theorem d_Mod_init_103 : decode b_Mod_init 103 = .ok (.newarray .int, 2) := by decide +kernel
theorem d_Mod_init_105 : decode b_Mod_init 105 = .ok (.putfield 46, 3) := by decide +kernel
theorem d_Mod_init_108 : decode b_Mod_init 108 = .ok (.aload_n 0, 1) := by decide +kernel
theorem d_Mod_init_109 : decode b_Mod_init 109 = .ok (.bipush 8, 2) := by decide +kernel
theorem d_Mod_init_111 : decode b_Mod_init 111 = .ok (.newarray .int, 2) := by decide +kernel
theorem d_Mod_init_113 : decode b_Mod_init 113 = .ok (.putfield 49, 3) := by decide +kernel
theorem d_Mod_init_116 : decode b_Mod_init 116 = .ok (.aload_n 0, 1) := by decide +kernel
theorem d_Mod_init_117 : decode b_Mod_init 117 = .ok (.bipush 32, 2) := by decide +kernel
theorem d_Mod_init_119 : decode b_Mod_init 119 = .ok (.newarray .int, 2) := by decide +kernel
theorem d_Mod_init_121 : decode b_Mod_init 121 = .ok (.putfield 52, 3) := by decide +kernel
theorem d_Mod_init_124 : decode b_Mod_init 124 = .ok (.iconst 0, 1) := by decide +kernel
theorem d_Mod_init_125 : decode b_Mod_init 125 = .ok (.istore_n 1, 1) := by decide +kernel
theorem d_Mod_init_126 : decode b_Mod_init 126 = .ok (.iload_n 1, 1) := by decide +kernel
theorem d_Mod_init_127 : decode b_Mod_init 127 = .ok (.bipush 64, 2) := by decide +kernel
theorem d_Mod_init_129 : decode b_Mod_init 129 = .ok (.if_icmp .ge 17, 3) := by decide +kernel
theorem d_Mod_init_132 : decode b_Mod_init 132 = .ok (.aload_n 0, 1) := by decide +kernel
theorem d_Mod_init_133 : decode b_Mod_init 133 = .ok (.getfield 16, 3) := by decide +kernel
theorem d_Mod_init_136 : decode b_Mod_init 136 = .ok (.iload_n 1, 1) := by decide +kernel
theorem d_Mod_init_137 : decode b_Mod_init 137 = .ok (.bipush (-9), 2) := by decide +kernel
theorem d_Mod_init_139 : decode b_Mod_init 139 = .ok (.iastore, 1) := by decide +kernel
theorem d_Mod_init_140 : decode b_Mod_init 140 = .ok (.iinc 1 1, 3) := by decide +kernel
theorem d_Mod_init_143 : decode b_Mod_init 143 = .ok (.goto (-17), 3) := by decide +kernel
theorem d_Mod_init_146 : decode b_Mod_init 146 = .ok (.iconst 0, 1) := by decide +kernel
theorem d_Mod_init_147 : decode b_Mod_init 147 = .ok (.istore_n 1, 1) := by decide +kernel
theorem d_Mod_init_148 : decode b_Mod_init 148 = .ok (.iload_n 1, 1) := by decide +kernel
theorem d_Mod_init_149 : decode b_Mod_init 149 = .ok (.bipush 96, 2) := by decide +kernel
theorem d_Mod_init_151 : decode b_Mod_init 151 = .ok (.if_icmp .ge 25, 3) := by decide +kernel
theorem d_Mod_init_154 : decode b_Mod_init 154 = .ok (.aload_n 0, 1) := by decide +kernel
theorem d_Mod_init_155 : decode b_Mod_init 155 = .ok (.getfield 19, 3) := by decide +kernel
theorem d_Mod_init_158 : decode b_Mod_init 158 = .ok (.iload_n 1, 1) := by decide +kernel
theorem d_Mod_init_159 : decode b_Mod_init 159 = .ok (.bipush (-9), 2) := by decide +kernel
theorem d_Mod_init_161 : decode b_Mod_init 161 = .ok (.iastore, 1) := by decide +kernel
theorem d_Mod_init_162 : decode b_Mod_init 162 = .ok (.aload_n 0, 1) := by decide +kernel
theorem d_Mod_init_163 : decode b_Mod_init 163 = .ok (.getfield 25, 3) := by decide +kernel
theorem d_Mod_init_166 : decode b_Mod_init 166 = .ok (.iload_n 1, 1) := by decide +kernel
theorem d_Mod_init_167 : decode b_Mod_init 167 = .ok (.bipush (-9), 2) := by decide +kernel
theorem d_Mod_init_169 : decode b_Mod_init 169 = .ok (.iastore, 1) := by decide +kernel
theorem d_Mod_init_170 : decode b_Mod_init 170 = .ok (.iinc 1 1, 3) := by decide +kernel
theorem d_Mod_init_173 : decode b_Mod_init 173 = .ok (.goto (-25), 3) := by decide +kernel
theorem d_Mod_init_176 : decode b_Mod_init 176 = .ok (.return_, 1) := by decide +kernel
def post_Runs (cI cB : ClassId) (e1 : va_E) (ns : va_W) : Prop := ∃ a1 a2 : Nat, e1 = .inr (3, [.ref a1, .ref a2, .int (zi 0)]) ∧ ns = [(a1, zA cI 32 (fun _ => 0)), (a2, zA cI 32 (fun _ => 0))]
set_option maxHeartbeats 4000000 in
set_option maxRecDepth 100000 in
theorem c_Runs_init (l : Launch) (D : va_G) (cI cB : ClassId) (b : Nat) : Ci l D cI cB y_Runs_init b_Runs_init 1 1 12 2 64 [] b (.inr (3, [.null, .null, .int (zi 0)])) (post_Runs cI cB) := by
  refine Ci.start (by decide) rfl (Nat.le_of_ble_eq_true rfl) (fun G X hI hR => ?_)
  refine x_ls (ls2 := [(0, .ref b)]) [0] rfl ?_
  refine x_aload_n (pc := 0) X d_Runs_init_0 0 rfl rfl ?_
  refine x_objInit (pc := 1) X d_Runs_init_1 (tm_1 _ (List.mem_of_getElem? (i := 29) rfl)) ⟨(Nat.le_of_ble_eq_true rfl), (Nat.le_of_ble_eq_true rfl)⟩ ?_
  refine x_aload_n (pc := 4) X d_Runs_init_4 0 rfl rfl ?_
  refine x_bipush (pc := 5) (v := 32) X d_Runs_init_5 rfl ?_
  refine x_newa (pc := 7) (N := 32) X d_Runs_init_7 rfl (Nat.le_of_ble_eq_true rfl) ⟨(Nat.le_of_ble_eq_true rfl), (Nat.le_of_ble_eq_true rfl)⟩ (fun a1 => ?_)
  refine x_w (w2 := [(b, .inr (3, [.null, .null, .int (zi 0)])), (a1, zA cI 32 (fun _ => 0))]) rfl ?_
  refine x_putF (pc := 9) (w2 := [(b, .inr (3, [.ref a1, .null, .int (zi 0)])), (a1, zA cI 32 (fun _ => 0))]) X hI d_Runs_init_9 0 rfl (ff_Runs_9 _) (Nat.le_of_ble_eq_true rfl) rfl ?_
  refine x_aload_n (pc := 12) X d_Runs_init_12 0 rfl rfl ?_
  refine x_bipush (pc := 13) (v := 32) X d_Runs_init_13 rfl ?_
  refine x_newa (pc := 15) (N := 32) X d_Runs_init_15 rfl (Nat.le_of_ble_eq_true rfl) ⟨(Nat.le_of_ble_eq_true rfl), (Nat.le_of_ble_eq_true rfl)⟩ (fun a2 => ?_)
  refine x_w (w2 := [(b, .inr (3, [.ref a1, .null, .int (zi 0)])), (a1, zA cI 32 (fun _ => 0)), (a2, zA cI 32 (fun _ => 0))]) rfl ?_
  refine x_putF (pc := 17) (w2 := [(b, .inr (3, [.ref a1, .ref a2, .int (zi 0)])), (a1, zA cI 32 (fun _ => 0)), (a2, zA cI 32 (fun _ => 0))]) X hI d_Runs_init_17 0 rfl (ff_Runs_15 _) (Nat.le_of_ble_eq_true rfl) rfl ?_
  refine x_aload_n (pc := 20) X d_Runs_init_20 0 rfl rfl ?_
  refine x_iconst (pc := 21) X d_Runs_init_21 ?_
  refine x_put (pc := 22) (w2 := [(b, .inr (3, [.ref a1, .ref a2, .int (zi 0)])), (a1, zA cI 32 (fun _ => 0)), (a2, zA cI 32 (fun _ => 0))]) X d_Runs_init_22 0 rfl (fp_Runs_18 _) (Nat.le_of_ble_eq_true rfl) rfl ?_
  exact x_iniret (pc := 25) X hR d_Runs_init_25 ⟨_, _, rfl, rfl⟩
def m_Disk_init_64 : Nat → Int → (Int → Int) → Option (Int → Int)
  | 0, _, _ => none
  | fuel + 1, v1, f1 =>
  clt v1 64 (gd (zx v1 64) (m_Disk_init_64 fuel (v1 + 1) (uf f1 v1 (-1)))) (some (f1))
def m_Disk_init_88 : Nat → Int → (Int → Int) → (Int → Int) → Option ((Int → Int) × (Int → Int))
  | 0, _, _, _ => none
  | fuel + 1, v1, f1, f2 =>
  clt v1 96 (clt v1 96 (gd (zx v1 96) (gd (zx v1 96) (m_Disk_init_88 fuel (v1 + 1) (uf f1 v1 (-1)) (uf f2 v1 (-1))))) (some (f1, f2))) (some (f1, f2))
def m_Disk_init : Option ((Int → Int) × (Int → Int) × (Int → Int)) := bnd (m_Disk_init_64 5000 0 (fun _ => 0)) (fun o64 => bnd (m_Disk_init_88 5000 0 (fun _ => 0) (fun _ => 0)) (fun o88 => some (o64, o88.1, o88.2)))
def post_Disk (cI cB : ClassId) (o : (Int → Int) × (Int → Int) × (Int → Int)) (e1 : va_E) (ns : va_W) : Prop := ∃ a1 a2 a3 a4 a5 a6 a7 a1_56 a2_56 : Nat, e1 = .inr (0, [.ref a1, .ref a2, .ref a3, .ref a4, .ref a5, .ref a6, .ref a7]) ∧ ns = [(a1, zA cI 64 o.1), (a2, zA cI 64 (fun _ => 0)), (a3, zA cI 4 (fun _ => 0)), (a4, zA cI 96 o.2.1), (a5, zA cI 96 o.2.2), (a6, zA cB 96 (fun _ => 0)), (a7, .inr (3, [.ref a1_56, .ref a2_56, .int (zi 0)])), (a1_56, zA cI 32 (fun _ => 0)), (a2_56, zA cI 32 (fun _ => 0))]
set_option maxHeartbeats 4000000 in
set_option maxRecDepth 100000 in
theorem l_Disk_init_64 {G : GT} {l : Launch} {D : va_G} {cI cB : ClassId} {rm : Room} {k n : Nat} {b a1 a2 a3 a4 a5 a6 a7 a1_56 a2_56 : Nat} (X : Cx G l D cI cB b_Disk_init zc_Disk 2 rm) : ∀ (fuel : Nat) (v1 : Int) (f1 : Int → Int) (o : Int → Int), m_Disk_init_64 fuel v1 f1 = some o → (∀ v : Int, Wx G k n 86 [(1, .int (zi v)), (0, .ref b)] [] [(b, .inr (0, [.ref a1, .ref a2, .ref a3, .ref a4, .ref a5, .ref a6, .ref a7])), (a1, zA cI 64 o), (a2, zA cI 64 (fun _ => 0)), (a3, zA cI 4 (fun _ => 0)), (a4, zA cI 96 (fun _ => 0)), (a5, zA cI 96 (fun _ => 0)), (a6, zA cB 96 (fun _ => 0)), (a7, .inr (3, [.ref a1_56, .ref a2_56, .int (zi 0)])), (a1_56, zA cI 32 (fun _ => 0)), (a2_56, zA cI 32 (fun _ => 0))]) → Wx G k n 64 [(1, .int (zi v1)), (0, .ref b)] [] [(b, .inr (0, [.ref a1, .ref a2, .ref a3, .ref a4, .ref a5, .ref a6, .ref a7])), (a1, zA cI 64 f1), (a2, zA cI 64 (fun _ => 0)), (a3, zA cI 4 (fun _ => 0)), (a4, zA cI 96 (fun _ => 0)), (a5, zA cI 96 (fun _ => 0)), (a6, zA cB 96 (fun _ => 0)), (a7, .inr (3, [.ref a1_56, .ref a2_56, .int (zi 0)])), (a1_56, zA cI 32 (fun _ => 0)), (a2_56, zA cI 32 (fun _ => 0))] := by
  intro fuel
  induction fuel with
  | zero =>
    intro v1 f1 o h
    exact absurd h (by simp [m_Disk_init_64])
  | succ fuel ih =>
    intro v1 f1 o h hk
    rw [m_Disk_init_64] at h
    refine x_iload_n (pc := 64) X d_Disk_init_64 0 rfl rfl ?_
    refine x_aload_n (pc := 65) X d_Disk_init_65 1 rfl rfl ?_
    refine x_get (pc := 66) X d_Disk_init_66 0 rfl fl_Disk_9 rfl ?_
    refine x_alen (pc := 69) (M := 64) X d_Disk_init_69 1 rfl rfl ?_
    refine x_icmpge (pc := 70) (tgt := 86) X d_Disk_init_70 rfl h (fun h => ?_) (fun h => ?_)
    · skip
      cases h
      exact hk _
    · skip
      refine x_aload_n (pc := 73) X d_Disk_init_73 1 rfl rfl ?_
      refine x_get (pc := 74) X d_Disk_init_74 0 rfl fl_Disk_9 rfl ?_
      refine x_iload_n (pc := 77) X d_Disk_init_77 0 rfl rfl ?_
      refine x_iconst (pc := 78) X d_Disk_init_78 ?_
      refine x_iast (pc := 79) (w2 := [(b, .inr (0, [.ref a1, .ref a2, .ref a3, .ref a4, .ref a5, .ref a6, .ref a7])), (a1, zA cI 64 (uf f1 v1 (-1))), (a2, zA cI 64 (fun _ => 0)), (a3, zA cI 4 (fun _ => 0)), (a4, zA cI 96 (fun _ => 0)), (a5, zA cI 96 (fun _ => 0)), (a6, zA cB 96 (fun _ => 0)), (a7, .inr (3, [.ref a1_56, .ref a2_56, .int (zi 0)])), (a1_56, zA cI 32 (fun _ => 0)), (a2_56, zA cI 32 (fun _ => 0))]) X d_Disk_init_79 1 rfl (Nat.le_of_ble_eq_true rfl) rfl rfl h (fun h => ?_)
      refine x_iinc (pc := 80) (ls2 := [(1, .int (zi (v1 + 1))), (0, .ref b)]) X d_Disk_init_80 0 (Nat.le_of_ble_eq_true rfl) rfl rfl ?_
      refine x_goto (pc := 83) (tgt := 64) X d_Disk_init_83 rfl ?_
      exact ih (v1 + 1) (uf f1 v1 (-1)) o h hk
set_option maxHeartbeats 4000000 in
set_option maxRecDepth 100000 in
theorem l_Disk_init_88 {G : GT} {l : Launch} {D : va_G} {cI cB : ClassId} {rm : Room} {k n : Nat} {b a1 a2 a3 a4 a5 a6 a7 a1_56 a2_56 : Nat} {o64 : Int → Int} (X : Cx G l D cI cB b_Disk_init zc_Disk 2 rm) : ∀ (fuel : Nat) (v1 : Int) (f1 f2 : Int → Int) (o : (Int → Int) × (Int → Int)), m_Disk_init_88 fuel v1 f1 f2 = some o → (∀ v : Int, Wx G k n 126 [(1, .int (zi v)), (0, .ref b)] [] [(b, .inr (0, [.ref a1, .ref a2, .ref a3, .ref a4, .ref a5, .ref a6, .ref a7])), (a1, zA cI 64 o64), (a2, zA cI 64 (fun _ => 0)), (a3, zA cI 4 (fun _ => 0)), (a4, zA cI 96 o.1), (a5, zA cI 96 o.2), (a6, zA cB 96 (fun _ => 0)), (a7, .inr (3, [.ref a1_56, .ref a2_56, .int (zi 0)])), (a1_56, zA cI 32 (fun _ => 0)), (a2_56, zA cI 32 (fun _ => 0))]) → Wx G k n 88 [(1, .int (zi v1)), (0, .ref b)] [] [(b, .inr (0, [.ref a1, .ref a2, .ref a3, .ref a4, .ref a5, .ref a6, .ref a7])), (a1, zA cI 64 o64), (a2, zA cI 64 (fun _ => 0)), (a3, zA cI 4 (fun _ => 0)), (a4, zA cI 96 f1), (a5, zA cI 96 f2), (a6, zA cB 96 (fun _ => 0)), (a7, .inr (3, [.ref a1_56, .ref a2_56, .int (zi 0)])), (a1_56, zA cI 32 (fun _ => 0)), (a2_56, zA cI 32 (fun _ => 0))] := by
  intro fuel
  induction fuel with
  | zero =>
    intro v1 f1 f2 o h
    exact absurd h (by simp [m_Disk_init_88])
  | succ fuel ih =>
    intro v1 f1 f2 o h hk
    rw [m_Disk_init_88] at h
    refine x_iload_n (pc := 88) X d_Disk_init_88 0 rfl rfl ?_
    refine x_aload_n (pc := 89) X d_Disk_init_89 1 rfl rfl ?_
    refine x_get (pc := 90) X d_Disk_init_90 0 rfl fl_Disk_21 rfl ?_
    refine x_alen (pc := 93) (M := 96) X d_Disk_init_93 4 rfl rfl ?_
    refine x_icmpge (pc := 94) (tgt := 126) X d_Disk_init_94 rfl h (fun h => ?_) (fun h => ?_)
    · skip
      cases h
      exact hk _
    · skip
      refine x_iload_n (pc := 97) X d_Disk_init_97 0 rfl rfl ?_
      refine x_aload_n (pc := 98) X d_Disk_init_98 1 rfl rfl ?_
      refine x_get (pc := 99) X d_Disk_init_99 0 rfl fl_Disk_24 rfl ?_
      refine x_alen (pc := 102) (M := 96) X d_Disk_init_102 5 rfl rfl ?_
      refine x_icmpge (pc := 103) (tgt := 126) X d_Disk_init_103 rfl h (fun h => ?_) (fun h => ?_)
      · skip
        cases h
        exact hk _
      · skip
        refine x_aload_n (pc := 106) X d_Disk_init_106 1 rfl rfl ?_
        refine x_get (pc := 107) X d_Disk_init_107 0 rfl fl_Disk_21 rfl ?_
        refine x_iload_n (pc := 110) X d_Disk_init_110 0 rfl rfl ?_
        refine x_iconst (pc := 111) X d_Disk_init_111 ?_
        refine x_iast (pc := 112) (w2 := [(b, .inr (0, [.ref a1, .ref a2, .ref a3, .ref a4, .ref a5, .ref a6, .ref a7])), (a1, zA cI 64 o64), (a2, zA cI 64 (fun _ => 0)), (a3, zA cI 4 (fun _ => 0)), (a4, zA cI 96 (uf f1 v1 (-1))), (a5, zA cI 96 f2), (a6, zA cB 96 (fun _ => 0)), (a7, .inr (3, [.ref a1_56, .ref a2_56, .int (zi 0)])), (a1_56, zA cI 32 (fun _ => 0)), (a2_56, zA cI 32 (fun _ => 0))]) X d_Disk_init_112 4 rfl (Nat.le_of_ble_eq_true rfl) rfl rfl h (fun h => ?_)
        refine x_aload_n (pc := 113) X d_Disk_init_113 1 rfl rfl ?_
        refine x_get (pc := 114) X d_Disk_init_114 0 rfl fl_Disk_24 rfl ?_
        refine x_iload_n (pc := 117) X d_Disk_init_117 0 rfl rfl ?_
        refine x_iconst (pc := 118) X d_Disk_init_118 ?_
        refine x_iast (pc := 119) (w2 := [(b, .inr (0, [.ref a1, .ref a2, .ref a3, .ref a4, .ref a5, .ref a6, .ref a7])), (a1, zA cI 64 o64), (a2, zA cI 64 (fun _ => 0)), (a3, zA cI 4 (fun _ => 0)), (a4, zA cI 96 (uf f1 v1 (-1))), (a5, zA cI 96 (uf f2 v1 (-1))), (a6, zA cB 96 (fun _ => 0)), (a7, .inr (3, [.ref a1_56, .ref a2_56, .int (zi 0)])), (a1_56, zA cI 32 (fun _ => 0)), (a2_56, zA cI 32 (fun _ => 0))]) X d_Disk_init_119 5 rfl (Nat.le_of_ble_eq_true rfl) rfl rfl h (fun h => ?_)
        refine x_iinc (pc := 120) (ls2 := [(1, .int (zi (v1 + 1))), (0, .ref b)]) X d_Disk_init_120 0 (Nat.le_of_ble_eq_true rfl) rfl rfl ?_
        refine x_goto (pc := 123) (tgt := 88) X d_Disk_init_123 rfl ?_
        exact ih (v1 + 1) (uf f1 v1 (-1)) (uf f2 v1 (-1)) o h hk
set_option maxHeartbeats 4000000 in
set_option maxRecDepth 100000 in
theorem c_Disk_init (l : Launch) (D : va_G) (cI cB : ClassId) (b : Nat) {o : (Int → Int) × (Int → Int) × (Int → Int)} (h : m_Disk_init = some o) : Ci l D cI cB y_Disk_init b_Disk_init 2 2 32 9 487 [] b (.inr (0, [.null, .null, .null, .null, .null, .null, .null])) (post_Disk cI cB o) := by
  unfold m_Disk_init at h
  obtain ⟨o64, h64, h⟩ := bnd_e h
  obtain ⟨o88, h88, h⟩ := bnd_e h
  cases h
  refine Ci.start (by decide) rfl (Nat.le_of_ble_eq_true rfl) (fun G X hI hR => ?_)
  refine x_ls (ls2 := [(0, .ref b)]) [0] rfl ?_
  refine x_aload_n (pc := 0) X d_Disk_init_0 0 rfl rfl ?_
  refine x_objInit (pc := 1) X d_Disk_init_1 (tm_1 _ (List.mem_of_getElem? (i := 23) rfl)) ⟨(Nat.le_of_ble_eq_true rfl), (Nat.le_of_ble_eq_true rfl)⟩ ?_
  refine x_aload_n (pc := 4) X d_Disk_init_4 0 rfl rfl ?_
  refine x_bipush (pc := 5) (v := 64) X d_Disk_init_5 rfl ?_
  refine x_newa (pc := 7) (N := 64) X d_Disk_init_7 rfl (Nat.le_of_ble_eq_true rfl) ⟨(Nat.le_of_ble_eq_true rfl), (Nat.le_of_ble_eq_true rfl)⟩ (fun a1 => ?_)
  refine x_w (w2 := [(b, .inr (0, [.null, .null, .null, .null, .null, .null, .null])), (a1, zA cI 64 (fun _ => 0))]) rfl ?_
  refine x_putF (pc := 9) (w2 := [(b, .inr (0, [.ref a1, .null, .null, .null, .null, .null, .null])), (a1, zA cI 64 (fun _ => 0))]) X hI d_Disk_init_9 0 rfl (ff_Disk_9 _) (Nat.le_of_ble_eq_true rfl) rfl ?_
  refine x_aload_n (pc := 12) X d_Disk_init_12 0 rfl rfl ?_
  refine x_bipush (pc := 13) (v := 64) X d_Disk_init_13 rfl ?_
  refine x_newa (pc := 15) (N := 64) X d_Disk_init_15 rfl (Nat.le_of_ble_eq_true rfl) ⟨(Nat.le_of_ble_eq_true rfl), (Nat.le_of_ble_eq_true rfl)⟩ (fun a2 => ?_)
  refine x_w (w2 := [(b, .inr (0, [.ref a1, .null, .null, .null, .null, .null, .null])), (a1, zA cI 64 (fun _ => 0)), (a2, zA cI 64 (fun _ => 0))]) rfl ?_
  refine x_putF (pc := 17) (w2 := [(b, .inr (0, [.ref a1, .ref a2, .null, .null, .null, .null, .null])), (a1, zA cI 64 (fun _ => 0)), (a2, zA cI 64 (fun _ => 0))]) X hI d_Disk_init_17 0 rfl (ff_Disk_15 _) (Nat.le_of_ble_eq_true rfl) rfl ?_
  refine x_aload_n (pc := 20) X d_Disk_init_20 0 rfl rfl ?_
  refine x_iconst (pc := 21) X d_Disk_init_21 ?_
  refine x_newa (pc := 22) (N := 4) X d_Disk_init_22 rfl (Nat.le_of_ble_eq_true rfl) ⟨(Nat.le_of_ble_eq_true rfl), (Nat.le_of_ble_eq_true rfl)⟩ (fun a3 => ?_)
  refine x_w (w2 := [(b, .inr (0, [.ref a1, .ref a2, .null, .null, .null, .null, .null])), (a1, zA cI 64 (fun _ => 0)), (a2, zA cI 64 (fun _ => 0)), (a3, zA cI 4 (fun _ => 0))]) rfl ?_
  refine x_putF (pc := 24) (w2 := [(b, .inr (0, [.ref a1, .ref a2, .ref a3, .null, .null, .null, .null])), (a1, zA cI 64 (fun _ => 0)), (a2, zA cI 64 (fun _ => 0)), (a3, zA cI 4 (fun _ => 0))]) X hI d_Disk_init_24 0 rfl (ff_Disk_18 _) (Nat.le_of_ble_eq_true rfl) rfl ?_
  refine x_aload_n (pc := 27) X d_Disk_init_27 0 rfl rfl ?_
  refine x_bipush (pc := 28) (v := 96) X d_Disk_init_28 rfl ?_
  refine x_newa (pc := 30) (N := 96) X d_Disk_init_30 rfl (Nat.le_of_ble_eq_true rfl) ⟨(Nat.le_of_ble_eq_true rfl), (Nat.le_of_ble_eq_true rfl)⟩ (fun a4 => ?_)
  refine x_w (w2 := [(b, .inr (0, [.ref a1, .ref a2, .ref a3, .null, .null, .null, .null])), (a1, zA cI 64 (fun _ => 0)), (a2, zA cI 64 (fun _ => 0)), (a3, zA cI 4 (fun _ => 0)), (a4, zA cI 96 (fun _ => 0))]) rfl ?_
  refine x_putF (pc := 32) (w2 := [(b, .inr (0, [.ref a1, .ref a2, .ref a3, .ref a4, .null, .null, .null])), (a1, zA cI 64 (fun _ => 0)), (a2, zA cI 64 (fun _ => 0)), (a3, zA cI 4 (fun _ => 0)), (a4, zA cI 96 (fun _ => 0))]) X hI d_Disk_init_32 0 rfl (ff_Disk_21 _) (Nat.le_of_ble_eq_true rfl) rfl ?_
  refine x_aload_n (pc := 35) X d_Disk_init_35 0 rfl rfl ?_
  refine x_bipush (pc := 36) (v := 96) X d_Disk_init_36 rfl ?_
  refine x_newa (pc := 38) (N := 96) X d_Disk_init_38 rfl (Nat.le_of_ble_eq_true rfl) ⟨(Nat.le_of_ble_eq_true rfl), (Nat.le_of_ble_eq_true rfl)⟩ (fun a5 => ?_)
  refine x_w (w2 := [(b, .inr (0, [.ref a1, .ref a2, .ref a3, .ref a4, .null, .null, .null])), (a1, zA cI 64 (fun _ => 0)), (a2, zA cI 64 (fun _ => 0)), (a3, zA cI 4 (fun _ => 0)), (a4, zA cI 96 (fun _ => 0)), (a5, zA cI 96 (fun _ => 0))]) rfl ?_
  refine x_putF (pc := 40) (w2 := [(b, .inr (0, [.ref a1, .ref a2, .ref a3, .ref a4, .ref a5, .null, .null])), (a1, zA cI 64 (fun _ => 0)), (a2, zA cI 64 (fun _ => 0)), (a3, zA cI 4 (fun _ => 0)), (a4, zA cI 96 (fun _ => 0)), (a5, zA cI 96 (fun _ => 0))]) X hI d_Disk_init_40 0 rfl (ff_Disk_24 _) (Nat.le_of_ble_eq_true rfl) rfl ?_
  refine x_aload_n (pc := 43) X d_Disk_init_43 0 rfl rfl ?_
  refine x_bipush (pc := 44) (v := 96) X d_Disk_init_44 rfl ?_
  refine x_newz (pc := 46) (N := 96) X d_Disk_init_46 rfl (Nat.le_of_ble_eq_true rfl) ⟨(Nat.le_of_ble_eq_true rfl), (Nat.le_of_ble_eq_true rfl)⟩ (fun a6 => ?_)
  refine x_w (w2 := [(b, .inr (0, [.ref a1, .ref a2, .ref a3, .ref a4, .ref a5, .null, .null])), (a1, zA cI 64 (fun _ => 0)), (a2, zA cI 64 (fun _ => 0)), (a3, zA cI 4 (fun _ => 0)), (a4, zA cI 96 (fun _ => 0)), (a5, zA cI 96 (fun _ => 0)), (a6, zA cB 96 (fun _ => 0))]) rfl ?_
  refine x_putF (pc := 48) (w2 := [(b, .inr (0, [.ref a1, .ref a2, .ref a3, .ref a4, .ref a5, .ref a6, .null])), (a1, zA cI 64 (fun _ => 0)), (a2, zA cI 64 (fun _ => 0)), (a3, zA cI 4 (fun _ => 0)), (a4, zA cI 96 (fun _ => 0)), (a5, zA cI 96 (fun _ => 0)), (a6, zA cB 96 (fun _ => 0))]) X hI d_Disk_init_48 0 rfl (ff_Disk_27 _) (Nat.le_of_ble_eq_true rfl) rfl ?_
  refine x_aload_n (pc := 51) X d_Disk_init_51 0 rfl rfl ?_
  refine x_new (pc := 52) X d_Disk_init_52 nw_Disk_31 ⟨(Nat.le_of_ble_eq_true rfl), (Nat.le_of_ble_eq_true rfl)⟩ (fun a7 => ?_)
  refine x_w (w2 := [(b, .inr (0, [.ref a1, .ref a2, .ref a3, .ref a4, .ref a5, .ref a6, .null])), (a1, zA cI 64 (fun _ => 0)), (a2, zA cI 64 (fun _ => 0)), (a3, zA cI 4 (fun _ => 0)), (a4, zA cI 96 (fun _ => 0)), (a5, zA cI 96 (fun _ => 0)), (a6, zA cB 96 (fun _ => 0)), (a7, .inr (3, [.null, .null, .int (zi 0)]))]) rfl ?_
  refine x_dup (pc := 55) X d_Disk_init_55 rfl ?_
  refine x_callI (pc := 56) (As := []) (rest := [.ref a7, .ref b]) X d_Disk_init_56 lk_Disk_33 mi_Runs (c_Runs_init l D cI cB a7) ⟨(Nat.le_of_ble_eq_true rfl), (Nat.le_of_ble_eq_true rfl), (Nat.le_of_ble_eq_true rfl), (Nat.le_of_ble_eq_true rfl)⟩ 7 rfl rfl rfl (Nat.le_of_ble_eq_true rfl) (fun e1 ns hp => ?_)
  obtain ⟨a1_56, a2_56, rfl, rfl⟩ := hp
  refine x_w (w2 := [(b, .inr (0, [.ref a1, .ref a2, .ref a3, .ref a4, .ref a5, .ref a6, .null])), (a1, zA cI 64 (fun _ => 0)), (a2, zA cI 64 (fun _ => 0)), (a3, zA cI 4 (fun _ => 0)), (a4, zA cI 96 (fun _ => 0)), (a5, zA cI 96 (fun _ => 0)), (a6, zA cB 96 (fun _ => 0)), (a7, .inr (3, [.ref a1_56, .ref a2_56, .int (zi 0)])), (a1_56, zA cI 32 (fun _ => 0)), (a2_56, zA cI 32 (fun _ => 0))]) rfl ?_
  refine x_putF (pc := 59) (w2 := [(b, .inr (0, [.ref a1, .ref a2, .ref a3, .ref a4, .ref a5, .ref a6, .ref a7])), (a1, zA cI 64 (fun _ => 0)), (a2, zA cI 64 (fun _ => 0)), (a3, zA cI 4 (fun _ => 0)), (a4, zA cI 96 (fun _ => 0)), (a5, zA cI 96 (fun _ => 0)), (a6, zA cB 96 (fun _ => 0)), (a7, .inr (3, [.ref a1_56, .ref a2_56, .int (zi 0)])), (a1_56, zA cI 32 (fun _ => 0)), (a2_56, zA cI 32 (fun _ => 0))]) X hI d_Disk_init_59 0 rfl (ff_Disk_34 _) (Nat.le_of_ble_eq_true rfl) rfl ?_
  refine x_iconst (pc := 62) X d_Disk_init_62 ?_
  refine x_istore_n (pc := 63) (ls2 := [(1, .int (zi 0)), (0, .ref b)]) X d_Disk_init_63 rfl (Nat.le_of_ble_eq_true rfl) rfl ?_
  refine l_Disk_init_64 X 5000 0 (fun _ => 0) o64 h64 (fun v => ?_)
  refine x_iconst (pc := 86) X d_Disk_init_86 ?_
  refine x_istore_n (pc := 87) (ls2 := [(1, .int (zi 0)), (0, .ref b)]) X d_Disk_init_87 rfl (Nat.le_of_ble_eq_true rfl) rfl ?_
  refine l_Disk_init_88 X 5000 0 (fun _ => 0) (fun _ => 0) o88 h88 (fun v => ?_)
  exact x_iniret (pc := 126) X hR d_Disk_init_126 ⟨_, _, _, _, _, _, _, _, _, rfl, rfl⟩
def post_Row_96 (cI cB : ClassId) (e1 : va_E) (ns : va_W) : Prop := ∃ a1 : Nat, e1 = .inr (2, [.ref a1, .int (zi 0)]) ∧ ns = [(a1, zA cI 96 (fun _ => 0))]
set_option maxHeartbeats 4000000 in
set_option maxRecDepth 100000 in
theorem c_Row_96_init (l : Launch) (D : va_G) (cI cB : ClassId) (b : Nat) : Ci l D cI cB y_Row_init b_Row_init 2 1 21 1 96 [.int (zi 96)] b (.inr (2, [.null, .int (zi 0)])) (post_Row_96 cI cB) := by
  refine Ci.start (by decide) rfl (Nat.le_of_ble_eq_true rfl) (fun G X hI hR => ?_)
  refine x_ls (ls2 := [(0, .ref b), (1, .int (zi 96))]) [0, 1] rfl ?_
  refine x_aload_n (pc := 0) X d_Row_init_0 0 rfl rfl ?_
  refine x_objInit (pc := 1) X d_Row_init_1 (tm_1 _ (List.mem_of_getElem? (i := 93) rfl)) ⟨(Nat.le_of_ble_eq_true rfl), (Nat.le_of_ble_eq_true rfl)⟩ ?_
  refine x_aload_n (pc := 4) X d_Row_init_4 0 rfl rfl ?_
  refine x_iconst (pc := 5) X d_Row_init_5 ?_
  refine x_iload_n (pc := 6) X d_Row_init_6 1 rfl rfl ?_
  refine x_mmax (pc := 7) X d_Row_init_7 (tm_1 _ (List.mem_of_getElem? (i := 94) rfl)) mm_max ⟨(Nat.le_of_ble_eq_true rfl), (Nat.le_of_ble_eq_true rfl), (Nat.le_of_ble_eq_true rfl), (Nat.le_of_ble_eq_true rfl)⟩ (by decide : gd (zr 0 ∧ zr 96) (some ()) = some ()) (fun _ => ?_)
  refine x_newa (pc := 10) (N := 96) X d_Row_init_10 (by decide) (Nat.le_of_ble_eq_true rfl) ⟨(Nat.le_of_ble_eq_true rfl), (Nat.le_of_ble_eq_true rfl)⟩ (fun a1 => ?_)
  refine x_w (w2 := [(b, .inr (2, [.null, .int (zi 0)])), (a1, zA cI 96 (fun _ => 0))]) rfl ?_
  refine x_putF (pc := 12) (w2 := [(b, .inr (2, [.ref a1, .int (zi 0)])), (a1, zA cI 96 (fun _ => 0))]) X hI d_Row_init_12 0 rfl (ff_Row_15 _) (Nat.le_of_ble_eq_true rfl) rfl ?_
  refine x_aload_n (pc := 15) X d_Row_init_15 0 rfl rfl ?_
  refine x_iconst (pc := 16) X d_Row_init_16 ?_
  refine x_put (pc := 17) (w2 := [(b, .inr (2, [.ref a1, .int (zi 0)])), (a1, zA cI 96 (fun _ => 0))]) X d_Row_init_17 0 rfl (fp_Row_21 _) (Nat.le_of_ble_eq_true rfl) rfl ?_
  exact x_iniret (pc := 20) X hR d_Row_init_20 ⟨_, rfl, rfl⟩
def post_Row_32 (cI cB : ClassId) (e1 : va_E) (ns : va_W) : Prop := ∃ a1 : Nat, e1 = .inr (2, [.ref a1, .int (zi 0)]) ∧ ns = [(a1, zA cI 32 (fun _ => 0))]
set_option maxHeartbeats 4000000 in
set_option maxRecDepth 100000 in
theorem c_Row_32_init (l : Launch) (D : va_G) (cI cB : ClassId) (b : Nat) : Ci l D cI cB y_Row_init b_Row_init 2 1 21 1 32 [.int (zi 32)] b (.inr (2, [.null, .int (zi 0)])) (post_Row_32 cI cB) := by
  refine Ci.start (by decide) rfl (Nat.le_of_ble_eq_true rfl) (fun G X hI hR => ?_)
  refine x_ls (ls2 := [(0, .ref b), (1, .int (zi 32))]) [0, 1] rfl ?_
  refine x_aload_n (pc := 0) X d_Row_init_0 0 rfl rfl ?_
  refine x_objInit (pc := 1) X d_Row_init_1 (tm_1 _ (List.mem_of_getElem? (i := 93) rfl)) ⟨(Nat.le_of_ble_eq_true rfl), (Nat.le_of_ble_eq_true rfl)⟩ ?_
  refine x_aload_n (pc := 4) X d_Row_init_4 0 rfl rfl ?_
  refine x_iconst (pc := 5) X d_Row_init_5 ?_
  refine x_iload_n (pc := 6) X d_Row_init_6 1 rfl rfl ?_
  refine x_mmax (pc := 7) X d_Row_init_7 (tm_1 _ (List.mem_of_getElem? (i := 94) rfl)) mm_max ⟨(Nat.le_of_ble_eq_true rfl), (Nat.le_of_ble_eq_true rfl), (Nat.le_of_ble_eq_true rfl), (Nat.le_of_ble_eq_true rfl)⟩ (by decide : gd (zr 0 ∧ zr 32) (some ()) = some ()) (fun _ => ?_)
  refine x_newa (pc := 10) (N := 32) X d_Row_init_10 (by decide) (Nat.le_of_ble_eq_true rfl) ⟨(Nat.le_of_ble_eq_true rfl), (Nat.le_of_ble_eq_true rfl)⟩ (fun a1 => ?_)
  refine x_w (w2 := [(b, .inr (2, [.null, .int (zi 0)])), (a1, zA cI 32 (fun _ => 0))]) rfl ?_
  refine x_putF (pc := 12) (w2 := [(b, .inr (2, [.ref a1, .int (zi 0)])), (a1, zA cI 32 (fun _ => 0))]) X hI d_Row_init_12 0 rfl (ff_Row_15 _) (Nat.le_of_ble_eq_true rfl) rfl ?_
  refine x_aload_n (pc := 15) X d_Row_init_15 0 rfl rfl ?_
  refine x_iconst (pc := 16) X d_Row_init_16 ?_
  refine x_put (pc := 17) (w2 := [(b, .inr (2, [.ref a1, .int (zi 0)])), (a1, zA cI 32 (fun _ => 0))]) X d_Row_init_17 0 rfl (fp_Row_21 _) (Nat.le_of_ble_eq_true rfl) rfl ?_
  exact x_iniret (pc := 20) X hR d_Row_init_20 ⟨_, rfl, rfl⟩
def post_Text (cI cB : ClassId) (e1 : va_E) (ns : va_W) : Prop := ∃ a1 a1_11 : Nat, e1 = .inr (4, [.ref a1]) ∧ ns = [(a1, .inr (2, [.ref a1_11, .int (zi 0)])), (a1_11, zA cI 96 (fun _ => 0))]
set_option maxHeartbeats 4000000 in
set_option maxRecDepth 100000 in
theorem c_Text_init (l : Launch) (D : va_G) (cI cB : ClassId) (b : Nat) : Ci l D cI cB y_Text_init b_Text_init 1 2 42 2 98 [] b (.inr (4, [.null])) (post_Text cI cB) := by
  refine Ci.start (by decide) rfl (Nat.le_of_ble_eq_true rfl) (fun G X hI hR => ?_)
  refine x_ls (ls2 := [(0, .ref b)]) [0] rfl ?_
  refine x_aload_n (pc := 0) X d_Text_init_0 0 rfl rfl ?_
  refine x_objInit (pc := 1) X d_Text_init_1 (tm_1 _ (List.mem_of_getElem? (i := 87) rfl)) ⟨(Nat.le_of_ble_eq_true rfl), (Nat.le_of_ble_eq_true rfl)⟩ ?_
  refine x_aload_n (pc := 4) X d_Text_init_4 0 rfl rfl ?_
  refine x_new (pc := 5) X d_Text_init_5 nw_Text_9 ⟨(Nat.le_of_ble_eq_true rfl), (Nat.le_of_ble_eq_true rfl)⟩ (fun a1 => ?_)
  refine x_w (w2 := [(b, .inr (4, [.null])), (a1, .inr (2, [.null, .int (zi 0)]))]) rfl ?_
  refine x_dup (pc := 8) X d_Text_init_8 rfl ?_
  refine x_bipush (pc := 9) (v := 96) X d_Text_init_9 rfl ?_
  refine x_callI (pc := 11) (As := [.int (zi 96)]) (rest := [.ref a1, .ref b]) X d_Text_init_11 lk_Text_11 mi_Row (c_Row_96_init l D cI cB a1) ⟨(Nat.le_of_ble_eq_true rfl), (Nat.le_of_ble_eq_true rfl), (Nat.le_of_ble_eq_true rfl), (Nat.le_of_ble_eq_true rfl)⟩ 1 rfl rfl rfl (Nat.le_of_ble_eq_true rfl) (fun e1 ns hp => ?_)
  obtain ⟨a1_11, rfl, rfl⟩ := hp
  refine x_w (w2 := [(b, .inr (4, [.null])), (a1, .inr (2, [.ref a1_11, .int (zi 0)])), (a1_11, zA cI 96 (fun _ => 0))]) rfl ?_
  refine x_putF (pc := 14) (w2 := [(b, .inr (4, [.ref a1])), (a1, .inr (2, [.ref a1_11, .int (zi 0)])), (a1_11, zA cI 96 (fun _ => 0))]) X hI d_Text_init_14 0 rfl (ff_Text_14 _) (Nat.le_of_ble_eq_true rfl) rfl ?_
  exact x_iniret (pc := 17) X hR d_Text_init_17 ⟨_, _, rfl, rfl⟩
def post_Mind (cI cB : ClassId) (p1 p2 : Nat) (e1 : va_E) (ns : va_W) : Prop := e1 = .inr (1, [.ref p1, .ref p2, .int (zi 0)]) ∧ ns = []
set_option maxHeartbeats 4000000 in
set_option maxRecDepth 100000 in
theorem c_Mind_init (l : Launch) (D : va_G) (cI cB : ClassId) (b : Nat) (p1 p2 : Nat) : Ci l D cI cB y_Mind_init b_Mind_init 3 1 12 0 0 [.ref p1, .ref p2] b (.inr (1, [.null, .null, .int (zi 0)])) (post_Mind cI cB p1 p2) := by
  refine Ci.start (by decide) rfl (Nat.le_of_ble_eq_true rfl) (fun G X hI hR => ?_)
  refine x_ls (ls2 := [(0, .ref b), (1, .ref p1), (2, .ref p2)]) [0, 1, 2] rfl ?_
  refine x_aload_n (pc := 0) X d_Mind_init_0 0 rfl rfl ?_
  refine x_objInit (pc := 1) X d_Mind_init_1 (tm_1 _ (List.mem_of_getElem? (i := 71) rfl)) ⟨(Nat.le_of_ble_eq_true rfl), (Nat.le_of_ble_eq_true rfl)⟩ ?_
  refine x_aload_n (pc := 4) X d_Mind_init_4 0 rfl rfl ?_
  refine x_aload_n (pc := 5) X d_Mind_init_5 1 rfl rfl ?_
  refine x_putF (pc := 6) (w2 := [(b, .inr (1, [.ref p1, .null, .int (zi 0)]))]) X hI d_Mind_init_6 0 rfl (ff_Mind_9 _) (Nat.le_of_ble_eq_true rfl) rfl ?_
  refine x_aload_n (pc := 9) X d_Mind_init_9 0 rfl rfl ?_
  refine x_aload_n (pc := 10) X d_Mind_init_10 2 rfl rfl ?_
  refine x_putF (pc := 11) (w2 := [(b, .inr (1, [.ref p1, .ref p2, .int (zi 0)]))]) X hI d_Mind_init_11 0 rfl (ff_Mind_15 _) (Nat.le_of_ble_eq_true rfl) rfl ?_
  refine x_aload_n (pc := 14) X d_Mind_init_14 0 rfl rfl ?_
  refine x_iconst (pc := 15) X d_Mind_init_15 ?_
  refine x_put (pc := 16) (w2 := [(b, .inr (1, [.ref p1, .ref p2, .int (zi 0)]))]) X d_Mind_init_16 0 rfl (fp_Mind_18 _) (Nat.le_of_ble_eq_true rfl) rfl ?_
  exact x_iniret (pc := 19) X hR d_Mind_init_19 ⟨rfl, rfl⟩
def post_Vol (cI cB : ClassId) (o_Disk : (Int → Int) × (Int → Int) × (Int → Int)) (e1 : va_E) (ns : va_W) : Prop := ∃ a1 a1_8 a2_8 a3_8 a4_8 a5_8 a6_8 a7_8 a1_56_8 a2_56_8 a2 a1_16 a2_16 a3_16 a4_16 a5_16 a6_16 a7_16 a1_56_16 a2_56_16 a3 a1_35 a2_35 a3_35 a4_35 a5_35 a6_35 a7_35 a1_56_35 a2_56_35 a4 a5 a1_59 a1_11_59 a6 a1_72 a7 : Nat, e1 = .inr (5, [.ref a1, .ref a3, .ref a2, .ref a4, .ref a5, .ref a6, .ref a7, .int (zi 0)]) ∧ ns = [(a1, .inr (0, [.ref a1_8, .ref a2_8, .ref a3_8, .ref a4_8, .ref a5_8, .ref a6_8, .ref a7_8])), (a1_8, zA cI 64 o_Disk.1), (a2_8, zA cI 64 (fun _ => 0)), (a3_8, zA cI 4 (fun _ => 0)), (a4_8, zA cI 96 o_Disk.2.1), (a5_8, zA cI 96 o_Disk.2.2), (a6_8, zA cB 96 (fun _ => 0)), (a7_8, .inr (3, [.ref a1_56_8, .ref a2_56_8, .int (zi 0)])), (a1_56_8, zA cI 32 (fun _ => 0)), (a2_56_8, zA cI 32 (fun _ => 0)), (a2, .inr (0, [.ref a1_16, .ref a2_16, .ref a3_16, .ref a4_16, .ref a5_16, .ref a6_16, .ref a7_16])), (a1_16, zA cI 64 o_Disk.1), (a2_16, zA cI 64 (fun _ => 0)), (a3_16, zA cI 4 (fun _ => 0)), (a4_16, zA cI 96 o_Disk.2.1), (a5_16, zA cI 96 o_Disk.2.2), (a6_16, zA cB 96 (fun _ => 0)), (a7_16, .inr (3, [.ref a1_56_16, .ref a2_56_16, .int (zi 0)])), (a1_56_16, zA cI 32 (fun _ => 0)), (a2_56_16, zA cI 32 (fun _ => 0)), (a3, .inr (0, [.ref a1_35, .ref a2_35, .ref a3_35, .ref a4_35, .ref a5_35, .ref a6_35, .ref a7_35])), (a1_35, zA cI 64 o_Disk.1), (a2_35, zA cI 64 (fun _ => 0)), (a3_35, zA cI 4 (fun _ => 0)), (a4_35, zA cI 96 o_Disk.2.1), (a5_35, zA cI 96 o_Disk.2.2), (a6_35, zA cB 96 (fun _ => 0)), (a7_35, .inr (3, [.ref a1_56_35, .ref a2_56_35, .int (zi 0)])), (a1_56_35, zA cI 32 (fun _ => 0)), (a2_56_35, zA cI 32 (fun _ => 0)), (a4, .inr (1, [.ref a1, .ref a2, .int (zi 0)])), (a5, .inr (4, [.ref a1_59])), (a1_59, .inr (2, [.ref a1_11_59, .int (zi 0)])), (a1_11_59, zA cI 96 (fun _ => 0)), (a6, .inr (2, [.ref a1_72, .int (zi 0)])), (a1_72, zA cI 32 (fun _ => 0)), (a7, zA cI 7 (fun _ => 0))]
set_option maxHeartbeats 4000000 in
set_option maxRecDepth 100000 in
theorem c_Vol_init (l : Launch) (D : va_G) (cI cB : ClassId) (b : Nat) {o_Disk : (Int → Int) × (Int → Int) × (Int → Int)} (h_Disk : m_Disk_init = some o_Disk) : Ci l D cI cB y_Vol_init b_Vol_init 3 3 62 37 1625 [] b (.inr (5, [.null, .null, .null, .null, .null, .null, .null, .int (zi 0)])) (post_Vol cI cB o_Disk) := by
  refine Ci.start (by decide) rfl (Nat.le_of_ble_eq_true rfl) (fun G X hI hR => ?_)
  refine x_ls (ls2 := [(0, .ref b)]) [0] rfl ?_
  refine x_aload_n (pc := 0) X d_Vol_init_0 0 rfl rfl ?_
  refine x_objInit (pc := 1) X d_Vol_init_1 (tm_1 _ (List.mem_of_getElem? (i := 15) rfl)) ⟨(Nat.le_of_ble_eq_true rfl), (Nat.le_of_ble_eq_true rfl)⟩ ?_
  refine x_new (pc := 4) X d_Vol_init_4 nw_Vol_7 ⟨(Nat.le_of_ble_eq_true rfl), (Nat.le_of_ble_eq_true rfl)⟩ (fun a1 => ?_)
  refine x_w (w2 := [(b, .inr (5, [.null, .null, .null, .null, .null, .null, .null, .int (zi 0)])), (a1, .inr (0, [.null, .null, .null, .null, .null, .null, .null]))]) rfl ?_
  refine x_dup (pc := 7) X d_Vol_init_7 rfl ?_
  refine x_callI (pc := 8) (As := []) (rest := [.ref a1]) X d_Vol_init_8 lk_Vol_9 mi_Disk (c_Disk_init l D cI cB a1 h_Disk) ⟨(Nat.le_of_ble_eq_true rfl), (Nat.le_of_ble_eq_true rfl), (Nat.le_of_ble_eq_true rfl), (Nat.le_of_ble_eq_true rfl)⟩ 1 rfl rfl rfl (Nat.le_of_ble_eq_true rfl) (fun e1 ns hp => ?_)
  obtain ⟨a1_8, a2_8, a3_8, a4_8, a5_8, a6_8, a7_8, a1_56_8, a2_56_8, rfl, rfl⟩ := hp
  refine x_w (w2 := [(b, .inr (5, [.null, .null, .null, .null, .null, .null, .null, .int (zi 0)])), (a1, .inr (0, [.ref a1_8, .ref a2_8, .ref a3_8, .ref a4_8, .ref a5_8, .ref a6_8, .ref a7_8])), (a1_8, zA cI 64 o_Disk.1), (a2_8, zA cI 64 (fun _ => 0)), (a3_8, zA cI 4 (fun _ => 0)), (a4_8, zA cI 96 o_Disk.2.1), (a5_8, zA cI 96 o_Disk.2.2), (a6_8, zA cB 96 (fun _ => 0)), (a7_8, .inr (3, [.ref a1_56_8, .ref a2_56_8, .int (zi 0)])), (a1_56_8, zA cI 32 (fun _ => 0)), (a2_56_8, zA cI 32 (fun _ => 0))]) rfl ?_
  refine x_astore_n (pc := 11) (ls2 := [(1, .ref a1), (0, .ref b)]) X d_Vol_init_11 rfl (Nat.le_of_ble_eq_true rfl) rfl ?_
  refine x_new (pc := 12) X d_Vol_init_12 nw_Vol_7 ⟨(Nat.le_of_ble_eq_true rfl), (Nat.le_of_ble_eq_true rfl)⟩ (fun a2 => ?_)
  refine x_w (w2 := [(b, .inr (5, [.null, .null, .null, .null, .null, .null, .null, .int (zi 0)])), (a1, .inr (0, [.ref a1_8, .ref a2_8, .ref a3_8, .ref a4_8, .ref a5_8, .ref a6_8, .ref a7_8])), (a1_8, zA cI 64 o_Disk.1), (a2_8, zA cI 64 (fun _ => 0)), (a3_8, zA cI 4 (fun _ => 0)), (a4_8, zA cI 96 o_Disk.2.1), (a5_8, zA cI 96 o_Disk.2.2), (a6_8, zA cB 96 (fun _ => 0)), (a7_8, .inr (3, [.ref a1_56_8, .ref a2_56_8, .int (zi 0)])), (a1_56_8, zA cI 32 (fun _ => 0)), (a2_56_8, zA cI 32 (fun _ => 0)), (a2, .inr (0, [.null, .null, .null, .null, .null, .null, .null]))]) rfl ?_
  refine x_dup (pc := 15) X d_Vol_init_15 rfl ?_
  refine x_callI (pc := 16) (As := []) (rest := [.ref a2]) X d_Vol_init_16 lk_Vol_9 mi_Disk (c_Disk_init l D cI cB a2 h_Disk) ⟨(Nat.le_of_ble_eq_true rfl), (Nat.le_of_ble_eq_true rfl), (Nat.le_of_ble_eq_true rfl), (Nat.le_of_ble_eq_true rfl)⟩ 11 rfl rfl rfl (Nat.le_of_ble_eq_true rfl) (fun e1 ns hp => ?_)
  obtain ⟨a1_16, a2_16, a3_16, a4_16, a5_16, a6_16, a7_16, a1_56_16, a2_56_16, rfl, rfl⟩ := hp
  refine x_w (w2 := [(b, .inr (5, [.null, .null, .null, .null, .null, .null, .null, .int (zi 0)])), (a1, .inr (0, [.ref a1_8, .ref a2_8, .ref a3_8, .ref a4_8, .ref a5_8, .ref a6_8, .ref a7_8])), (a1_8, zA cI 64 o_Disk.1), (a2_8, zA cI 64 (fun _ => 0)), (a3_8, zA cI 4 (fun _ => 0)), (a4_8, zA cI 96 o_Disk.2.1), (a5_8, zA cI 96 o_Disk.2.2), (a6_8, zA cB 96 (fun _ => 0)), (a7_8, .inr (3, [.ref a1_56_8, .ref a2_56_8, .int (zi 0)])), (a1_56_8, zA cI 32 (fun _ => 0)), (a2_56_8, zA cI 32 (fun _ => 0)), (a2, .inr (0, [.ref a1_16, .ref a2_16, .ref a3_16, .ref a4_16, .ref a5_16, .ref a6_16, .ref a7_16])), (a1_16, zA cI 64 o_Disk.1), (a2_16, zA cI 64 (fun _ => 0)), (a3_16, zA cI 4 (fun _ => 0)), (a4_16, zA cI 96 o_Disk.2.1), (a5_16, zA cI 96 o_Disk.2.2), (a6_16, zA cB 96 (fun _ => 0)), (a7_16, .inr (3, [.ref a1_56_16, .ref a2_56_16, .int (zi 0)])), (a1_56_16, zA cI 32 (fun _ => 0)), (a2_56_16, zA cI 32 (fun _ => 0))]) rfl ?_
  refine x_astore_n (pc := 19) (ls2 := [(2, .ref a2), (1, .ref a1), (0, .ref b)]) X d_Vol_init_19 rfl (Nat.le_of_ble_eq_true rfl) rfl ?_
  refine x_aload_n (pc := 20) X d_Vol_init_20 2 rfl rfl ?_
  refine x_aload_n (pc := 21) X d_Vol_init_21 1 rfl rfl ?_
  refine x_putF (pc := 22) (w2 := [(b, .inr (5, [.ref a1, .null, .null, .null, .null, .null, .null, .int (zi 0)])), (a1, .inr (0, [.ref a1_8, .ref a2_8, .ref a3_8, .ref a4_8, .ref a5_8, .ref a6_8, .ref a7_8])), (a1_8, zA cI 64 o_Disk.1), (a2_8, zA cI 64 (fun _ => 0)), (a3_8, zA cI 4 (fun _ => 0)), (a4_8, zA cI 96 o_Disk.2.1), (a5_8, zA cI 96 o_Disk.2.2), (a6_8, zA cB 96 (fun _ => 0)), (a7_8, .inr (3, [.ref a1_56_8, .ref a2_56_8, .int (zi 0)])), (a1_56_8, zA cI 32 (fun _ => 0)), (a2_56_8, zA cI 32 (fun _ => 0)), (a2, .inr (0, [.ref a1_16, .ref a2_16, .ref a3_16, .ref a4_16, .ref a5_16, .ref a6_16, .ref a7_16])), (a1_16, zA cI 64 o_Disk.1), (a2_16, zA cI 64 (fun _ => 0)), (a3_16, zA cI 4 (fun _ => 0)), (a4_16, zA cI 96 o_Disk.2.1), (a5_16, zA cI 96 o_Disk.2.2), (a6_16, zA cB 96 (fun _ => 0)), (a7_16, .inr (3, [.ref a1_56_16, .ref a2_56_16, .int (zi 0)])), (a1_56_16, zA cI 32 (fun _ => 0)), (a2_56_16, zA cI 32 (fun _ => 0))]) X hI d_Vol_init_22 0 rfl (ff_Vol_10 _) (Nat.le_of_ble_eq_true rfl) rfl ?_
  refine x_aload_n (pc := 25) X d_Vol_init_25 2 rfl rfl ?_
  refine x_aload_n (pc := 26) X d_Vol_init_26 0 rfl rfl ?_
  refine x_putF (pc := 27) (w2 := [(b, .inr (5, [.ref a1, .null, .ref a2, .null, .null, .null, .null, .int (zi 0)])), (a1, .inr (0, [.ref a1_8, .ref a2_8, .ref a3_8, .ref a4_8, .ref a5_8, .ref a6_8, .ref a7_8])), (a1_8, zA cI 64 o_Disk.1), (a2_8, zA cI 64 (fun _ => 0)), (a3_8, zA cI 4 (fun _ => 0)), (a4_8, zA cI 96 o_Disk.2.1), (a5_8, zA cI 96 o_Disk.2.2), (a6_8, zA cB 96 (fun _ => 0)), (a7_8, .inr (3, [.ref a1_56_8, .ref a2_56_8, .int (zi 0)])), (a1_56_8, zA cI 32 (fun _ => 0)), (a2_56_8, zA cI 32 (fun _ => 0)), (a2, .inr (0, [.ref a1_16, .ref a2_16, .ref a3_16, .ref a4_16, .ref a5_16, .ref a6_16, .ref a7_16])), (a1_16, zA cI 64 o_Disk.1), (a2_16, zA cI 64 (fun _ => 0)), (a3_16, zA cI 4 (fun _ => 0)), (a4_16, zA cI 96 o_Disk.2.1), (a5_16, zA cI 96 o_Disk.2.2), (a6_16, zA cB 96 (fun _ => 0)), (a7_16, .inr (3, [.ref a1_56_16, .ref a2_56_16, .int (zi 0)])), (a1_56_16, zA cI 32 (fun _ => 0)), (a2_56_16, zA cI 32 (fun _ => 0))]) X hI d_Vol_init_27 0 rfl (ff_Vol_16 _) (Nat.le_of_ble_eq_true rfl) rfl ?_
  refine x_aload_n (pc := 30) X d_Vol_init_30 2 rfl rfl ?_
  refine x_new (pc := 31) X d_Vol_init_31 nw_Vol_7 ⟨(Nat.le_of_ble_eq_true rfl), (Nat.le_of_ble_eq_true rfl)⟩ (fun a3 => ?_)
  refine x_w (w2 := [(b, .inr (5, [.ref a1, .null, .ref a2, .null, .null, .null, .null, .int (zi 0)])), (a1, .inr (0, [.ref a1_8, .ref a2_8, .ref a3_8, .ref a4_8, .ref a5_8, .ref a6_8, .ref a7_8])), (a1_8, zA cI 64 o_Disk.1), (a2_8, zA cI 64 (fun _ => 0)), (a3_8, zA cI 4 (fun _ => 0)), (a4_8, zA cI 96 o_Disk.2.1), (a5_8, zA cI 96 o_Disk.2.2), (a6_8, zA cB 96 (fun _ => 0)), (a7_8, .inr (3, [.ref a1_56_8, .ref a2_56_8, .int (zi 0)])), (a1_56_8, zA cI 32 (fun _ => 0)), (a2_56_8, zA cI 32 (fun _ => 0)), (a2, .inr (0, [.ref a1_16, .ref a2_16, .ref a3_16, .ref a4_16, .ref a5_16, .ref a6_16, .ref a7_16])), (a1_16, zA cI 64 o_Disk.1), (a2_16, zA cI 64 (fun _ => 0)), (a3_16, zA cI 4 (fun _ => 0)), (a4_16, zA cI 96 o_Disk.2.1), (a5_16, zA cI 96 o_Disk.2.2), (a6_16, zA cB 96 (fun _ => 0)), (a7_16, .inr (3, [.ref a1_56_16, .ref a2_56_16, .int (zi 0)])), (a1_56_16, zA cI 32 (fun _ => 0)), (a2_56_16, zA cI 32 (fun _ => 0)), (a3, .inr (0, [.null, .null, .null, .null, .null, .null, .null]))]) rfl ?_
  refine x_dup (pc := 34) X d_Vol_init_34 rfl ?_
  refine x_callI (pc := 35) (As := []) (rest := [.ref a3, .ref b]) X d_Vol_init_35 lk_Vol_9 mi_Disk (c_Disk_init l D cI cB a3 h_Disk) ⟨(Nat.le_of_ble_eq_true rfl), (Nat.le_of_ble_eq_true rfl), (Nat.le_of_ble_eq_true rfl), (Nat.le_of_ble_eq_true rfl)⟩ 21 rfl rfl rfl (Nat.le_of_ble_eq_true rfl) (fun e1 ns hp => ?_)
  obtain ⟨a1_35, a2_35, a3_35, a4_35, a5_35, a6_35, a7_35, a1_56_35, a2_56_35, rfl, rfl⟩ := hp
  refine x_w (w2 := [(b, .inr (5, [.ref a1, .null, .ref a2, .null, .null, .null, .null, .int (zi 0)])), (a1, .inr (0, [.ref a1_8, .ref a2_8, .ref a3_8, .ref a4_8, .ref a5_8, .ref a6_8, .ref a7_8])), (a1_8, zA cI 64 o_Disk.1), (a2_8, zA cI 64 (fun _ => 0)), (a3_8, zA cI 4 (fun _ => 0)), (a4_8, zA cI 96 o_Disk.2.1), (a5_8, zA cI 96 o_Disk.2.2), (a6_8, zA cB 96 (fun _ => 0)), (a7_8, .inr (3, [.ref a1_56_8, .ref a2_56_8, .int (zi 0)])), (a1_56_8, zA cI 32 (fun _ => 0)), (a2_56_8, zA cI 32 (fun _ => 0)), (a2, .inr (0, [.ref a1_16, .ref a2_16, .ref a3_16, .ref a4_16, .ref a5_16, .ref a6_16, .ref a7_16])), (a1_16, zA cI 64 o_Disk.1), (a2_16, zA cI 64 (fun _ => 0)), (a3_16, zA cI 4 (fun _ => 0)), (a4_16, zA cI 96 o_Disk.2.1), (a5_16, zA cI 96 o_Disk.2.2), (a6_16, zA cB 96 (fun _ => 0)), (a7_16, .inr (3, [.ref a1_56_16, .ref a2_56_16, .int (zi 0)])), (a1_56_16, zA cI 32 (fun _ => 0)), (a2_56_16, zA cI 32 (fun _ => 0)), (a3, .inr (0, [.ref a1_35, .ref a2_35, .ref a3_35, .ref a4_35, .ref a5_35, .ref a6_35, .ref a7_35])), (a1_35, zA cI 64 o_Disk.1), (a2_35, zA cI 64 (fun _ => 0)), (a3_35, zA cI 4 (fun _ => 0)), (a4_35, zA cI 96 o_Disk.2.1), (a5_35, zA cI 96 o_Disk.2.2), (a6_35, zA cB 96 (fun _ => 0)), (a7_35, .inr (3, [.ref a1_56_35, .ref a2_56_35, .int (zi 0)])), (a1_56_35, zA cI 32 (fun _ => 0)), (a2_56_35, zA cI 32 (fun _ => 0))]) rfl ?_
  refine x_putF (pc := 38) (w2 := [(b, .inr (5, [.ref a1, .ref a3, .ref a2, .null, .null, .null, .null, .int (zi 0)])), (a1, .inr (0, [.ref a1_8, .ref a2_8, .ref a3_8, .ref a4_8, .ref a5_8, .ref a6_8, .ref a7_8])), (a1_8, zA cI 64 o_Disk.1), (a2_8, zA cI 64 (fun _ => 0)), (a3_8, zA cI 4 (fun _ => 0)), (a4_8, zA cI 96 o_Disk.2.1), (a5_8, zA cI 96 o_Disk.2.2), (a6_8, zA cB 96 (fun _ => 0)), (a7_8, .inr (3, [.ref a1_56_8, .ref a2_56_8, .int (zi 0)])), (a1_56_8, zA cI 32 (fun _ => 0)), (a2_56_8, zA cI 32 (fun _ => 0)), (a2, .inr (0, [.ref a1_16, .ref a2_16, .ref a3_16, .ref a4_16, .ref a5_16, .ref a6_16, .ref a7_16])), (a1_16, zA cI 64 o_Disk.1), (a2_16, zA cI 64 (fun _ => 0)), (a3_16, zA cI 4 (fun _ => 0)), (a4_16, zA cI 96 o_Disk.2.1), (a5_16, zA cI 96 o_Disk.2.2), (a6_16, zA cB 96 (fun _ => 0)), (a7_16, .inr (3, [.ref a1_56_16, .ref a2_56_16, .int (zi 0)])), (a1_56_16, zA cI 32 (fun _ => 0)), (a2_56_16, zA cI 32 (fun _ => 0)), (a3, .inr (0, [.ref a1_35, .ref a2_35, .ref a3_35, .ref a4_35, .ref a5_35, .ref a6_35, .ref a7_35])), (a1_35, zA cI 64 o_Disk.1), (a2_35, zA cI 64 (fun _ => 0)), (a3_35, zA cI 4 (fun _ => 0)), (a4_35, zA cI 96 o_Disk.2.1), (a5_35, zA cI 96 o_Disk.2.2), (a6_35, zA cB 96 (fun _ => 0)), (a7_35, .inr (3, [.ref a1_56_35, .ref a2_56_35, .int (zi 0)])), (a1_56_35, zA cI 32 (fun _ => 0)), (a2_56_35, zA cI 32 (fun _ => 0))]) X hI d_Vol_init_38 0 rfl (ff_Vol_19 _) (Nat.le_of_ble_eq_true rfl) rfl ?_
  refine x_aload_n (pc := 41) X d_Vol_init_41 2 rfl rfl ?_
  refine x_new (pc := 42) X d_Vol_init_42 nw_Vol_22 ⟨(Nat.le_of_ble_eq_true rfl), (Nat.le_of_ble_eq_true rfl)⟩ (fun a4 => ?_)
  refine x_w (w2 := [(b, .inr (5, [.ref a1, .ref a3, .ref a2, .null, .null, .null, .null, .int (zi 0)])), (a1, .inr (0, [.ref a1_8, .ref a2_8, .ref a3_8, .ref a4_8, .ref a5_8, .ref a6_8, .ref a7_8])), (a1_8, zA cI 64 o_Disk.1), (a2_8, zA cI 64 (fun _ => 0)), (a3_8, zA cI 4 (fun _ => 0)), (a4_8, zA cI 96 o_Disk.2.1), (a5_8, zA cI 96 o_Disk.2.2), (a6_8, zA cB 96 (fun _ => 0)), (a7_8, .inr (3, [.ref a1_56_8, .ref a2_56_8, .int (zi 0)])), (a1_56_8, zA cI 32 (fun _ => 0)), (a2_56_8, zA cI 32 (fun _ => 0)), (a2, .inr (0, [.ref a1_16, .ref a2_16, .ref a3_16, .ref a4_16, .ref a5_16, .ref a6_16, .ref a7_16])), (a1_16, zA cI 64 o_Disk.1), (a2_16, zA cI 64 (fun _ => 0)), (a3_16, zA cI 4 (fun _ => 0)), (a4_16, zA cI 96 o_Disk.2.1), (a5_16, zA cI 96 o_Disk.2.2), (a6_16, zA cB 96 (fun _ => 0)), (a7_16, .inr (3, [.ref a1_56_16, .ref a2_56_16, .int (zi 0)])), (a1_56_16, zA cI 32 (fun _ => 0)), (a2_56_16, zA cI 32 (fun _ => 0)), (a3, .inr (0, [.ref a1_35, .ref a2_35, .ref a3_35, .ref a4_35, .ref a5_35, .ref a6_35, .ref a7_35])), (a1_35, zA cI 64 o_Disk.1), (a2_35, zA cI 64 (fun _ => 0)), (a3_35, zA cI 4 (fun _ => 0)), (a4_35, zA cI 96 o_Disk.2.1), (a5_35, zA cI 96 o_Disk.2.2), (a6_35, zA cB 96 (fun _ => 0)), (a7_35, .inr (3, [.ref a1_56_35, .ref a2_56_35, .int (zi 0)])), (a1_56_35, zA cI 32 (fun _ => 0)), (a2_56_35, zA cI 32 (fun _ => 0)), (a4, .inr (1, [.null, .null, .int (zi 0)]))]) rfl ?_
  refine x_dup (pc := 45) X d_Vol_init_45 rfl ?_
  refine x_aload_n (pc := 46) X d_Vol_init_46 1 rfl rfl ?_
  refine x_aload_n (pc := 47) X d_Vol_init_47 0 rfl rfl ?_
  refine x_callI (pc := 48) (As := [.ref a1, .ref a2]) (rest := [.ref a4, .ref b]) X d_Vol_init_48 lk_Vol_24 mi_Mind (c_Mind_init l D cI cB a4 a1 a2) ⟨(Nat.le_of_ble_eq_true rfl), (Nat.le_of_ble_eq_true rfl), (Nat.le_of_ble_eq_true rfl), (Nat.le_of_ble_eq_true rfl)⟩ 31 rfl rfl rfl (Nat.le_of_ble_eq_true rfl) (fun e1 ns hp => ?_)
  obtain ⟨rfl, rfl⟩ := hp
  refine x_w (w2 := [(b, .inr (5, [.ref a1, .ref a3, .ref a2, .null, .null, .null, .null, .int (zi 0)])), (a1, .inr (0, [.ref a1_8, .ref a2_8, .ref a3_8, .ref a4_8, .ref a5_8, .ref a6_8, .ref a7_8])), (a1_8, zA cI 64 o_Disk.1), (a2_8, zA cI 64 (fun _ => 0)), (a3_8, zA cI 4 (fun _ => 0)), (a4_8, zA cI 96 o_Disk.2.1), (a5_8, zA cI 96 o_Disk.2.2), (a6_8, zA cB 96 (fun _ => 0)), (a7_8, .inr (3, [.ref a1_56_8, .ref a2_56_8, .int (zi 0)])), (a1_56_8, zA cI 32 (fun _ => 0)), (a2_56_8, zA cI 32 (fun _ => 0)), (a2, .inr (0, [.ref a1_16, .ref a2_16, .ref a3_16, .ref a4_16, .ref a5_16, .ref a6_16, .ref a7_16])), (a1_16, zA cI 64 o_Disk.1), (a2_16, zA cI 64 (fun _ => 0)), (a3_16, zA cI 4 (fun _ => 0)), (a4_16, zA cI 96 o_Disk.2.1), (a5_16, zA cI 96 o_Disk.2.2), (a6_16, zA cB 96 (fun _ => 0)), (a7_16, .inr (3, [.ref a1_56_16, .ref a2_56_16, .int (zi 0)])), (a1_56_16, zA cI 32 (fun _ => 0)), (a2_56_16, zA cI 32 (fun _ => 0)), (a3, .inr (0, [.ref a1_35, .ref a2_35, .ref a3_35, .ref a4_35, .ref a5_35, .ref a6_35, .ref a7_35])), (a1_35, zA cI 64 o_Disk.1), (a2_35, zA cI 64 (fun _ => 0)), (a3_35, zA cI 4 (fun _ => 0)), (a4_35, zA cI 96 o_Disk.2.1), (a5_35, zA cI 96 o_Disk.2.2), (a6_35, zA cB 96 (fun _ => 0)), (a7_35, .inr (3, [.ref a1_56_35, .ref a2_56_35, .int (zi 0)])), (a1_56_35, zA cI 32 (fun _ => 0)), (a2_56_35, zA cI 32 (fun _ => 0)), (a4, .inr (1, [.ref a1, .ref a2, .int (zi 0)]))]) rfl ?_
  refine x_putF (pc := 51) (w2 := [(b, .inr (5, [.ref a1, .ref a3, .ref a2, .ref a4, .null, .null, .null, .int (zi 0)])), (a1, .inr (0, [.ref a1_8, .ref a2_8, .ref a3_8, .ref a4_8, .ref a5_8, .ref a6_8, .ref a7_8])), (a1_8, zA cI 64 o_Disk.1), (a2_8, zA cI 64 (fun _ => 0)), (a3_8, zA cI 4 (fun _ => 0)), (a4_8, zA cI 96 o_Disk.2.1), (a5_8, zA cI 96 o_Disk.2.2), (a6_8, zA cB 96 (fun _ => 0)), (a7_8, .inr (3, [.ref a1_56_8, .ref a2_56_8, .int (zi 0)])), (a1_56_8, zA cI 32 (fun _ => 0)), (a2_56_8, zA cI 32 (fun _ => 0)), (a2, .inr (0, [.ref a1_16, .ref a2_16, .ref a3_16, .ref a4_16, .ref a5_16, .ref a6_16, .ref a7_16])), (a1_16, zA cI 64 o_Disk.1), (a2_16, zA cI 64 (fun _ => 0)), (a3_16, zA cI 4 (fun _ => 0)), (a4_16, zA cI 96 o_Disk.2.1), (a5_16, zA cI 96 o_Disk.2.2), (a6_16, zA cB 96 (fun _ => 0)), (a7_16, .inr (3, [.ref a1_56_16, .ref a2_56_16, .int (zi 0)])), (a1_56_16, zA cI 32 (fun _ => 0)), (a2_56_16, zA cI 32 (fun _ => 0)), (a3, .inr (0, [.ref a1_35, .ref a2_35, .ref a3_35, .ref a4_35, .ref a5_35, .ref a6_35, .ref a7_35])), (a1_35, zA cI 64 o_Disk.1), (a2_35, zA cI 64 (fun _ => 0)), (a3_35, zA cI 4 (fun _ => 0)), (a4_35, zA cI 96 o_Disk.2.1), (a5_35, zA cI 96 o_Disk.2.2), (a6_35, zA cB 96 (fun _ => 0)), (a7_35, .inr (3, [.ref a1_56_35, .ref a2_56_35, .int (zi 0)])), (a1_56_35, zA cI 32 (fun _ => 0)), (a2_56_35, zA cI 32 (fun _ => 0)), (a4, .inr (1, [.ref a1, .ref a2, .int (zi 0)]))]) X hI d_Vol_init_51 0 rfl (ff_Vol_27 _) (Nat.le_of_ble_eq_true rfl) rfl ?_
  refine x_aload_n (pc := 54) X d_Vol_init_54 2 rfl rfl ?_
  refine x_new (pc := 55) X d_Vol_init_55 nw_Vol_31 ⟨(Nat.le_of_ble_eq_true rfl), (Nat.le_of_ble_eq_true rfl)⟩ (fun a5 => ?_)
  refine x_w (w2 := [(b, .inr (5, [.ref a1, .ref a3, .ref a2, .ref a4, .null, .null, .null, .int (zi 0)])), (a1, .inr (0, [.ref a1_8, .ref a2_8, .ref a3_8, .ref a4_8, .ref a5_8, .ref a6_8, .ref a7_8])), (a1_8, zA cI 64 o_Disk.1), (a2_8, zA cI 64 (fun _ => 0)), (a3_8, zA cI 4 (fun _ => 0)), (a4_8, zA cI 96 o_Disk.2.1), (a5_8, zA cI 96 o_Disk.2.2), (a6_8, zA cB 96 (fun _ => 0)), (a7_8, .inr (3, [.ref a1_56_8, .ref a2_56_8, .int (zi 0)])), (a1_56_8, zA cI 32 (fun _ => 0)), (a2_56_8, zA cI 32 (fun _ => 0)), (a2, .inr (0, [.ref a1_16, .ref a2_16, .ref a3_16, .ref a4_16, .ref a5_16, .ref a6_16, .ref a7_16])), (a1_16, zA cI 64 o_Disk.1), (a2_16, zA cI 64 (fun _ => 0)), (a3_16, zA cI 4 (fun _ => 0)), (a4_16, zA cI 96 o_Disk.2.1), (a5_16, zA cI 96 o_Disk.2.2), (a6_16, zA cB 96 (fun _ => 0)), (a7_16, .inr (3, [.ref a1_56_16, .ref a2_56_16, .int (zi 0)])), (a1_56_16, zA cI 32 (fun _ => 0)), (a2_56_16, zA cI 32 (fun _ => 0)), (a3, .inr (0, [.ref a1_35, .ref a2_35, .ref a3_35, .ref a4_35, .ref a5_35, .ref a6_35, .ref a7_35])), (a1_35, zA cI 64 o_Disk.1), (a2_35, zA cI 64 (fun _ => 0)), (a3_35, zA cI 4 (fun _ => 0)), (a4_35, zA cI 96 o_Disk.2.1), (a5_35, zA cI 96 o_Disk.2.2), (a6_35, zA cB 96 (fun _ => 0)), (a7_35, .inr (3, [.ref a1_56_35, .ref a2_56_35, .int (zi 0)])), (a1_56_35, zA cI 32 (fun _ => 0)), (a2_56_35, zA cI 32 (fun _ => 0)), (a4, .inr (1, [.ref a1, .ref a2, .int (zi 0)])), (a5, .inr (4, [.null]))]) rfl ?_
  refine x_dup (pc := 58) X d_Vol_init_58 rfl ?_
  refine x_callI (pc := 59) (As := []) (rest := [.ref a5, .ref b]) X d_Vol_init_59 lk_Vol_33 mi_Text (c_Text_init l D cI cB a5) ⟨(Nat.le_of_ble_eq_true rfl), (Nat.le_of_ble_eq_true rfl), (Nat.le_of_ble_eq_true rfl), (Nat.le_of_ble_eq_true rfl)⟩ 32 rfl rfl rfl (Nat.le_of_ble_eq_true rfl) (fun e1 ns hp => ?_)
  obtain ⟨a1_59, a1_11_59, rfl, rfl⟩ := hp
  refine x_w (w2 := [(b, .inr (5, [.ref a1, .ref a3, .ref a2, .ref a4, .null, .null, .null, .int (zi 0)])), (a1, .inr (0, [.ref a1_8, .ref a2_8, .ref a3_8, .ref a4_8, .ref a5_8, .ref a6_8, .ref a7_8])), (a1_8, zA cI 64 o_Disk.1), (a2_8, zA cI 64 (fun _ => 0)), (a3_8, zA cI 4 (fun _ => 0)), (a4_8, zA cI 96 o_Disk.2.1), (a5_8, zA cI 96 o_Disk.2.2), (a6_8, zA cB 96 (fun _ => 0)), (a7_8, .inr (3, [.ref a1_56_8, .ref a2_56_8, .int (zi 0)])), (a1_56_8, zA cI 32 (fun _ => 0)), (a2_56_8, zA cI 32 (fun _ => 0)), (a2, .inr (0, [.ref a1_16, .ref a2_16, .ref a3_16, .ref a4_16, .ref a5_16, .ref a6_16, .ref a7_16])), (a1_16, zA cI 64 o_Disk.1), (a2_16, zA cI 64 (fun _ => 0)), (a3_16, zA cI 4 (fun _ => 0)), (a4_16, zA cI 96 o_Disk.2.1), (a5_16, zA cI 96 o_Disk.2.2), (a6_16, zA cB 96 (fun _ => 0)), (a7_16, .inr (3, [.ref a1_56_16, .ref a2_56_16, .int (zi 0)])), (a1_56_16, zA cI 32 (fun _ => 0)), (a2_56_16, zA cI 32 (fun _ => 0)), (a3, .inr (0, [.ref a1_35, .ref a2_35, .ref a3_35, .ref a4_35, .ref a5_35, .ref a6_35, .ref a7_35])), (a1_35, zA cI 64 o_Disk.1), (a2_35, zA cI 64 (fun _ => 0)), (a3_35, zA cI 4 (fun _ => 0)), (a4_35, zA cI 96 o_Disk.2.1), (a5_35, zA cI 96 o_Disk.2.2), (a6_35, zA cB 96 (fun _ => 0)), (a7_35, .inr (3, [.ref a1_56_35, .ref a2_56_35, .int (zi 0)])), (a1_56_35, zA cI 32 (fun _ => 0)), (a2_56_35, zA cI 32 (fun _ => 0)), (a4, .inr (1, [.ref a1, .ref a2, .int (zi 0)])), (a5, .inr (4, [.ref a1_59])), (a1_59, .inr (2, [.ref a1_11_59, .int (zi 0)])), (a1_11_59, zA cI 96 (fun _ => 0))]) rfl ?_
  refine x_putF (pc := 62) (w2 := [(b, .inr (5, [.ref a1, .ref a3, .ref a2, .ref a4, .ref a5, .null, .null, .int (zi 0)])), (a1, .inr (0, [.ref a1_8, .ref a2_8, .ref a3_8, .ref a4_8, .ref a5_8, .ref a6_8, .ref a7_8])), (a1_8, zA cI 64 o_Disk.1), (a2_8, zA cI 64 (fun _ => 0)), (a3_8, zA cI 4 (fun _ => 0)), (a4_8, zA cI 96 o_Disk.2.1), (a5_8, zA cI 96 o_Disk.2.2), (a6_8, zA cB 96 (fun _ => 0)), (a7_8, .inr (3, [.ref a1_56_8, .ref a2_56_8, .int (zi 0)])), (a1_56_8, zA cI 32 (fun _ => 0)), (a2_56_8, zA cI 32 (fun _ => 0)), (a2, .inr (0, [.ref a1_16, .ref a2_16, .ref a3_16, .ref a4_16, .ref a5_16, .ref a6_16, .ref a7_16])), (a1_16, zA cI 64 o_Disk.1), (a2_16, zA cI 64 (fun _ => 0)), (a3_16, zA cI 4 (fun _ => 0)), (a4_16, zA cI 96 o_Disk.2.1), (a5_16, zA cI 96 o_Disk.2.2), (a6_16, zA cB 96 (fun _ => 0)), (a7_16, .inr (3, [.ref a1_56_16, .ref a2_56_16, .int (zi 0)])), (a1_56_16, zA cI 32 (fun _ => 0)), (a2_56_16, zA cI 32 (fun _ => 0)), (a3, .inr (0, [.ref a1_35, .ref a2_35, .ref a3_35, .ref a4_35, .ref a5_35, .ref a6_35, .ref a7_35])), (a1_35, zA cI 64 o_Disk.1), (a2_35, zA cI 64 (fun _ => 0)), (a3_35, zA cI 4 (fun _ => 0)), (a4_35, zA cI 96 o_Disk.2.1), (a5_35, zA cI 96 o_Disk.2.2), (a6_35, zA cB 96 (fun _ => 0)), (a7_35, .inr (3, [.ref a1_56_35, .ref a2_56_35, .int (zi 0)])), (a1_56_35, zA cI 32 (fun _ => 0)), (a2_56_35, zA cI 32 (fun _ => 0)), (a4, .inr (1, [.ref a1, .ref a2, .int (zi 0)])), (a5, .inr (4, [.ref a1_59])), (a1_59, .inr (2, [.ref a1_11_59, .int (zi 0)])), (a1_11_59, zA cI 96 (fun _ => 0))]) X hI d_Vol_init_62 0 rfl (ff_Vol_34 _) (Nat.le_of_ble_eq_true rfl) rfl ?_
  refine x_aload_n (pc := 65) X d_Vol_init_65 2 rfl rfl ?_
  refine x_new (pc := 66) X d_Vol_init_66 nw_Vol_38 ⟨(Nat.le_of_ble_eq_true rfl), (Nat.le_of_ble_eq_true rfl)⟩ (fun a6 => ?_)
  refine x_w (w2 := [(b, .inr (5, [.ref a1, .ref a3, .ref a2, .ref a4, .ref a5, .null, .null, .int (zi 0)])), (a1, .inr (0, [.ref a1_8, .ref a2_8, .ref a3_8, .ref a4_8, .ref a5_8, .ref a6_8, .ref a7_8])), (a1_8, zA cI 64 o_Disk.1), (a2_8, zA cI 64 (fun _ => 0)), (a3_8, zA cI 4 (fun _ => 0)), (a4_8, zA cI 96 o_Disk.2.1), (a5_8, zA cI 96 o_Disk.2.2), (a6_8, zA cB 96 (fun _ => 0)), (a7_8, .inr (3, [.ref a1_56_8, .ref a2_56_8, .int (zi 0)])), (a1_56_8, zA cI 32 (fun _ => 0)), (a2_56_8, zA cI 32 (fun _ => 0)), (a2, .inr (0, [.ref a1_16, .ref a2_16, .ref a3_16, .ref a4_16, .ref a5_16, .ref a6_16, .ref a7_16])), (a1_16, zA cI 64 o_Disk.1), (a2_16, zA cI 64 (fun _ => 0)), (a3_16, zA cI 4 (fun _ => 0)), (a4_16, zA cI 96 o_Disk.2.1), (a5_16, zA cI 96 o_Disk.2.2), (a6_16, zA cB 96 (fun _ => 0)), (a7_16, .inr (3, [.ref a1_56_16, .ref a2_56_16, .int (zi 0)])), (a1_56_16, zA cI 32 (fun _ => 0)), (a2_56_16, zA cI 32 (fun _ => 0)), (a3, .inr (0, [.ref a1_35, .ref a2_35, .ref a3_35, .ref a4_35, .ref a5_35, .ref a6_35, .ref a7_35])), (a1_35, zA cI 64 o_Disk.1), (a2_35, zA cI 64 (fun _ => 0)), (a3_35, zA cI 4 (fun _ => 0)), (a4_35, zA cI 96 o_Disk.2.1), (a5_35, zA cI 96 o_Disk.2.2), (a6_35, zA cB 96 (fun _ => 0)), (a7_35, .inr (3, [.ref a1_56_35, .ref a2_56_35, .int (zi 0)])), (a1_56_35, zA cI 32 (fun _ => 0)), (a2_56_35, zA cI 32 (fun _ => 0)), (a4, .inr (1, [.ref a1, .ref a2, .int (zi 0)])), (a5, .inr (4, [.ref a1_59])), (a1_59, .inr (2, [.ref a1_11_59, .int (zi 0)])), (a1_11_59, zA cI 96 (fun _ => 0)), (a6, .inr (2, [.null, .int (zi 0)]))]) rfl ?_
  refine x_dup (pc := 69) X d_Vol_init_69 rfl ?_
  refine x_bipush (pc := 70) (v := 32) X d_Vol_init_70 rfl ?_
  refine x_callI (pc := 72) (As := [.int (zi 32)]) (rest := [.ref a6, .ref b]) X d_Vol_init_72 lk_Vol_40 mi_Row (c_Row_32_init l D cI cB a6) ⟨(Nat.le_of_ble_eq_true rfl), (Nat.le_of_ble_eq_true rfl), (Nat.le_of_ble_eq_true rfl), (Nat.le_of_ble_eq_true rfl)⟩ 35 rfl rfl rfl (Nat.le_of_ble_eq_true rfl) (fun e1 ns hp => ?_)
  obtain ⟨a1_72, rfl, rfl⟩ := hp
  refine x_w (w2 := [(b, .inr (5, [.ref a1, .ref a3, .ref a2, .ref a4, .ref a5, .null, .null, .int (zi 0)])), (a1, .inr (0, [.ref a1_8, .ref a2_8, .ref a3_8, .ref a4_8, .ref a5_8, .ref a6_8, .ref a7_8])), (a1_8, zA cI 64 o_Disk.1), (a2_8, zA cI 64 (fun _ => 0)), (a3_8, zA cI 4 (fun _ => 0)), (a4_8, zA cI 96 o_Disk.2.1), (a5_8, zA cI 96 o_Disk.2.2), (a6_8, zA cB 96 (fun _ => 0)), (a7_8, .inr (3, [.ref a1_56_8, .ref a2_56_8, .int (zi 0)])), (a1_56_8, zA cI 32 (fun _ => 0)), (a2_56_8, zA cI 32 (fun _ => 0)), (a2, .inr (0, [.ref a1_16, .ref a2_16, .ref a3_16, .ref a4_16, .ref a5_16, .ref a6_16, .ref a7_16])), (a1_16, zA cI 64 o_Disk.1), (a2_16, zA cI 64 (fun _ => 0)), (a3_16, zA cI 4 (fun _ => 0)), (a4_16, zA cI 96 o_Disk.2.1), (a5_16, zA cI 96 o_Disk.2.2), (a6_16, zA cB 96 (fun _ => 0)), (a7_16, .inr (3, [.ref a1_56_16, .ref a2_56_16, .int (zi 0)])), (a1_56_16, zA cI 32 (fun _ => 0)), (a2_56_16, zA cI 32 (fun _ => 0)), (a3, .inr (0, [.ref a1_35, .ref a2_35, .ref a3_35, .ref a4_35, .ref a5_35, .ref a6_35, .ref a7_35])), (a1_35, zA cI 64 o_Disk.1), (a2_35, zA cI 64 (fun _ => 0)), (a3_35, zA cI 4 (fun _ => 0)), (a4_35, zA cI 96 o_Disk.2.1), (a5_35, zA cI 96 o_Disk.2.2), (a6_35, zA cB 96 (fun _ => 0)), (a7_35, .inr (3, [.ref a1_56_35, .ref a2_56_35, .int (zi 0)])), (a1_56_35, zA cI 32 (fun _ => 0)), (a2_56_35, zA cI 32 (fun _ => 0)), (a4, .inr (1, [.ref a1, .ref a2, .int (zi 0)])), (a5, .inr (4, [.ref a1_59])), (a1_59, .inr (2, [.ref a1_11_59, .int (zi 0)])), (a1_11_59, zA cI 96 (fun _ => 0)), (a6, .inr (2, [.ref a1_72, .int (zi 0)])), (a1_72, zA cI 32 (fun _ => 0))]) rfl ?_
  refine x_putF (pc := 75) (w2 := [(b, .inr (5, [.ref a1, .ref a3, .ref a2, .ref a4, .ref a5, .ref a6, .null, .int (zi 0)])), (a1, .inr (0, [.ref a1_8, .ref a2_8, .ref a3_8, .ref a4_8, .ref a5_8, .ref a6_8, .ref a7_8])), (a1_8, zA cI 64 o_Disk.1), (a2_8, zA cI 64 (fun _ => 0)), (a3_8, zA cI 4 (fun _ => 0)), (a4_8, zA cI 96 o_Disk.2.1), (a5_8, zA cI 96 o_Disk.2.2), (a6_8, zA cB 96 (fun _ => 0)), (a7_8, .inr (3, [.ref a1_56_8, .ref a2_56_8, .int (zi 0)])), (a1_56_8, zA cI 32 (fun _ => 0)), (a2_56_8, zA cI 32 (fun _ => 0)), (a2, .inr (0, [.ref a1_16, .ref a2_16, .ref a3_16, .ref a4_16, .ref a5_16, .ref a6_16, .ref a7_16])), (a1_16, zA cI 64 o_Disk.1), (a2_16, zA cI 64 (fun _ => 0)), (a3_16, zA cI 4 (fun _ => 0)), (a4_16, zA cI 96 o_Disk.2.1), (a5_16, zA cI 96 o_Disk.2.2), (a6_16, zA cB 96 (fun _ => 0)), (a7_16, .inr (3, [.ref a1_56_16, .ref a2_56_16, .int (zi 0)])), (a1_56_16, zA cI 32 (fun _ => 0)), (a2_56_16, zA cI 32 (fun _ => 0)), (a3, .inr (0, [.ref a1_35, .ref a2_35, .ref a3_35, .ref a4_35, .ref a5_35, .ref a6_35, .ref a7_35])), (a1_35, zA cI 64 o_Disk.1), (a2_35, zA cI 64 (fun _ => 0)), (a3_35, zA cI 4 (fun _ => 0)), (a4_35, zA cI 96 o_Disk.2.1), (a5_35, zA cI 96 o_Disk.2.2), (a6_35, zA cB 96 (fun _ => 0)), (a7_35, .inr (3, [.ref a1_56_35, .ref a2_56_35, .int (zi 0)])), (a1_56_35, zA cI 32 (fun _ => 0)), (a2_56_35, zA cI 32 (fun _ => 0)), (a4, .inr (1, [.ref a1, .ref a2, .int (zi 0)])), (a5, .inr (4, [.ref a1_59])), (a1_59, .inr (2, [.ref a1_11_59, .int (zi 0)])), (a1_11_59, zA cI 96 (fun _ => 0)), (a6, .inr (2, [.ref a1_72, .int (zi 0)])), (a1_72, zA cI 32 (fun _ => 0))]) X hI d_Vol_init_75 0 rfl (ff_Vol_43 _) (Nat.le_of_ble_eq_true rfl) rfl ?_
  refine x_aload_n (pc := 78) X d_Vol_init_78 2 rfl rfl ?_
  refine x_bipush (pc := 79) (v := 7) X d_Vol_init_79 rfl ?_
  refine x_newa (pc := 81) (N := 7) X d_Vol_init_81 rfl (Nat.le_of_ble_eq_true rfl) ⟨(Nat.le_of_ble_eq_true rfl), (Nat.le_of_ble_eq_true rfl)⟩ (fun a7 => ?_)
  refine x_w (w2 := [(b, .inr (5, [.ref a1, .ref a3, .ref a2, .ref a4, .ref a5, .ref a6, .null, .int (zi 0)])), (a1, .inr (0, [.ref a1_8, .ref a2_8, .ref a3_8, .ref a4_8, .ref a5_8, .ref a6_8, .ref a7_8])), (a1_8, zA cI 64 o_Disk.1), (a2_8, zA cI 64 (fun _ => 0)), (a3_8, zA cI 4 (fun _ => 0)), (a4_8, zA cI 96 o_Disk.2.1), (a5_8, zA cI 96 o_Disk.2.2), (a6_8, zA cB 96 (fun _ => 0)), (a7_8, .inr (3, [.ref a1_56_8, .ref a2_56_8, .int (zi 0)])), (a1_56_8, zA cI 32 (fun _ => 0)), (a2_56_8, zA cI 32 (fun _ => 0)), (a2, .inr (0, [.ref a1_16, .ref a2_16, .ref a3_16, .ref a4_16, .ref a5_16, .ref a6_16, .ref a7_16])), (a1_16, zA cI 64 o_Disk.1), (a2_16, zA cI 64 (fun _ => 0)), (a3_16, zA cI 4 (fun _ => 0)), (a4_16, zA cI 96 o_Disk.2.1), (a5_16, zA cI 96 o_Disk.2.2), (a6_16, zA cB 96 (fun _ => 0)), (a7_16, .inr (3, [.ref a1_56_16, .ref a2_56_16, .int (zi 0)])), (a1_56_16, zA cI 32 (fun _ => 0)), (a2_56_16, zA cI 32 (fun _ => 0)), (a3, .inr (0, [.ref a1_35, .ref a2_35, .ref a3_35, .ref a4_35, .ref a5_35, .ref a6_35, .ref a7_35])), (a1_35, zA cI 64 o_Disk.1), (a2_35, zA cI 64 (fun _ => 0)), (a3_35, zA cI 4 (fun _ => 0)), (a4_35, zA cI 96 o_Disk.2.1), (a5_35, zA cI 96 o_Disk.2.2), (a6_35, zA cB 96 (fun _ => 0)), (a7_35, .inr (3, [.ref a1_56_35, .ref a2_56_35, .int (zi 0)])), (a1_56_35, zA cI 32 (fun _ => 0)), (a2_56_35, zA cI 32 (fun _ => 0)), (a4, .inr (1, [.ref a1, .ref a2, .int (zi 0)])), (a5, .inr (4, [.ref a1_59])), (a1_59, .inr (2, [.ref a1_11_59, .int (zi 0)])), (a1_11_59, zA cI 96 (fun _ => 0)), (a6, .inr (2, [.ref a1_72, .int (zi 0)])), (a1_72, zA cI 32 (fun _ => 0)), (a7, zA cI 7 (fun _ => 0))]) rfl ?_
  refine x_putF (pc := 83) (w2 := [(b, .inr (5, [.ref a1, .ref a3, .ref a2, .ref a4, .ref a5, .ref a6, .ref a7, .int (zi 0)])), (a1, .inr (0, [.ref a1_8, .ref a2_8, .ref a3_8, .ref a4_8, .ref a5_8, .ref a6_8, .ref a7_8])), (a1_8, zA cI 64 o_Disk.1), (a2_8, zA cI 64 (fun _ => 0)), (a3_8, zA cI 4 (fun _ => 0)), (a4_8, zA cI 96 o_Disk.2.1), (a5_8, zA cI 96 o_Disk.2.2), (a6_8, zA cB 96 (fun _ => 0)), (a7_8, .inr (3, [.ref a1_56_8, .ref a2_56_8, .int (zi 0)])), (a1_56_8, zA cI 32 (fun _ => 0)), (a2_56_8, zA cI 32 (fun _ => 0)), (a2, .inr (0, [.ref a1_16, .ref a2_16, .ref a3_16, .ref a4_16, .ref a5_16, .ref a6_16, .ref a7_16])), (a1_16, zA cI 64 o_Disk.1), (a2_16, zA cI 64 (fun _ => 0)), (a3_16, zA cI 4 (fun _ => 0)), (a4_16, zA cI 96 o_Disk.2.1), (a5_16, zA cI 96 o_Disk.2.2), (a6_16, zA cB 96 (fun _ => 0)), (a7_16, .inr (3, [.ref a1_56_16, .ref a2_56_16, .int (zi 0)])), (a1_56_16, zA cI 32 (fun _ => 0)), (a2_56_16, zA cI 32 (fun _ => 0)), (a3, .inr (0, [.ref a1_35, .ref a2_35, .ref a3_35, .ref a4_35, .ref a5_35, .ref a6_35, .ref a7_35])), (a1_35, zA cI 64 o_Disk.1), (a2_35, zA cI 64 (fun _ => 0)), (a3_35, zA cI 4 (fun _ => 0)), (a4_35, zA cI 96 o_Disk.2.1), (a5_35, zA cI 96 o_Disk.2.2), (a6_35, zA cB 96 (fun _ => 0)), (a7_35, .inr (3, [.ref a1_56_35, .ref a2_56_35, .int (zi 0)])), (a1_56_35, zA cI 32 (fun _ => 0)), (a2_56_35, zA cI 32 (fun _ => 0)), (a4, .inr (1, [.ref a1, .ref a2, .int (zi 0)])), (a5, .inr (4, [.ref a1_59])), (a1_59, .inr (2, [.ref a1_11_59, .int (zi 0)])), (a1_11_59, zA cI 96 (fun _ => 0)), (a6, .inr (2, [.ref a1_72, .int (zi 0)])), (a1_72, zA cI 32 (fun _ => 0)), (a7, zA cI 7 (fun _ => 0))]) X hI d_Vol_init_83 0 rfl (ff_Vol_47 _) (Nat.le_of_ble_eq_true rfl) rfl ?_
  refine x_aload_n (pc := 86) X d_Vol_init_86 2 rfl rfl ?_
  refine x_iconst (pc := 87) X d_Vol_init_87 ?_
  refine x_put (pc := 88) (w2 := [(b, .inr (5, [.ref a1, .ref a3, .ref a2, .ref a4, .ref a5, .ref a6, .ref a7, .int (zi 0)])), (a1, .inr (0, [.ref a1_8, .ref a2_8, .ref a3_8, .ref a4_8, .ref a5_8, .ref a6_8, .ref a7_8])), (a1_8, zA cI 64 o_Disk.1), (a2_8, zA cI 64 (fun _ => 0)), (a3_8, zA cI 4 (fun _ => 0)), (a4_8, zA cI 96 o_Disk.2.1), (a5_8, zA cI 96 o_Disk.2.2), (a6_8, zA cB 96 (fun _ => 0)), (a7_8, .inr (3, [.ref a1_56_8, .ref a2_56_8, .int (zi 0)])), (a1_56_8, zA cI 32 (fun _ => 0)), (a2_56_8, zA cI 32 (fun _ => 0)), (a2, .inr (0, [.ref a1_16, .ref a2_16, .ref a3_16, .ref a4_16, .ref a5_16, .ref a6_16, .ref a7_16])), (a1_16, zA cI 64 o_Disk.1), (a2_16, zA cI 64 (fun _ => 0)), (a3_16, zA cI 4 (fun _ => 0)), (a4_16, zA cI 96 o_Disk.2.1), (a5_16, zA cI 96 o_Disk.2.2), (a6_16, zA cB 96 (fun _ => 0)), (a7_16, .inr (3, [.ref a1_56_16, .ref a2_56_16, .int (zi 0)])), (a1_56_16, zA cI 32 (fun _ => 0)), (a2_56_16, zA cI 32 (fun _ => 0)), (a3, .inr (0, [.ref a1_35, .ref a2_35, .ref a3_35, .ref a4_35, .ref a5_35, .ref a6_35, .ref a7_35])), (a1_35, zA cI 64 o_Disk.1), (a2_35, zA cI 64 (fun _ => 0)), (a3_35, zA cI 4 (fun _ => 0)), (a4_35, zA cI 96 o_Disk.2.1), (a5_35, zA cI 96 o_Disk.2.2), (a6_35, zA cB 96 (fun _ => 0)), (a7_35, .inr (3, [.ref a1_56_35, .ref a2_56_35, .int (zi 0)])), (a1_56_35, zA cI 32 (fun _ => 0)), (a2_56_35, zA cI 32 (fun _ => 0)), (a4, .inr (1, [.ref a1, .ref a2, .int (zi 0)])), (a5, .inr (4, [.ref a1_59])), (a1_59, .inr (2, [.ref a1_11_59, .int (zi 0)])), (a1_11_59, zA cI 96 (fun _ => 0)), (a6, .inr (2, [.ref a1_72, .int (zi 0)])), (a1_72, zA cI 32 (fun _ => 0)), (a7, zA cI 7 (fun _ => 0))]) X d_Vol_init_88 0 rfl (fp_Vol_51 _ (Or.inl rfl)) (Nat.le_of_ble_eq_true rfl) rfl ?_
  exact x_iniret (pc := 91) X hR d_Vol_init_91 ⟨_, _, _, _, _, _, _, _, _, _, _, _, _, _, _, _, _, _, _, _, _, _, _, _, _, _, _, _, _, _, _, _, _, _, _, _, _, rfl, rfl⟩
def m_Mod_init_126 : Nat → Int → (Int → Int) → Option (Int → Int)
  | 0, _, _ => none
  | fuel + 1, v1, f1 =>
  clt v1 64 (gd (zx v1 64) (m_Mod_init_126 fuel (v1 + 1) (uf f1 v1 (-9)))) (some (f1))
def m_Mod_init_148 : Nat → Int → (Int → Int) → (Int → Int) → Option ((Int → Int) × (Int → Int))
  | 0, _, _, _ => none
  | fuel + 1, v1, f1, f2 =>
  clt v1 96 (gd (zx v1 96) (gd (zx v1 96) (m_Mod_init_148 fuel (v1 + 1) (uf f1 v1 (-9)) (uf f2 v1 (-9))))) (some (f1, f2))
def m_Mod_init : Option ((Int → Int) × (Int → Int) × (Int → Int)) := bnd (m_Mod_init_126 5000 0 (fun _ => 0)) (fun o126 => bnd (m_Mod_init_148 5000 0 (fun _ => 0) (fun _ => 0)) (fun o148 => some (o126, o148.1, o148.2)))
def post_Mod (cI cB : ClassId) (o : (Int → Int) × (Int → Int) × (Int → Int)) (e1 : va_E) (ns : va_W) : Prop := ∃ a1 a2 a3 a4 a5 a6 a7 a8 a9 a10 a11 a12 a13 a14 a15 : Nat, e1 = .inr (6, [.ref a1, .ref a2, .ref a3, .ref a4, .ref a5, .ref a6, .ref a7, .int (zi 0), .int (zi 0), .ref a8, .ref a9, .ref a10, .ref a11, .int (zi 0), .int (zi 0), .int (zi 0), .int (zi 0), .ref a12, .int (zi 0), .int (zi 0), .int (zi 0), .ref a13, .ref a14, .ref a15, .int (zi 0), .int (zi 0)]) ∧ ns = [(a1, zA cI 7 (fun _ => 0)), (a2, zA cI 64 (fun _ => 0)), (a3, zA cI 64 o.1), (a4, zA cI 96 o.2.1), (a5, zA cI 96 (fun _ => 0)), (a6, zA cI 96 o.2.2), (a7, zA cI 4 (fun _ => 0)), (a8, zA cI 96 (fun _ => 0)), (a9, zA cI 33 (fun _ => 0)), (a10, zA cI 33 (fun _ => 0)), (a11, zA cI 99 (fun _ => 0)), (a12, zA cI 1260 (fun _ => 0)), (a13, zA cI 96 (fun _ => 0)), (a14, zA cI 8 (fun _ => 0)), (a15, zA cI 32 (fun _ => 0))]
set_option maxHeartbeats 4000000 in
set_option maxRecDepth 100000 in
theorem l_Mod_init_126 {G : GT} {l : Launch} {D : va_G} {cI cB : ClassId} {rm : Room} {k n : Nat} {b a1 a2 a3 a4 a5 a6 a7 a8 a9 a10 a11 a12 a13 a14 a15 : Nat} (X : Cx G l D cI cB b_Mod_init zc_Mod 2 rm) : ∀ (fuel : Nat) (v1 : Int) (f1 : Int → Int) (o : Int → Int), m_Mod_init_126 fuel v1 f1 = some o → (∀ v : Int, Wx G k n 146 [(1, .int (zi v)), (0, .ref b)] [] [(b, .inr (6, [.ref a1, .ref a2, .ref a3, .ref a4, .ref a5, .ref a6, .ref a7, .int (zi 0), .int (zi 0), .ref a8, .ref a9, .ref a10, .ref a11, .int (zi 0), .int (zi 0), .int (zi 0), .int (zi 0), .ref a12, .int (zi 0), .int (zi 0), .int (zi 0), .ref a13, .ref a14, .ref a15, .int (zi 0), .int (zi 0)])), (a1, zA cI 7 (fun _ => 0)), (a2, zA cI 64 (fun _ => 0)), (a3, zA cI 64 o), (a4, zA cI 96 (fun _ => 0)), (a5, zA cI 96 (fun _ => 0)), (a6, zA cI 96 (fun _ => 0)), (a7, zA cI 4 (fun _ => 0)), (a8, zA cI 96 (fun _ => 0)), (a9, zA cI 33 (fun _ => 0)), (a10, zA cI 33 (fun _ => 0)), (a11, zA cI 99 (fun _ => 0)), (a12, zA cI 1260 (fun _ => 0)), (a13, zA cI 96 (fun _ => 0)), (a14, zA cI 8 (fun _ => 0)), (a15, zA cI 32 (fun _ => 0))]) → Wx G k n 126 [(1, .int (zi v1)), (0, .ref b)] [] [(b, .inr (6, [.ref a1, .ref a2, .ref a3, .ref a4, .ref a5, .ref a6, .ref a7, .int (zi 0), .int (zi 0), .ref a8, .ref a9, .ref a10, .ref a11, .int (zi 0), .int (zi 0), .int (zi 0), .int (zi 0), .ref a12, .int (zi 0), .int (zi 0), .int (zi 0), .ref a13, .ref a14, .ref a15, .int (zi 0), .int (zi 0)])), (a1, zA cI 7 (fun _ => 0)), (a2, zA cI 64 (fun _ => 0)), (a3, zA cI 64 f1), (a4, zA cI 96 (fun _ => 0)), (a5, zA cI 96 (fun _ => 0)), (a6, zA cI 96 (fun _ => 0)), (a7, zA cI 4 (fun _ => 0)), (a8, zA cI 96 (fun _ => 0)), (a9, zA cI 33 (fun _ => 0)), (a10, zA cI 33 (fun _ => 0)), (a11, zA cI 99 (fun _ => 0)), (a12, zA cI 1260 (fun _ => 0)), (a13, zA cI 96 (fun _ => 0)), (a14, zA cI 8 (fun _ => 0)), (a15, zA cI 32 (fun _ => 0))] := by
  intro fuel
  induction fuel with
  | zero =>
    intro v1 f1 o h
    exact absurd h (by simp [m_Mod_init_126])
  | succ fuel ih =>
    intro v1 f1 o h hk
    rw [m_Mod_init_126] at h
    refine x_iload_n (pc := 126) X d_Mod_init_126 0 rfl rfl ?_
    refine x_bipush (pc := 127) (v := 64) X d_Mod_init_127 rfl ?_
    refine x_icmpge (pc := 129) (tgt := 146) X d_Mod_init_129 rfl h (fun h => ?_) (fun h => ?_)
    · skip
      cases h
      exact hk _
    · skip
      refine x_aload_n (pc := 132) X d_Mod_init_132 1 rfl rfl ?_
      refine x_get (pc := 133) X d_Mod_init_133 0 rfl fl_Mod_16 rfl ?_
      refine x_iload_n (pc := 136) X d_Mod_init_136 0 rfl rfl ?_
      refine x_bipush (pc := 137) (v := -9) X d_Mod_init_137 rfl ?_
      refine x_iast (pc := 139) (w2 := [(b, .inr (6, [.ref a1, .ref a2, .ref a3, .ref a4, .ref a5, .ref a6, .ref a7, .int (zi 0), .int (zi 0), .ref a8, .ref a9, .ref a10, .ref a11, .int (zi 0), .int (zi 0), .int (zi 0), .int (zi 0), .ref a12, .int (zi 0), .int (zi 0), .int (zi 0), .ref a13, .ref a14, .ref a15, .int (zi 0), .int (zi 0)])), (a1, zA cI 7 (fun _ => 0)), (a2, zA cI 64 (fun _ => 0)), (a3, zA cI 64 (uf f1 v1 (-9))), (a4, zA cI 96 (fun _ => 0)), (a5, zA cI 96 (fun _ => 0)), (a6, zA cI 96 (fun _ => 0)), (a7, zA cI 4 (fun _ => 0)), (a8, zA cI 96 (fun _ => 0)), (a9, zA cI 33 (fun _ => 0)), (a10, zA cI 33 (fun _ => 0)), (a11, zA cI 99 (fun _ => 0)), (a12, zA cI 1260 (fun _ => 0)), (a13, zA cI 96 (fun _ => 0)), (a14, zA cI 8 (fun _ => 0)), (a15, zA cI 32 (fun _ => 0))]) X d_Mod_init_139 3 rfl (Nat.le_of_ble_eq_true rfl) rfl rfl h (fun h => ?_)
      refine x_iinc (pc := 140) (ls2 := [(1, .int (zi (v1 + 1))), (0, .ref b)]) X d_Mod_init_140 0 (Nat.le_of_ble_eq_true rfl) rfl rfl ?_
      refine x_goto (pc := 143) (tgt := 126) X d_Mod_init_143 rfl ?_
      exact ih (v1 + 1) (uf f1 v1 (-9)) o h hk
set_option maxHeartbeats 4000000 in
set_option maxRecDepth 100000 in
theorem l_Mod_init_148 {G : GT} {l : Launch} {D : va_G} {cI cB : ClassId} {rm : Room} {k n : Nat} {b a1 a2 a3 a4 a5 a6 a7 a8 a9 a10 a11 a12 a13 a14 a15 : Nat} {o126 : Int → Int} (X : Cx G l D cI cB b_Mod_init zc_Mod 2 rm) : ∀ (fuel : Nat) (v1 : Int) (f1 f2 : Int → Int) (o : (Int → Int) × (Int → Int)), m_Mod_init_148 fuel v1 f1 f2 = some o → (∀ v : Int, Wx G k n 176 [(1, .int (zi v)), (0, .ref b)] [] [(b, .inr (6, [.ref a1, .ref a2, .ref a3, .ref a4, .ref a5, .ref a6, .ref a7, .int (zi 0), .int (zi 0), .ref a8, .ref a9, .ref a10, .ref a11, .int (zi 0), .int (zi 0), .int (zi 0), .int (zi 0), .ref a12, .int (zi 0), .int (zi 0), .int (zi 0), .ref a13, .ref a14, .ref a15, .int (zi 0), .int (zi 0)])), (a1, zA cI 7 (fun _ => 0)), (a2, zA cI 64 (fun _ => 0)), (a3, zA cI 64 o126), (a4, zA cI 96 o.1), (a5, zA cI 96 (fun _ => 0)), (a6, zA cI 96 o.2), (a7, zA cI 4 (fun _ => 0)), (a8, zA cI 96 (fun _ => 0)), (a9, zA cI 33 (fun _ => 0)), (a10, zA cI 33 (fun _ => 0)), (a11, zA cI 99 (fun _ => 0)), (a12, zA cI 1260 (fun _ => 0)), (a13, zA cI 96 (fun _ => 0)), (a14, zA cI 8 (fun _ => 0)), (a15, zA cI 32 (fun _ => 0))]) → Wx G k n 148 [(1, .int (zi v1)), (0, .ref b)] [] [(b, .inr (6, [.ref a1, .ref a2, .ref a3, .ref a4, .ref a5, .ref a6, .ref a7, .int (zi 0), .int (zi 0), .ref a8, .ref a9, .ref a10, .ref a11, .int (zi 0), .int (zi 0), .int (zi 0), .int (zi 0), .ref a12, .int (zi 0), .int (zi 0), .int (zi 0), .ref a13, .ref a14, .ref a15, .int (zi 0), .int (zi 0)])), (a1, zA cI 7 (fun _ => 0)), (a2, zA cI 64 (fun _ => 0)), (a3, zA cI 64 o126), (a4, zA cI 96 f1), (a5, zA cI 96 (fun _ => 0)), (a6, zA cI 96 f2), (a7, zA cI 4 (fun _ => 0)), (a8, zA cI 96 (fun _ => 0)), (a9, zA cI 33 (fun _ => 0)), (a10, zA cI 33 (fun _ => 0)), (a11, zA cI 99 (fun _ => 0)), (a12, zA cI 1260 (fun _ => 0)), (a13, zA cI 96 (fun _ => 0)), (a14, zA cI 8 (fun _ => 0)), (a15, zA cI 32 (fun _ => 0))] := by
  intro fuel
  induction fuel with
  | zero =>
    intro v1 f1 f2 o h
    exact absurd h (by simp [m_Mod_init_148])
  | succ fuel ih =>
    intro v1 f1 f2 o h hk
    rw [m_Mod_init_148] at h
    refine x_iload_n (pc := 148) X d_Mod_init_148 0 rfl rfl ?_
    refine x_bipush (pc := 149) (v := 96) X d_Mod_init_149 rfl ?_
    refine x_icmpge (pc := 151) (tgt := 176) X d_Mod_init_151 rfl h (fun h => ?_) (fun h => ?_)
    · skip
      cases h
      exact hk _
    · skip
      refine x_aload_n (pc := 154) X d_Mod_init_154 1 rfl rfl ?_
      refine x_get (pc := 155) X d_Mod_init_155 0 rfl fl_Mod_19 rfl ?_
      refine x_iload_n (pc := 158) X d_Mod_init_158 0 rfl rfl ?_
      refine x_bipush (pc := 159) (v := -9) X d_Mod_init_159 rfl ?_
      refine x_iast (pc := 161) (w2 := [(b, .inr (6, [.ref a1, .ref a2, .ref a3, .ref a4, .ref a5, .ref a6, .ref a7, .int (zi 0), .int (zi 0), .ref a8, .ref a9, .ref a10, .ref a11, .int (zi 0), .int (zi 0), .int (zi 0), .int (zi 0), .ref a12, .int (zi 0), .int (zi 0), .int (zi 0), .ref a13, .ref a14, .ref a15, .int (zi 0), .int (zi 0)])), (a1, zA cI 7 (fun _ => 0)), (a2, zA cI 64 (fun _ => 0)), (a3, zA cI 64 o126), (a4, zA cI 96 (uf f1 v1 (-9))), (a5, zA cI 96 (fun _ => 0)), (a6, zA cI 96 f2), (a7, zA cI 4 (fun _ => 0)), (a8, zA cI 96 (fun _ => 0)), (a9, zA cI 33 (fun _ => 0)), (a10, zA cI 33 (fun _ => 0)), (a11, zA cI 99 (fun _ => 0)), (a12, zA cI 1260 (fun _ => 0)), (a13, zA cI 96 (fun _ => 0)), (a14, zA cI 8 (fun _ => 0)), (a15, zA cI 32 (fun _ => 0))]) X d_Mod_init_161 4 rfl (Nat.le_of_ble_eq_true rfl) rfl rfl h (fun h => ?_)
      refine x_aload_n (pc := 162) X d_Mod_init_162 1 rfl rfl ?_
      refine x_get (pc := 163) X d_Mod_init_163 0 rfl fl_Mod_25 rfl ?_
      refine x_iload_n (pc := 166) X d_Mod_init_166 0 rfl rfl ?_
      refine x_bipush (pc := 167) (v := -9) X d_Mod_init_167 rfl ?_
      refine x_iast (pc := 169) (w2 := [(b, .inr (6, [.ref a1, .ref a2, .ref a3, .ref a4, .ref a5, .ref a6, .ref a7, .int (zi 0), .int (zi 0), .ref a8, .ref a9, .ref a10, .ref a11, .int (zi 0), .int (zi 0), .int (zi 0), .int (zi 0), .ref a12, .int (zi 0), .int (zi 0), .int (zi 0), .ref a13, .ref a14, .ref a15, .int (zi 0), .int (zi 0)])), (a1, zA cI 7 (fun _ => 0)), (a2, zA cI 64 (fun _ => 0)), (a3, zA cI 64 o126), (a4, zA cI 96 (uf f1 v1 (-9))), (a5, zA cI 96 (fun _ => 0)), (a6, zA cI 96 (uf f2 v1 (-9))), (a7, zA cI 4 (fun _ => 0)), (a8, zA cI 96 (fun _ => 0)), (a9, zA cI 33 (fun _ => 0)), (a10, zA cI 33 (fun _ => 0)), (a11, zA cI 99 (fun _ => 0)), (a12, zA cI 1260 (fun _ => 0)), (a13, zA cI 96 (fun _ => 0)), (a14, zA cI 8 (fun _ => 0)), (a15, zA cI 32 (fun _ => 0))]) X d_Mod_init_169 6 rfl (Nat.le_of_ble_eq_true rfl) rfl rfl h (fun h => ?_)
      refine x_iinc (pc := 170) (ls2 := [(1, .int (zi (v1 + 1))), (0, .ref b)]) X d_Mod_init_170 0 (Nat.le_of_ble_eq_true rfl) rfl rfl ?_
      refine x_goto (pc := 173) (tgt := 148) X d_Mod_init_173 rfl ?_
      exact ih (v1 + 1) (uf f1 v1 (-9)) (uf f2 v1 (-9)) o h hk
set_option maxHeartbeats 4000000 in
set_option maxRecDepth 100000 in
theorem c_Mod_init (l : Launch) (D : va_G) (cI cB : ClassId) (b : Nat) {o : (Int → Int) × (Int → Int) × (Int → Int)} (h : m_Mod_init = some o) : Ci l D cI cB y_Mod_init b_Mod_init 2 1 12 15 2084 [] b (.inr (6, [.null, .null, .null, .null, .null, .null, .null, .int (zi 0), .int (zi 0), .null, .null, .null, .null, .int (zi 0), .int (zi 0), .int (zi 0), .int (zi 0), .null, .int (zi 0), .int (zi 0), .int (zi 0), .null, .null, .null, .int (zi 0), .int (zi 0)])) (post_Mod cI cB o) := by
  unfold m_Mod_init at h
  obtain ⟨o126, h126, h⟩ := bnd_e h
  obtain ⟨o148, h148, h⟩ := bnd_e h
  cases h
  refine Ci.start (by decide) rfl (Nat.le_of_ble_eq_true rfl) (fun G X hI hR => ?_)
  refine x_ls (ls2 := [(0, .ref b)]) [0] rfl ?_
  refine x_aload_n (pc := 0) X d_Mod_init_0 0 rfl rfl ?_
  refine x_objInit (pc := 1) X d_Mod_init_1 (tm_4 _ (List.mem_of_getElem? (i := 36) rfl)) ⟨(Nat.le_of_ble_eq_true rfl), (Nat.le_of_ble_eq_true rfl)⟩ ?_
  refine x_aload_n (pc := 4) X d_Mod_init_4 0 rfl rfl ?_
  refine x_bipush (pc := 5) (v := 7) X d_Mod_init_5 rfl ?_
  refine x_newa (pc := 7) (N := 7) X d_Mod_init_7 rfl (Nat.le_of_ble_eq_true rfl) ⟨(Nat.le_of_ble_eq_true rfl), (Nat.le_of_ble_eq_true rfl)⟩ (fun a1 => ?_)
  refine x_w (w2 := [(b, .inr (6, [.null, .null, .null, .null, .null, .null, .null, .int (zi 0), .int (zi 0), .null, .null, .null, .null, .int (zi 0), .int (zi 0), .int (zi 0), .int (zi 0), .null, .int (zi 0), .int (zi 0), .int (zi 0), .null, .null, .null, .int (zi 0), .int (zi 0)])), (a1, zA cI 7 (fun _ => 0))]) rfl ?_
  refine x_putF (pc := 9) (w2 := [(b, .inr (6, [.ref a1, .null, .null, .null, .null, .null, .null, .int (zi 0), .int (zi 0), .null, .null, .null, .null, .int (zi 0), .int (zi 0), .int (zi 0), .int (zi 0), .null, .int (zi 0), .int (zi 0), .int (zi 0), .null, .null, .null, .int (zi 0), .int (zi 0)])), (a1, zA cI 7 (fun _ => 0))]) X hI d_Mod_init_9 0 rfl (ff_Mod_7 _) (Nat.le_of_ble_eq_true rfl) rfl ?_
  refine x_aload_n (pc := 12) X d_Mod_init_12 0 rfl rfl ?_
  refine x_bipush (pc := 13) (v := 64) X d_Mod_init_13 rfl ?_
  refine x_newa (pc := 15) (N := 64) X d_Mod_init_15 rfl (Nat.le_of_ble_eq_true rfl) ⟨(Nat.le_of_ble_eq_true rfl), (Nat.le_of_ble_eq_true rfl)⟩ (fun a2 => ?_)
  refine x_w (w2 := [(b, .inr (6, [.ref a1, .null, .null, .null, .null, .null, .null, .int (zi 0), .int (zi 0), .null, .null, .null, .null, .int (zi 0), .int (zi 0), .int (zi 0), .int (zi 0), .null, .int (zi 0), .int (zi 0), .int (zi 0), .null, .null, .null, .int (zi 0), .int (zi 0)])), (a1, zA cI 7 (fun _ => 0)), (a2, zA cI 64 (fun _ => 0))]) rfl ?_
  refine x_putF (pc := 17) (w2 := [(b, .inr (6, [.ref a1, .ref a2, .null, .null, .null, .null, .null, .int (zi 0), .int (zi 0), .null, .null, .null, .null, .int (zi 0), .int (zi 0), .int (zi 0), .int (zi 0), .null, .int (zi 0), .int (zi 0), .int (zi 0), .null, .null, .null, .int (zi 0), .int (zi 0)])), (a1, zA cI 7 (fun _ => 0)), (a2, zA cI 64 (fun _ => 0))]) X hI d_Mod_init_17 0 rfl (ff_Mod_13 _) (Nat.le_of_ble_eq_true rfl) rfl ?_
  refine x_aload_n (pc := 20) X d_Mod_init_20 0 rfl rfl ?_
  refine x_bipush (pc := 21) (v := 64) X d_Mod_init_21 rfl ?_
  refine x_newa (pc := 23) (N := 64) X d_Mod_init_23 rfl (Nat.le_of_ble_eq_true rfl) ⟨(Nat.le_of_ble_eq_true rfl), (Nat.le_of_ble_eq_true rfl)⟩ (fun a3 => ?_)
  refine x_w (w2 := [(b, .inr (6, [.ref a1, .ref a2, .null, .null, .null, .null, .null, .int (zi 0), .int (zi 0), .null, .null, .null, .null, .int (zi 0), .int (zi 0), .int (zi 0), .int (zi 0), .null, .int (zi 0), .int (zi 0), .int (zi 0), .null, .null, .null, .int (zi 0), .int (zi 0)])), (a1, zA cI 7 (fun _ => 0)), (a2, zA cI 64 (fun _ => 0)), (a3, zA cI 64 (fun _ => 0))]) rfl ?_
  refine x_putF (pc := 25) (w2 := [(b, .inr (6, [.ref a1, .ref a2, .ref a3, .null, .null, .null, .null, .int (zi 0), .int (zi 0), .null, .null, .null, .null, .int (zi 0), .int (zi 0), .int (zi 0), .int (zi 0), .null, .int (zi 0), .int (zi 0), .int (zi 0), .null, .null, .null, .int (zi 0), .int (zi 0)])), (a1, zA cI 7 (fun _ => 0)), (a2, zA cI 64 (fun _ => 0)), (a3, zA cI 64 (fun _ => 0))]) X hI d_Mod_init_25 0 rfl (ff_Mod_16 _) (Nat.le_of_ble_eq_true rfl) rfl ?_
  refine x_aload_n (pc := 28) X d_Mod_init_28 0 rfl rfl ?_
  refine x_bipush (pc := 29) (v := 96) X d_Mod_init_29 rfl ?_
  refine x_newa (pc := 31) (N := 96) X d_Mod_init_31 rfl (Nat.le_of_ble_eq_true rfl) ⟨(Nat.le_of_ble_eq_true rfl), (Nat.le_of_ble_eq_true rfl)⟩ (fun a4 => ?_)
  refine x_w (w2 := [(b, .inr (6, [.ref a1, .ref a2, .ref a3, .null, .null, .null, .null, .int (zi 0), .int (zi 0), .null, .null, .null, .null, .int (zi 0), .int (zi 0), .int (zi 0), .int (zi 0), .null, .int (zi 0), .int (zi 0), .int (zi 0), .null, .null, .null, .int (zi 0), .int (zi 0)])), (a1, zA cI 7 (fun _ => 0)), (a2, zA cI 64 (fun _ => 0)), (a3, zA cI 64 (fun _ => 0)), (a4, zA cI 96 (fun _ => 0))]) rfl ?_
  refine x_putF (pc := 33) (w2 := [(b, .inr (6, [.ref a1, .ref a2, .ref a3, .ref a4, .null, .null, .null, .int (zi 0), .int (zi 0), .null, .null, .null, .null, .int (zi 0), .int (zi 0), .int (zi 0), .int (zi 0), .null, .int (zi 0), .int (zi 0), .int (zi 0), .null, .null, .null, .int (zi 0), .int (zi 0)])), (a1, zA cI 7 (fun _ => 0)), (a2, zA cI 64 (fun _ => 0)), (a3, zA cI 64 (fun _ => 0)), (a4, zA cI 96 (fun _ => 0))]) X hI d_Mod_init_33 0 rfl (ff_Mod_19 _) (Nat.le_of_ble_eq_true rfl) rfl ?_
  refine x_aload_n (pc := 36) X d_Mod_init_36 0 rfl rfl ?_
  refine x_bipush (pc := 37) (v := 96) X d_Mod_init_37 rfl ?_
  refine x_newa (pc := 39) (N := 96) X d_Mod_init_39 rfl (Nat.le_of_ble_eq_true rfl) ⟨(Nat.le_of_ble_eq_true rfl), (Nat.le_of_ble_eq_true rfl)⟩ (fun a5 => ?_)
  refine x_w (w2 := [(b, .inr (6, [.ref a1, .ref a2, .ref a3, .ref a4, .null, .null, .null, .int (zi 0), .int (zi 0), .null, .null, .null, .null, .int (zi 0), .int (zi 0), .int (zi 0), .int (zi 0), .null, .int (zi 0), .int (zi 0), .int (zi 0), .null, .null, .null, .int (zi 0), .int (zi 0)])), (a1, zA cI 7 (fun _ => 0)), (a2, zA cI 64 (fun _ => 0)), (a3, zA cI 64 (fun _ => 0)), (a4, zA cI 96 (fun _ => 0)), (a5, zA cI 96 (fun _ => 0))]) rfl ?_
  refine x_putF (pc := 41) (w2 := [(b, .inr (6, [.ref a1, .ref a2, .ref a3, .ref a4, .ref a5, .null, .null, .int (zi 0), .int (zi 0), .null, .null, .null, .null, .int (zi 0), .int (zi 0), .int (zi 0), .int (zi 0), .null, .int (zi 0), .int (zi 0), .int (zi 0), .null, .null, .null, .int (zi 0), .int (zi 0)])), (a1, zA cI 7 (fun _ => 0)), (a2, zA cI 64 (fun _ => 0)), (a3, zA cI 64 (fun _ => 0)), (a4, zA cI 96 (fun _ => 0)), (a5, zA cI 96 (fun _ => 0))]) X hI d_Mod_init_41 0 rfl (ff_Mod_22 _) (Nat.le_of_ble_eq_true rfl) rfl ?_
  refine x_aload_n (pc := 44) X d_Mod_init_44 0 rfl rfl ?_
  refine x_bipush (pc := 45) (v := 96) X d_Mod_init_45 rfl ?_
  refine x_newa (pc := 47) (N := 96) X d_Mod_init_47 rfl (Nat.le_of_ble_eq_true rfl) ⟨(Nat.le_of_ble_eq_true rfl), (Nat.le_of_ble_eq_true rfl)⟩ (fun a6 => ?_)
  refine x_w (w2 := [(b, .inr (6, [.ref a1, .ref a2, .ref a3, .ref a4, .ref a5, .null, .null, .int (zi 0), .int (zi 0), .null, .null, .null, .null, .int (zi 0), .int (zi 0), .int (zi 0), .int (zi 0), .null, .int (zi 0), .int (zi 0), .int (zi 0), .null, .null, .null, .int (zi 0), .int (zi 0)])), (a1, zA cI 7 (fun _ => 0)), (a2, zA cI 64 (fun _ => 0)), (a3, zA cI 64 (fun _ => 0)), (a4, zA cI 96 (fun _ => 0)), (a5, zA cI 96 (fun _ => 0)), (a6, zA cI 96 (fun _ => 0))]) rfl ?_
  refine x_putF (pc := 49) (w2 := [(b, .inr (6, [.ref a1, .ref a2, .ref a3, .ref a4, .ref a5, .ref a6, .null, .int (zi 0), .int (zi 0), .null, .null, .null, .null, .int (zi 0), .int (zi 0), .int (zi 0), .int (zi 0), .null, .int (zi 0), .int (zi 0), .int (zi 0), .null, .null, .null, .int (zi 0), .int (zi 0)])), (a1, zA cI 7 (fun _ => 0)), (a2, zA cI 64 (fun _ => 0)), (a3, zA cI 64 (fun _ => 0)), (a4, zA cI 96 (fun _ => 0)), (a5, zA cI 96 (fun _ => 0)), (a6, zA cI 96 (fun _ => 0))]) X hI d_Mod_init_49 0 rfl (ff_Mod_25 _) (Nat.le_of_ble_eq_true rfl) rfl ?_
  refine x_aload_n (pc := 52) X d_Mod_init_52 0 rfl rfl ?_
  refine x_iconst (pc := 53) X d_Mod_init_53 ?_
  refine x_newa (pc := 54) (N := 4) X d_Mod_init_54 rfl (Nat.le_of_ble_eq_true rfl) ⟨(Nat.le_of_ble_eq_true rfl), (Nat.le_of_ble_eq_true rfl)⟩ (fun a7 => ?_)
  refine x_w (w2 := [(b, .inr (6, [.ref a1, .ref a2, .ref a3, .ref a4, .ref a5, .ref a6, .null, .int (zi 0), .int (zi 0), .null, .null, .null, .null, .int (zi 0), .int (zi 0), .int (zi 0), .int (zi 0), .null, .int (zi 0), .int (zi 0), .int (zi 0), .null, .null, .null, .int (zi 0), .int (zi 0)])), (a1, zA cI 7 (fun _ => 0)), (a2, zA cI 64 (fun _ => 0)), (a3, zA cI 64 (fun _ => 0)), (a4, zA cI 96 (fun _ => 0)), (a5, zA cI 96 (fun _ => 0)), (a6, zA cI 96 (fun _ => 0)), (a7, zA cI 4 (fun _ => 0))]) rfl ?_
  refine x_putF (pc := 56) (w2 := [(b, .inr (6, [.ref a1, .ref a2, .ref a3, .ref a4, .ref a5, .ref a6, .ref a7, .int (zi 0), .int (zi 0), .null, .null, .null, .null, .int (zi 0), .int (zi 0), .int (zi 0), .int (zi 0), .null, .int (zi 0), .int (zi 0), .int (zi 0), .null, .null, .null, .int (zi 0), .int (zi 0)])), (a1, zA cI 7 (fun _ => 0)), (a2, zA cI 64 (fun _ => 0)), (a3, zA cI 64 (fun _ => 0)), (a4, zA cI 96 (fun _ => 0)), (a5, zA cI 96 (fun _ => 0)), (a6, zA cI 96 (fun _ => 0)), (a7, zA cI 4 (fun _ => 0))]) X hI d_Mod_init_56 0 rfl (ff_Mod_28 _) (Nat.le_of_ble_eq_true rfl) rfl ?_
  refine x_aload_n (pc := 59) X d_Mod_init_59 0 rfl rfl ?_
  refine x_bipush (pc := 60) (v := 96) X d_Mod_init_60 rfl ?_
  refine x_newa (pc := 62) (N := 96) X d_Mod_init_62 rfl (Nat.le_of_ble_eq_true rfl) ⟨(Nat.le_of_ble_eq_true rfl), (Nat.le_of_ble_eq_true rfl)⟩ (fun a8 => ?_)
  refine x_w (w2 := [(b, .inr (6, [.ref a1, .ref a2, .ref a3, .ref a4, .ref a5, .ref a6, .ref a7, .int (zi 0), .int (zi 0), .null, .null, .null, .null, .int (zi 0), .int (zi 0), .int (zi 0), .int (zi 0), .null, .int (zi 0), .int (zi 0), .int (zi 0), .null, .null, .null, .int (zi 0), .int (zi 0)])), (a1, zA cI 7 (fun _ => 0)), (a2, zA cI 64 (fun _ => 0)), (a3, zA cI 64 (fun _ => 0)), (a4, zA cI 96 (fun _ => 0)), (a5, zA cI 96 (fun _ => 0)), (a6, zA cI 96 (fun _ => 0)), (a7, zA cI 4 (fun _ => 0)), (a8, zA cI 96 (fun _ => 0))]) rfl ?_
  refine x_putF (pc := 64) (w2 := [(b, .inr (6, [.ref a1, .ref a2, .ref a3, .ref a4, .ref a5, .ref a6, .ref a7, .int (zi 0), .int (zi 0), .ref a8, .null, .null, .null, .int (zi 0), .int (zi 0), .int (zi 0), .int (zi 0), .null, .int (zi 0), .int (zi 0), .int (zi 0), .null, .null, .null, .int (zi 0), .int (zi 0)])), (a1, zA cI 7 (fun _ => 0)), (a2, zA cI 64 (fun _ => 0)), (a3, zA cI 64 (fun _ => 0)), (a4, zA cI 96 (fun _ => 0)), (a5, zA cI 96 (fun _ => 0)), (a6, zA cI 96 (fun _ => 0)), (a7, zA cI 4 (fun _ => 0)), (a8, zA cI 96 (fun _ => 0))]) X hI d_Mod_init_64 0 rfl (ff_Mod_31 _) (Nat.le_of_ble_eq_true rfl) rfl ?_
  refine x_aload_n (pc := 67) X d_Mod_init_67 0 rfl rfl ?_
  refine x_bipush (pc := 68) (v := 33) X d_Mod_init_68 rfl ?_
  refine x_newa (pc := 70) (N := 33) X d_Mod_init_70 rfl (Nat.le_of_ble_eq_true rfl) ⟨(Nat.le_of_ble_eq_true rfl), (Nat.le_of_ble_eq_true rfl)⟩ (fun a9 => ?_)
  refine x_w (w2 := [(b, .inr (6, [.ref a1, .ref a2, .ref a3, .ref a4, .ref a5, .ref a6, .ref a7, .int (zi 0), .int (zi 0), .ref a8, .null, .null, .null, .int (zi 0), .int (zi 0), .int (zi 0), .int (zi 0), .null, .int (zi 0), .int (zi 0), .int (zi 0), .null, .null, .null, .int (zi 0), .int (zi 0)])), (a1, zA cI 7 (fun _ => 0)), (a2, zA cI 64 (fun _ => 0)), (a3, zA cI 64 (fun _ => 0)), (a4, zA cI 96 (fun _ => 0)), (a5, zA cI 96 (fun _ => 0)), (a6, zA cI 96 (fun _ => 0)), (a7, zA cI 4 (fun _ => 0)), (a8, zA cI 96 (fun _ => 0)), (a9, zA cI 33 (fun _ => 0))]) rfl ?_
  refine x_putF (pc := 72) (w2 := [(b, .inr (6, [.ref a1, .ref a2, .ref a3, .ref a4, .ref a5, .ref a6, .ref a7, .int (zi 0), .int (zi 0), .ref a8, .ref a9, .null, .null, .int (zi 0), .int (zi 0), .int (zi 0), .int (zi 0), .null, .int (zi 0), .int (zi 0), .int (zi 0), .null, .null, .null, .int (zi 0), .int (zi 0)])), (a1, zA cI 7 (fun _ => 0)), (a2, zA cI 64 (fun _ => 0)), (a3, zA cI 64 (fun _ => 0)), (a4, zA cI 96 (fun _ => 0)), (a5, zA cI 96 (fun _ => 0)), (a6, zA cI 96 (fun _ => 0)), (a7, zA cI 4 (fun _ => 0)), (a8, zA cI 96 (fun _ => 0)), (a9, zA cI 33 (fun _ => 0))]) X hI d_Mod_init_72 0 rfl (ff_Mod_34 _) (Nat.le_of_ble_eq_true rfl) rfl ?_
  refine x_aload_n (pc := 75) X d_Mod_init_75 0 rfl rfl ?_
  refine x_bipush (pc := 76) (v := 33) X d_Mod_init_76 rfl ?_
  refine x_newa (pc := 78) (N := 33) X d_Mod_init_78 rfl (Nat.le_of_ble_eq_true rfl) ⟨(Nat.le_of_ble_eq_true rfl), (Nat.le_of_ble_eq_true rfl)⟩ (fun a10 => ?_)
  refine x_w (w2 := [(b, .inr (6, [.ref a1, .ref a2, .ref a3, .ref a4, .ref a5, .ref a6, .ref a7, .int (zi 0), .int (zi 0), .ref a8, .ref a9, .null, .null, .int (zi 0), .int (zi 0), .int (zi 0), .int (zi 0), .null, .int (zi 0), .int (zi 0), .int (zi 0), .null, .null, .null, .int (zi 0), .int (zi 0)])), (a1, zA cI 7 (fun _ => 0)), (a2, zA cI 64 (fun _ => 0)), (a3, zA cI 64 (fun _ => 0)), (a4, zA cI 96 (fun _ => 0)), (a5, zA cI 96 (fun _ => 0)), (a6, zA cI 96 (fun _ => 0)), (a7, zA cI 4 (fun _ => 0)), (a8, zA cI 96 (fun _ => 0)), (a9, zA cI 33 (fun _ => 0)), (a10, zA cI 33 (fun _ => 0))]) rfl ?_
  refine x_putF (pc := 80) (w2 := [(b, .inr (6, [.ref a1, .ref a2, .ref a3, .ref a4, .ref a5, .ref a6, .ref a7, .int (zi 0), .int (zi 0), .ref a8, .ref a9, .ref a10, .null, .int (zi 0), .int (zi 0), .int (zi 0), .int (zi 0), .null, .int (zi 0), .int (zi 0), .int (zi 0), .null, .null, .null, .int (zi 0), .int (zi 0)])), (a1, zA cI 7 (fun _ => 0)), (a2, zA cI 64 (fun _ => 0)), (a3, zA cI 64 (fun _ => 0)), (a4, zA cI 96 (fun _ => 0)), (a5, zA cI 96 (fun _ => 0)), (a6, zA cI 96 (fun _ => 0)), (a7, zA cI 4 (fun _ => 0)), (a8, zA cI 96 (fun _ => 0)), (a9, zA cI 33 (fun _ => 0)), (a10, zA cI 33 (fun _ => 0))]) X hI d_Mod_init_80 0 rfl (ff_Mod_37 _) (Nat.le_of_ble_eq_true rfl) rfl ?_
  refine x_aload_n (pc := 83) X d_Mod_init_83 0 rfl rfl ?_
  refine x_bipush (pc := 84) (v := 99) X d_Mod_init_84 rfl ?_
  refine x_newa (pc := 86) (N := 99) X d_Mod_init_86 rfl (Nat.le_of_ble_eq_true rfl) ⟨(Nat.le_of_ble_eq_true rfl), (Nat.le_of_ble_eq_true rfl)⟩ (fun a11 => ?_)
  refine x_w (w2 := [(b, .inr (6, [.ref a1, .ref a2, .ref a3, .ref a4, .ref a5, .ref a6, .ref a7, .int (zi 0), .int (zi 0), .ref a8, .ref a9, .ref a10, .null, .int (zi 0), .int (zi 0), .int (zi 0), .int (zi 0), .null, .int (zi 0), .int (zi 0), .int (zi 0), .null, .null, .null, .int (zi 0), .int (zi 0)])), (a1, zA cI 7 (fun _ => 0)), (a2, zA cI 64 (fun _ => 0)), (a3, zA cI 64 (fun _ => 0)), (a4, zA cI 96 (fun _ => 0)), (a5, zA cI 96 (fun _ => 0)), (a6, zA cI 96 (fun _ => 0)), (a7, zA cI 4 (fun _ => 0)), (a8, zA cI 96 (fun _ => 0)), (a9, zA cI 33 (fun _ => 0)), (a10, zA cI 33 (fun _ => 0)), (a11, zA cI 99 (fun _ => 0))]) rfl ?_
  refine x_putF (pc := 88) (w2 := [(b, .inr (6, [.ref a1, .ref a2, .ref a3, .ref a4, .ref a5, .ref a6, .ref a7, .int (zi 0), .int (zi 0), .ref a8, .ref a9, .ref a10, .ref a11, .int (zi 0), .int (zi 0), .int (zi 0), .int (zi 0), .null, .int (zi 0), .int (zi 0), .int (zi 0), .null, .null, .null, .int (zi 0), .int (zi 0)])), (a1, zA cI 7 (fun _ => 0)), (a2, zA cI 64 (fun _ => 0)), (a3, zA cI 64 (fun _ => 0)), (a4, zA cI 96 (fun _ => 0)), (a5, zA cI 96 (fun _ => 0)), (a6, zA cI 96 (fun _ => 0)), (a7, zA cI 4 (fun _ => 0)), (a8, zA cI 96 (fun _ => 0)), (a9, zA cI 33 (fun _ => 0)), (a10, zA cI 33 (fun _ => 0)), (a11, zA cI 99 (fun _ => 0))]) X hI d_Mod_init_88 0 rfl (ff_Mod_40 _) (Nat.le_of_ble_eq_true rfl) rfl ?_
  refine x_aload_n (pc := 91) X d_Mod_init_91 0 rfl rfl ?_
  refine x_sipush (pc := 92) (v := 1260) X d_Mod_init_92 (by decide +kernel) ?_
  refine x_newa (pc := 95) (N := 1260) X d_Mod_init_95 rfl (Nat.le_of_ble_eq_true rfl) ⟨(Nat.le_of_ble_eq_true rfl), (Nat.le_of_ble_eq_true rfl)⟩ (fun a12 => ?_)
  refine x_w (w2 := [(b, .inr (6, [.ref a1, .ref a2, .ref a3, .ref a4, .ref a5, .ref a6, .ref a7, .int (zi 0), .int (zi 0), .ref a8, .ref a9, .ref a10, .ref a11, .int (zi 0), .int (zi 0), .int (zi 0), .int (zi 0), .null, .int (zi 0), .int (zi 0), .int (zi 0), .null, .null, .null, .int (zi 0), .int (zi 0)])), (a1, zA cI 7 (fun _ => 0)), (a2, zA cI 64 (fun _ => 0)), (a3, zA cI 64 (fun _ => 0)), (a4, zA cI 96 (fun _ => 0)), (a5, zA cI 96 (fun _ => 0)), (a6, zA cI 96 (fun _ => 0)), (a7, zA cI 4 (fun _ => 0)), (a8, zA cI 96 (fun _ => 0)), (a9, zA cI 33 (fun _ => 0)), (a10, zA cI 33 (fun _ => 0)), (a11, zA cI 99 (fun _ => 0)), (a12, zA cI 1260 (fun _ => 0))]) rfl ?_
  refine x_putF (pc := 97) (w2 := [(b, .inr (6, [.ref a1, .ref a2, .ref a3, .ref a4, .ref a5, .ref a6, .ref a7, .int (zi 0), .int (zi 0), .ref a8, .ref a9, .ref a10, .ref a11, .int (zi 0), .int (zi 0), .int (zi 0), .int (zi 0), .ref a12, .int (zi 0), .int (zi 0), .int (zi 0), .null, .null, .null, .int (zi 0), .int (zi 0)])), (a1, zA cI 7 (fun _ => 0)), (a2, zA cI 64 (fun _ => 0)), (a3, zA cI 64 (fun _ => 0)), (a4, zA cI 96 (fun _ => 0)), (a5, zA cI 96 (fun _ => 0)), (a6, zA cI 96 (fun _ => 0)), (a7, zA cI 4 (fun _ => 0)), (a8, zA cI 96 (fun _ => 0)), (a9, zA cI 33 (fun _ => 0)), (a10, zA cI 33 (fun _ => 0)), (a11, zA cI 99 (fun _ => 0)), (a12, zA cI 1260 (fun _ => 0))]) X hI d_Mod_init_97 0 rfl (ff_Mod_43 _) (Nat.le_of_ble_eq_true rfl) rfl ?_
  refine x_aload_n (pc := 100) X d_Mod_init_100 0 rfl rfl ?_
  refine x_bipush (pc := 101) (v := 96) X d_Mod_init_101 rfl ?_
  refine x_newa (pc := 103) (N := 96) X d_Mod_init_103 rfl (Nat.le_of_ble_eq_true rfl) ⟨(Nat.le_of_ble_eq_true rfl), (Nat.le_of_ble_eq_true rfl)⟩ (fun a13 => ?_)
  refine x_w (w2 := [(b, .inr (6, [.ref a1, .ref a2, .ref a3, .ref a4, .ref a5, .ref a6, .ref a7, .int (zi 0), .int (zi 0), .ref a8, .ref a9, .ref a10, .ref a11, .int (zi 0), .int (zi 0), .int (zi 0), .int (zi 0), .ref a12, .int (zi 0), .int (zi 0), .int (zi 0), .null, .null, .null, .int (zi 0), .int (zi 0)])), (a1, zA cI 7 (fun _ => 0)), (a2, zA cI 64 (fun _ => 0)), (a3, zA cI 64 (fun _ => 0)), (a4, zA cI 96 (fun _ => 0)), (a5, zA cI 96 (fun _ => 0)), (a6, zA cI 96 (fun _ => 0)), (a7, zA cI 4 (fun _ => 0)), (a8, zA cI 96 (fun _ => 0)), (a9, zA cI 33 (fun _ => 0)), (a10, zA cI 33 (fun _ => 0)), (a11, zA cI 99 (fun _ => 0)), (a12, zA cI 1260 (fun _ => 0)), (a13, zA cI 96 (fun _ => 0))]) rfl ?_
  refine x_putF (pc := 105) (w2 := [(b, .inr (6, [.ref a1, .ref a2, .ref a3, .ref a4, .ref a5, .ref a6, .ref a7, .int (zi 0), .int (zi 0), .ref a8, .ref a9, .ref a10, .ref a11, .int (zi 0), .int (zi 0), .int (zi 0), .int (zi 0), .ref a12, .int (zi 0), .int (zi 0), .int (zi 0), .ref a13, .null, .null, .int (zi 0), .int (zi 0)])), (a1, zA cI 7 (fun _ => 0)), (a2, zA cI 64 (fun _ => 0)), (a3, zA cI 64 (fun _ => 0)), (a4, zA cI 96 (fun _ => 0)), (a5, zA cI 96 (fun _ => 0)), (a6, zA cI 96 (fun _ => 0)), (a7, zA cI 4 (fun _ => 0)), (a8, zA cI 96 (fun _ => 0)), (a9, zA cI 33 (fun _ => 0)), (a10, zA cI 33 (fun _ => 0)), (a11, zA cI 99 (fun _ => 0)), (a12, zA cI 1260 (fun _ => 0)), (a13, zA cI 96 (fun _ => 0))]) X hI d_Mod_init_105 0 rfl (ff_Mod_46 _) (Nat.le_of_ble_eq_true rfl) rfl ?_
  refine x_aload_n (pc := 108) X d_Mod_init_108 0 rfl rfl ?_
  refine x_bipush (pc := 109) (v := 8) X d_Mod_init_109 rfl ?_
  refine x_newa (pc := 111) (N := 8) X d_Mod_init_111 rfl (Nat.le_of_ble_eq_true rfl) ⟨(Nat.le_of_ble_eq_true rfl), (Nat.le_of_ble_eq_true rfl)⟩ (fun a14 => ?_)
  refine x_w (w2 := [(b, .inr (6, [.ref a1, .ref a2, .ref a3, .ref a4, .ref a5, .ref a6, .ref a7, .int (zi 0), .int (zi 0), .ref a8, .ref a9, .ref a10, .ref a11, .int (zi 0), .int (zi 0), .int (zi 0), .int (zi 0), .ref a12, .int (zi 0), .int (zi 0), .int (zi 0), .ref a13, .null, .null, .int (zi 0), .int (zi 0)])), (a1, zA cI 7 (fun _ => 0)), (a2, zA cI 64 (fun _ => 0)), (a3, zA cI 64 (fun _ => 0)), (a4, zA cI 96 (fun _ => 0)), (a5, zA cI 96 (fun _ => 0)), (a6, zA cI 96 (fun _ => 0)), (a7, zA cI 4 (fun _ => 0)), (a8, zA cI 96 (fun _ => 0)), (a9, zA cI 33 (fun _ => 0)), (a10, zA cI 33 (fun _ => 0)), (a11, zA cI 99 (fun _ => 0)), (a12, zA cI 1260 (fun _ => 0)), (a13, zA cI 96 (fun _ => 0)), (a14, zA cI 8 (fun _ => 0))]) rfl ?_
  refine x_putF (pc := 113) (w2 := [(b, .inr (6, [.ref a1, .ref a2, .ref a3, .ref a4, .ref a5, .ref a6, .ref a7, .int (zi 0), .int (zi 0), .ref a8, .ref a9, .ref a10, .ref a11, .int (zi 0), .int (zi 0), .int (zi 0), .int (zi 0), .ref a12, .int (zi 0), .int (zi 0), .int (zi 0), .ref a13, .ref a14, .null, .int (zi 0), .int (zi 0)])), (a1, zA cI 7 (fun _ => 0)), (a2, zA cI 64 (fun _ => 0)), (a3, zA cI 64 (fun _ => 0)), (a4, zA cI 96 (fun _ => 0)), (a5, zA cI 96 (fun _ => 0)), (a6, zA cI 96 (fun _ => 0)), (a7, zA cI 4 (fun _ => 0)), (a8, zA cI 96 (fun _ => 0)), (a9, zA cI 33 (fun _ => 0)), (a10, zA cI 33 (fun _ => 0)), (a11, zA cI 99 (fun _ => 0)), (a12, zA cI 1260 (fun _ => 0)), (a13, zA cI 96 (fun _ => 0)), (a14, zA cI 8 (fun _ => 0))]) X hI d_Mod_init_113 0 rfl (ff_Mod_49 _) (Nat.le_of_ble_eq_true rfl) rfl ?_
  refine x_aload_n (pc := 116) X d_Mod_init_116 0 rfl rfl ?_
  refine x_bipush (pc := 117) (v := 32) X d_Mod_init_117 rfl ?_
  refine x_newa (pc := 119) (N := 32) X d_Mod_init_119 rfl (Nat.le_of_ble_eq_true rfl) ⟨(Nat.le_of_ble_eq_true rfl), (Nat.le_of_ble_eq_true rfl)⟩ (fun a15 => ?_)
  refine x_w (w2 := [(b, .inr (6, [.ref a1, .ref a2, .ref a3, .ref a4, .ref a5, .ref a6, .ref a7, .int (zi 0), .int (zi 0), .ref a8, .ref a9, .ref a10, .ref a11, .int (zi 0), .int (zi 0), .int (zi 0), .int (zi 0), .ref a12, .int (zi 0), .int (zi 0), .int (zi 0), .ref a13, .ref a14, .null, .int (zi 0), .int (zi 0)])), (a1, zA cI 7 (fun _ => 0)), (a2, zA cI 64 (fun _ => 0)), (a3, zA cI 64 (fun _ => 0)), (a4, zA cI 96 (fun _ => 0)), (a5, zA cI 96 (fun _ => 0)), (a6, zA cI 96 (fun _ => 0)), (a7, zA cI 4 (fun _ => 0)), (a8, zA cI 96 (fun _ => 0)), (a9, zA cI 33 (fun _ => 0)), (a10, zA cI 33 (fun _ => 0)), (a11, zA cI 99 (fun _ => 0)), (a12, zA cI 1260 (fun _ => 0)), (a13, zA cI 96 (fun _ => 0)), (a14, zA cI 8 (fun _ => 0)), (a15, zA cI 32 (fun _ => 0))]) rfl ?_
  refine x_putF (pc := 121) (w2 := [(b, .inr (6, [.ref a1, .ref a2, .ref a3, .ref a4, .ref a5, .ref a6, .ref a7, .int (zi 0), .int (zi 0), .ref a8, .ref a9, .ref a10, .ref a11, .int (zi 0), .int (zi 0), .int (zi 0), .int (zi 0), .ref a12, .int (zi 0), .int (zi 0), .int (zi 0), .ref a13, .ref a14, .ref a15, .int (zi 0), .int (zi 0)])), (a1, zA cI 7 (fun _ => 0)), (a2, zA cI 64 (fun _ => 0)), (a3, zA cI 64 (fun _ => 0)), (a4, zA cI 96 (fun _ => 0)), (a5, zA cI 96 (fun _ => 0)), (a6, zA cI 96 (fun _ => 0)), (a7, zA cI 4 (fun _ => 0)), (a8, zA cI 96 (fun _ => 0)), (a9, zA cI 33 (fun _ => 0)), (a10, zA cI 33 (fun _ => 0)), (a11, zA cI 99 (fun _ => 0)), (a12, zA cI 1260 (fun _ => 0)), (a13, zA cI 96 (fun _ => 0)), (a14, zA cI 8 (fun _ => 0)), (a15, zA cI 32 (fun _ => 0))]) X hI d_Mod_init_121 0 rfl (ff_Mod_52 _) (Nat.le_of_ble_eq_true rfl) rfl ?_
  refine x_iconst (pc := 124) X d_Mod_init_124 ?_
  refine x_istore_n (pc := 125) (ls2 := [(1, .int (zi 0)), (0, .ref b)]) X d_Mod_init_125 rfl (Nat.le_of_ble_eq_true rfl) rfl ?_
  refine l_Mod_init_126 X 5000 0 (fun _ => 0) o126 h126 (fun v => ?_)
  refine x_iconst (pc := 146) X d_Mod_init_146 ?_
  refine x_istore_n (pc := 147) (ls2 := [(1, .int (zi 0)), (0, .ref b)]) X d_Mod_init_147 rfl (Nat.le_of_ble_eq_true rfl) rfl ?_
  refine l_Mod_init_148 X 5000 0 (fun _ => 0) (fun _ => 0) o148 h148 (fun v => ?_)
  exact x_iniret (pc := 176) X hR d_Mod_init_176 ⟨_, _, _, _, _, _, _, _, _, _, _, _, _, _, _, rfl, rfl⟩
