/-! the words of the tables that the rows use, each by its place; names of methods -/
def zc_Law : String := "TwinTreeVolumeLaw"
theorem fq_n {x : Int} (hx : x = 0 ∨ x = 1) : narrow .boolean (.int (zi x)) = .int (zi x) := by
  rcases hx with rfl | rfl
  · rw [zi_0]; rfl
  · rw [zi_1]; rfl
theorem fq_f {x : Int} (hx : x = 0 ∨ x = 1) : fits .boolean (.int (zi x)) = true := by
  rcases hx with rfl | rfl
  · rw [zi_0]; rfl
  · rw [zi_1]; rfl
theorem tm_1 : ∀ w ∈ tables_1_1, w ∈ lw_tbl := fun w h => List.mem_append_right _ (List.mem_append_left _ h)
theorem tm_2 : ∀ w ∈ tables_1_2, w ∈ lw_tbl := fun w h => List.mem_append_right _ (List.mem_append_right _ (List.mem_append_left _ h))
theorem tm_3 : ∀ w ∈ tables_1_3, w ∈ lw_tbl := fun w h => List.mem_append_right _ (List.mem_append_right _ (List.mem_append_right _ (List.mem_append_left _ h)))
theorem tm_4 : ∀ w ∈ tables_1_4, w ∈ lw_tbl := fun w h => List.mem_append_right _ (List.mem_append_right _ (List.mem_append_right _ (List.mem_append_right _ (List.mem_append_left _ h))))
theorem tm_5 : ∀ w ∈ tables_1_5, w ∈ lw_tbl := fun w h => List.mem_append_right _ (List.mem_append_right _ (List.mem_append_right _ (List.mem_append_right _ (List.mem_append_right _ (List.mem_append_left _ h)))))
theorem tm_6 : ∀ w ∈ tables_1_6, w ∈ lw_tbl := fun w h => List.mem_append_right _ (List.mem_append_right _ (List.mem_append_right _ (List.mem_append_right _ (List.mem_append_right _ (List.mem_append_right _ (h))))))
theorem zv_Disk : ∀ w ∈ u_ws zc_Disk zt_Disk 7, w ∈ lw_tbl.filter goodWord := fun w hw => List.mem_filter.mpr ⟨zu_Disk w hw, List.all_eq_true.mp (by decide +kernel : (u_ws zc_Disk zt_Disk 7).all goodWord = true) w hw⟩
theorem zv_Mind : ∀ w ∈ u_ws zc_Mind zt_Mind 3, w ∈ lw_tbl.filter goodWord := fun w hw => List.mem_filter.mpr ⟨zu_Mind w hw, List.all_eq_true.mp (by decide +kernel : (u_ws zc_Mind zt_Mind 3).all goodWord = true) w hw⟩
theorem zv_Row : ∀ w ∈ u_ws zc_Row zt_Row 2, w ∈ lw_tbl.filter goodWord := fun w hw => List.mem_filter.mpr ⟨zu_Row w hw, List.all_eq_true.mp (by decide +kernel : (u_ws zc_Row zt_Row 2).all goodWord = true) w hw⟩
theorem zv_Runs : ∀ w ∈ u_ws zc_Runs zt_Runs 3, w ∈ lw_tbl.filter goodWord := fun w hw => List.mem_filter.mpr ⟨zu_Runs w hw, List.all_eq_true.mp (by decide +kernel : (u_ws zc_Runs zt_Runs 3).all goodWord = true) w hw⟩
theorem zv_Text : ∀ w ∈ u_ws zc_Text zt_Text 1, w ∈ lw_tbl.filter goodWord := fun w hw => List.mem_filter.mpr ⟨zu_Text w hw, List.all_eq_true.mp (by decide +kernel : (u_ws zc_Text zt_Text 1).all goodWord = true) w hw⟩
theorem zv_Vol : ∀ w ∈ u_ws zc_Vol zt_Vol 8, w ∈ lw_tbl.filter goodWord := fun w hw => List.mem_filter.mpr ⟨zu_Vol w hw, List.all_eq_true.mp (by decide +kernel : (u_ws zc_Vol zt_Vol 8).all goodWord = true) w hw⟩
theorem zv_Mod : ∀ w ∈ u_ws zc_Mod zt_Mod 26, w ∈ lw_tbl.filter goodWord := fun w hw => List.mem_filter.mpr ⟨zu_Mod w hw, List.all_eq_true.mp (by decide +kernel : (u_ws zc_Mod zt_Mod 26).all goodWord = true) w hw⟩
def y_Vol_init : MethodName := ⟨zc_Vol, "<init>", "()V"⟩
abbrev b_Vol_init : ByteArray := prog_1_method_1_code
def y_Vol_letter : MethodName := ⟨zc_Vol, "letter", "(I)I"⟩
abbrev b_Vol_letter : ByteArray := prog_1_method_2_code
theorem mv_Vol_letter : Mv y_Vol_letter b_Vol_letter 2 (some .int) 1 := ⟨(tm_1 _ (List.mem_of_getElem? (i := 140) rfl)), (tm_1 _ (List.mem_of_getElem? (i := 141) rfl)), (tm_1 _ (List.mem_of_getElem? (i := 1) rfl)), (tm_1 _ (List.mem_of_getElem? (i := 142) rfl)), ⟨by decide +kernel, by decide +kernel⟩, by decide +kernel⟩
def y_Vol_volume : MethodName := ⟨zc_Vol, "volume", "()I"⟩
abbrev b_Vol_volume : ByteArray := prog_1_method_3_code
theorem mv_Vol_volume : Mv y_Vol_volume b_Vol_volume 2 (some .int) 0 := ⟨(tm_1 _ (List.mem_of_getElem? (i := 156) rfl)), (tm_1 _ (List.mem_of_getElem? (i := 157) rfl)), (tm_1 _ (List.mem_of_getElem? (i := 1) rfl)), (tm_1 _ (List.mem_of_getElem? (i := 158) rfl)), ⟨by decide +kernel, by decide +kernel⟩, by decide +kernel⟩
def y_Vol_page : MethodName := ⟨zc_Vol, "page", "(III)I"⟩
abbrev b_Vol_page : ByteArray := prog_1_method_4_code
theorem mv_Vol_page : Mv y_Vol_page b_Vol_page 4 (some .int) 3 := ⟨(tm_2 _ (List.mem_of_getElem? (i := 120) rfl)), (tm_2 _ (List.mem_of_getElem? (i := 121) rfl)), (tm_1 _ (List.mem_of_getElem? (i := 1) rfl)), (tm_2 _ (List.mem_of_getElem? (i := 122) rfl)), ⟨by decide +kernel, by decide +kernel⟩, by decide +kernel⟩
def y_Vol_file : MethodName := ⟨zc_Vol, "file", "(II)I"⟩
abbrev b_Vol_file : ByteArray := prog_1_method_5_code
theorem mv_Vol_file : Mv y_Vol_file b_Vol_file 3 (some .int) 2 := ⟨(tm_2 _ (List.mem_of_getElem? (i := 135) rfl)), (tm_2 _ (List.mem_of_getElem? (i := 136) rfl)), (tm_1 _ (List.mem_of_getElem? (i := 1) rfl)), (tm_2 _ (List.mem_of_getElem? (i := 137) rfl)), ⟨by decide +kernel, by decide +kernel⟩, by decide +kernel⟩
def y_Vol_read : MethodName := ⟨zc_Vol, "read", "(II)I"⟩
abbrev b_Vol_read : ByteArray := prog_1_method_6_code
theorem mv_Vol_read : Mv y_Vol_read b_Vol_read 3 (some .int) 2 := ⟨(tm_2 _ (List.mem_of_getElem? (i := 165) rfl)), (tm_2 _ (List.mem_of_getElem? (i := 166) rfl)), (tm_1 _ (List.mem_of_getElem? (i := 1) rfl)), (tm_2 _ (List.mem_of_getElem? (i := 167) rfl)), ⟨by decide +kernel, by decide +kernel⟩, by decide +kernel⟩
def y_Vol_says : MethodName := ⟨zc_Vol, "says", "(III)I"⟩
abbrev b_Vol_says : ByteArray := prog_1_method_7_code
theorem mv_Vol_says : Mv y_Vol_says b_Vol_says 5 (some .int) 3 := ⟨(tm_2 _ (List.mem_of_getElem? (i := 177) rfl)), (tm_2 _ (List.mem_of_getElem? (i := 178) rfl)), (tm_1 _ (List.mem_of_getElem? (i := 1) rfl)), (tm_2 _ (List.mem_of_getElem? (i := 179) rfl)), ⟨by decide +kernel, by decide +kernel⟩, by decide +kernel⟩
def y_Vol_ahead : MethodName := ⟨zc_Vol, "ahead", "(III)I"⟩
abbrev b_Vol_ahead : ByteArray := prog_1_method_8_code
theorem mv_Vol_ahead : Mv y_Vol_ahead b_Vol_ahead 5 (some .int) 3 := ⟨(tm_2 _ (List.mem_of_getElem? (i := 182) rfl)), (tm_2 _ (List.mem_of_getElem? (i := 183) rfl)), (tm_1 _ (List.mem_of_getElem? (i := 1) rfl)), (tm_2 _ (List.mem_of_getElem? (i := 184) rfl)), ⟨by decide +kernel, by decide +kernel⟩, by decide +kernel⟩
def y_Vol_punch : MethodName := ⟨zc_Vol, "punch", "(III)I"⟩
abbrev b_Vol_punch : ByteArray := prog_1_method_9_code
theorem mv_Vol_punch : Mv y_Vol_punch b_Vol_punch 4 (some .int) 3 := ⟨(tm_2 _ (List.mem_of_getElem? (i := 187) rfl)), (tm_2 _ (List.mem_of_getElem? (i := 188) rfl)), (tm_1 _ (List.mem_of_getElem? (i := 1) rfl)), (tm_2 _ (List.mem_of_getElem? (i := 189) rfl)), ⟨by decide +kernel, by decide +kernel⟩, by decide +kernel⟩
def y_Vol_flush : MethodName := ⟨zc_Vol, "flush", "(I)I"⟩
abbrev b_Vol_flush : ByteArray := prog_1_method_10_code
theorem mv_Vol_flush : Mv y_Vol_flush b_Vol_flush 2 (some .int) 1 := ⟨(tm_2 _ (List.mem_of_getElem? (i := 192) rfl)), (tm_2 _ (List.mem_of_getElem? (i := 193) rfl)), (tm_1 _ (List.mem_of_getElem? (i := 1) rfl)), (tm_2 _ (List.mem_of_getElem? (i := 194) rfl)), ⟨by decide +kernel, by decide +kernel⟩, by decide +kernel⟩
def y_Vol_settle : MethodName := ⟨zc_Vol, "settle", "(I)I"⟩
abbrev b_Vol_settle : ByteArray := prog_1_method_11_code
theorem mv_Vol_settle : Mv y_Vol_settle b_Vol_settle 3 (some .int) 1 := ⟨(tm_2 _ (List.mem_of_getElem? (i := 197) rfl)), (tm_2 _ (List.mem_of_getElem? (i := 198) rfl)), (tm_1 _ (List.mem_of_getElem? (i := 1) rfl)), (tm_2 _ (List.mem_of_getElem? (i := 199) rfl)), ⟨by decide +kernel, by decide +kernel⟩, by decide +kernel⟩
def y_Vol_crash : MethodName := ⟨zc_Vol, "crash", "(II)I"⟩
abbrev b_Vol_crash : ByteArray := prog_1_method_12_code
theorem mv_Vol_crash : Mv y_Vol_crash b_Vol_crash 3 (some .int) 2 := ⟨(tm_2 _ (List.mem_of_getElem? (i := 202) rfl)), (tm_2 _ (List.mem_of_getElem? (i := 203) rfl)), (tm_1 _ (List.mem_of_getElem? (i := 1) rfl)), (tm_2 _ (List.mem_of_getElem? (i := 204) rfl)), ⟨by decide +kernel, by decide +kernel⟩, by decide +kernel⟩
def y_Vol_kind : MethodName := ⟨zc_Vol, "kind", "(II)I"⟩
abbrev b_Vol_kind : ByteArray := prog_1_method_13_code
theorem mv_Vol_kind : Mv y_Vol_kind b_Vol_kind 4 (some .int) 2 := ⟨(tm_2 _ (List.mem_of_getElem? (i := 207) rfl)), (tm_2 _ (List.mem_of_getElem? (i := 208) rfl)), (tm_1 _ (List.mem_of_getElem? (i := 1) rfl)), (tm_2 _ (List.mem_of_getElem? (i := 209) rfl)), ⟨by decide +kernel, by decide +kernel⟩, by decide +kernel⟩
def y_Vol_byPlace : MethodName := ⟨zc_Vol, "byPlace", "(II)I"⟩
abbrev b_Vol_byPlace : ByteArray := prog_1_method_14_code
theorem mv_Vol_byPlace : Mv y_Vol_byPlace b_Vol_byPlace 5 (some .int) 2 := ⟨(tm_2 _ (List.mem_of_getElem? (i := 212) rfl)), (tm_2 _ (List.mem_of_getElem? (i := 213) rfl)), (tm_1 _ (List.mem_of_getElem? (i := 1) rfl)), (tm_2 _ (List.mem_of_getElem? (i := 214) rfl)), ⟨by decide +kernel, by decide +kernel⟩, by decide +kernel⟩
def y_Vol_fit : MethodName := ⟨zc_Vol, "fit", "(I)I"⟩
abbrev b_Vol_fit : ByteArray := prog_1_method_15_code
theorem mv_Vol_fit : Mv y_Vol_fit b_Vol_fit 4 (some .int) 1 := ⟨(tm_2 _ (List.mem_of_getElem? (i := 233) rfl)), (tm_2 _ (List.mem_of_getElem? (i := 234) rfl)), (tm_1 _ (List.mem_of_getElem? (i := 1) rfl)), (tm_2 _ (List.mem_of_getElem? (i := 235) rfl)), ⟨by decide +kernel, by decide +kernel⟩, by decide +kernel⟩
def y_Vol_nearest : MethodName := ⟨zc_Vol, "nearest", "(II)I"⟩
abbrev b_Vol_nearest : ByteArray := prog_1_method_16_code
theorem mv_Vol_nearest : Mv y_Vol_nearest b_Vol_nearest 5 (some .int) 2 := ⟨(tm_3 _ (List.mem_of_getElem? (i := 1) rfl)), (tm_3 _ (List.mem_of_getElem? (i := 2) rfl)), (tm_1 _ (List.mem_of_getElem? (i := 1) rfl)), (tm_3 _ (List.mem_of_getElem? (i := 3) rfl)), ⟨by decide +kernel, by decide +kernel⟩, by decide +kernel⟩
def y_Vol_whose : MethodName := ⟨zc_Vol, "whose", "(II)I"⟩
abbrev b_Vol_whose : ByteArray := prog_1_method_17_code
theorem mv_Vol_whose : Mv y_Vol_whose b_Vol_whose 4 (some .int) 2 := ⟨(tm_3 _ (List.mem_of_getElem? (i := 7) rfl)), (tm_3 _ (List.mem_of_getElem? (i := 8) rfl)), (tm_1 _ (List.mem_of_getElem? (i := 1) rfl)), (tm_3 _ (List.mem_of_getElem? (i := 9) rfl)), ⟨by decide +kernel, by decide +kernel⟩, by decide +kernel⟩
def y_Vol_stale : MethodName := ⟨zc_Vol, "stale", "(I)I"⟩
abbrev b_Vol_stale : ByteArray := prog_1_method_18_code
theorem mv_Vol_stale : Mv y_Vol_stale b_Vol_stale 2 (some .int) 1 := ⟨(tm_3 _ (List.mem_of_getElem? (i := 16) rfl)), (tm_3 _ (List.mem_of_getElem? (i := 17) rfl)), (tm_1 _ (List.mem_of_getElem? (i := 1) rfl)), (tm_3 _ (List.mem_of_getElem? (i := 18) rfl)), ⟨by decide +kernel, by decide +kernel⟩, by decide +kernel⟩
def y_Vol_scatter : MethodName := ⟨zc_Vol, "scatter", "(I)I"⟩
abbrev b_Vol_scatter : ByteArray := prog_1_method_19_code
theorem mv_Vol_scatter : Mv y_Vol_scatter b_Vol_scatter 2 (some .int) 1 := ⟨(tm_3 _ (List.mem_of_getElem? (i := 25) rfl)), (tm_3 _ (List.mem_of_getElem? (i := 26) rfl)), (tm_1 _ (List.mem_of_getElem? (i := 1) rfl)), (tm_3 _ (List.mem_of_getElem? (i := 27) rfl)), ⟨by decide +kernel, by decide +kernel⟩, by decide +kernel⟩
def y_Vol_kindBest : MethodName := ⟨zc_Vol, "kindBest", "(II)I"⟩
abbrev b_Vol_kindBest : ByteArray := prog_1_method_20_code
theorem mv_Vol_kindBest : Mv y_Vol_kindBest b_Vol_kindBest 4 (some .int) 2 := ⟨(tm_3 _ (List.mem_of_getElem? (i := 41) rfl)), (tm_3 _ (List.mem_of_getElem? (i := 42) rfl)), (tm_1 _ (List.mem_of_getElem? (i := 1) rfl)), (tm_3 _ (List.mem_of_getElem? (i := 43) rfl)), ⟨by decide +kernel, by decide +kernel⟩, by decide +kernel⟩
def y_Vol_order : MethodName := ⟨zc_Vol, "order", "(I)I"⟩
abbrev b_Vol_order : ByteArray := prog_1_method_21_code
theorem mv_Vol_order : Mv y_Vol_order b_Vol_order 3 (some .int) 1 := ⟨(tm_3 _ (List.mem_of_getElem? (i := 49) rfl)), (tm_3 _ (List.mem_of_getElem? (i := 50) rfl)), (tm_1 _ (List.mem_of_getElem? (i := 1) rfl)), (tm_3 _ (List.mem_of_getElem? (i := 51) rfl)), ⟨by decide +kernel, by decide +kernel⟩, by decide +kernel⟩
def y_Vol_steps : MethodName := ⟨zc_Vol, "steps", "(I)I"⟩
abbrev b_Vol_steps : ByteArray := prog_1_method_22_code
theorem mv_Vol_steps : Mv y_Vol_steps b_Vol_steps 2 (some .int) 1 := ⟨(tm_3 _ (List.mem_of_getElem? (i := 77) rfl)), (tm_3 _ (List.mem_of_getElem? (i := 78) rfl)), (tm_1 _ (List.mem_of_getElem? (i := 1) rfl)), (tm_3 _ (List.mem_of_getElem? (i := 79) rfl)), ⟨by decide +kernel, by decide +kernel⟩, by decide +kernel⟩
def y_Vol_loses : MethodName := ⟨zc_Vol, "loses", "(III)I"⟩
abbrev b_Vol_loses : ByteArray := prog_1_method_23_code
theorem mv_Vol_loses : Mv y_Vol_loses b_Vol_loses 4 (some .int) 3 := ⟨(tm_3 _ (List.mem_of_getElem? (i := 85) rfl)), (tm_3 _ (List.mem_of_getElem? (i := 86) rfl)), (tm_1 _ (List.mem_of_getElem? (i := 1) rfl)), (tm_3 _ (List.mem_of_getElem? (i := 87) rfl)), ⟨by decide +kernel, by decide +kernel⟩, by decide +kernel⟩
def y_Vol_safe : MethodName := ⟨zc_Vol, "safe", "(I)I"⟩
abbrev b_Vol_safe : ByteArray := prog_1_method_24_code
theorem mv_Vol_safe : Mv y_Vol_safe b_Vol_safe 2 (some .int) 1 := ⟨(tm_3 _ (List.mem_of_getElem? (i := 107) rfl)), (tm_3 _ (List.mem_of_getElem? (i := 108) rfl)), (tm_1 _ (List.mem_of_getElem? (i := 1) rfl)), (tm_3 _ (List.mem_of_getElem? (i := 109) rfl)), ⟨by decide +kernel, by decide +kernel⟩, by decide +kernel⟩
def y_Vol_gather : MethodName := ⟨zc_Vol, "gather", "(II)I"⟩
abbrev b_Vol_gather : ByteArray := prog_1_method_25_code
theorem mv_Vol_gather : Mv y_Vol_gather b_Vol_gather 5 (some .int) 2 := ⟨(tm_3 _ (List.mem_of_getElem? (i := 116) rfl)), (tm_3 _ (List.mem_of_getElem? (i := 117) rfl)), (tm_1 _ (List.mem_of_getElem? (i := 1) rfl)), (tm_3 _ (List.mem_of_getElem? (i := 118) rfl)), ⟨by decide +kernel, by decide +kernel⟩, by decide +kernel⟩
def y_Vol_first : MethodName := ⟨zc_Vol, "first", "(II)I"⟩
abbrev b_Vol_first : ByteArray := prog_1_method_26_code
theorem mv_Vol_first : Mv y_Vol_first b_Vol_first 5 (some .int) 2 := ⟨(tm_3 _ (List.mem_of_getElem? (i := 129) rfl)), (tm_3 _ (List.mem_of_getElem? (i := 130) rfl)), (tm_1 _ (List.mem_of_getElem? (i := 1) rfl)), (tm_3 _ (List.mem_of_getElem? (i := 131) rfl)), ⟨by decide +kernel, by decide +kernel⟩, by decide +kernel⟩
def y_Vol_two : MethodName := ⟨zc_Vol, "two", "(II)I"⟩
abbrev b_Vol_two : ByteArray := prog_1_method_27_code
theorem mv_Vol_two : Mv y_Vol_two b_Vol_two 4 (some .int) 2 := ⟨(tm_3 _ (List.mem_of_getElem? (i := 137) rfl)), (tm_3 _ (List.mem_of_getElem? (i := 138) rfl)), (tm_1 _ (List.mem_of_getElem? (i := 1) rfl)), (tm_3 _ (List.mem_of_getElem? (i := 139) rfl)), ⟨by decide +kernel, by decide +kernel⟩, by decide +kernel⟩
def y_Vol_most : MethodName := ⟨zc_Vol, "most", "(I)I"⟩
abbrev b_Vol_most : ByteArray := prog_1_method_28_code
theorem mv_Vol_most : Mv y_Vol_most b_Vol_most 2 (some .int) 1 := ⟨(tm_3 _ (List.mem_of_getElem? (i := 149) rfl)), (tm_3 _ (List.mem_of_getElem? (i := 150) rfl)), (tm_1 _ (List.mem_of_getElem? (i := 1) rfl)), (tm_3 _ (List.mem_of_getElem? (i := 151) rfl)), ⟨by decide +kernel, by decide +kernel⟩, by decide +kernel⟩
def y_Vol_larger : MethodName := ⟨zc_Vol, "larger", "(I)I"⟩
abbrev b_Vol_larger : ByteArray := prog_1_method_29_code
theorem mv_Vol_larger : Mv y_Vol_larger b_Vol_larger 2 (some .int) 1 := ⟨(tm_3 _ (List.mem_of_getElem? (i := 158) rfl)), (tm_3 _ (List.mem_of_getElem? (i := 159) rfl)), (tm_1 _ (List.mem_of_getElem? (i := 1) rfl)), (tm_3 _ (List.mem_of_getElem? (i := 160) rfl)), ⟨by decide +kernel, by decide +kernel⟩, by decide +kernel⟩
def y_Vol_lost : MethodName := ⟨zc_Vol, "lost", "(II)J"⟩
abbrev b_Vol_lost : ByteArray := prog_1_method_30_code
theorem mv_Vol_lost : Mv y_Vol_lost b_Vol_lost 3 (some .long) 2 := ⟨(tm_3 _ (List.mem_of_getElem? (i := 172) rfl)), (tm_3 _ (List.mem_of_getElem? (i := 173) rfl)), (tm_1 _ (List.mem_of_getElem? (i := 1) rfl)), (tm_3 _ (List.mem_of_getElem? (i := 174) rfl)), ⟨by decide +kernel, by decide +kernel⟩, by decide +kernel⟩
def y_Vol_sure : MethodName := ⟨zc_Vol, "sure", "(III)J"⟩
abbrev b_Vol_sure : ByteArray := prog_1_method_31_code
theorem mv_Vol_sure : Mv y_Vol_sure b_Vol_sure 4 (some .long) 3 := ⟨(tm_3 _ (List.mem_of_getElem? (i := 187) rfl)), (tm_3 _ (List.mem_of_getElem? (i := 188) rfl)), (tm_1 _ (List.mem_of_getElem? (i := 1) rfl)), (tm_3 _ (List.mem_of_getElem? (i := 189) rfl)), ⟨by decide +kernel, by decide +kernel⟩, by decide +kernel⟩
def y_Vol_mean : MethodName := ⟨zc_Vol, "mean", "(I)J"⟩
abbrev b_Vol_mean : ByteArray := prog_1_method_32_code
theorem mv_Vol_mean : Mv y_Vol_mean b_Vol_mean 2 (some .long) 1 := ⟨(tm_3 _ (List.mem_of_getElem? (i := 195) rfl)), (tm_3 _ (List.mem_of_getElem? (i := 196) rfl)), (tm_1 _ (List.mem_of_getElem? (i := 1) rfl)), (tm_3 _ (List.mem_of_getElem? (i := 197) rfl)), ⟨by decide +kernel, by decide +kernel⟩, by decide +kernel⟩
def y_Vol_which : MethodName := ⟨zc_Vol, "which", "(I)I"⟩
abbrev b_Vol_which : ByteArray := prog_1_method_33_code
theorem mv_Vol_which : Mv y_Vol_which b_Vol_which 4 (some .int) 1 := ⟨(tm_3 _ (List.mem_of_getElem? (i := 201) rfl)), (tm_3 _ (List.mem_of_getElem? (i := 202) rfl)), (tm_1 _ (List.mem_of_getElem? (i := 1) rfl)), (tm_3 _ (List.mem_of_getElem? (i := 203) rfl)), ⟨by decide +kernel, by decide +kernel⟩, by decide +kernel⟩
def y_Vol_row : MethodName := ⟨zc_Vol, "row", "(I)I"⟩
abbrev b_Vol_row : ByteArray := prog_1_method_34_code
theorem mv_Vol_row : Mv y_Vol_row b_Vol_row 2 (some .int) 1 := ⟨(tm_3 _ (List.mem_of_getElem? (i := 212) rfl)), (tm_3 _ (List.mem_of_getElem? (i := 213) rfl)), (tm_1 _ (List.mem_of_getElem? (i := 1) rfl)), (tm_3 _ (List.mem_of_getElem? (i := 214) rfl)), ⟨by decide +kernel, by decide +kernel⟩, by decide +kernel⟩
def y_Vol_judge : MethodName := ⟨zc_Vol, "judge", "(I)I"⟩
abbrev b_Vol_judge : ByteArray := prog_1_method_35_code
theorem mv_Vol_judge : Mv y_Vol_judge b_Vol_judge 3 (some .int) 1 := ⟨(tm_3 _ (List.mem_of_getElem? (i := 216) rfl)), (tm_3 _ (List.mem_of_getElem? (i := 217) rfl)), (tm_1 _ (List.mem_of_getElem? (i := 1) rfl)), (tm_3 _ (List.mem_of_getElem? (i := 218) rfl)), ⟨by decide +kernel, by decide +kernel⟩, by decide +kernel⟩
def y_Vol_forged : MethodName := ⟨zc_Vol, "forged", "()I"⟩
abbrev b_Vol_forged : ByteArray := prog_1_method_36_code
theorem mv_Vol_forged : Mv y_Vol_forged b_Vol_forged 2 (some .int) 0 := ⟨(tm_3 _ (List.mem_of_getElem? (i := 225) rfl)), (tm_3 _ (List.mem_of_getElem? (i := 226) rfl)), (tm_1 _ (List.mem_of_getElem? (i := 1) rfl)), (tm_3 _ (List.mem_of_getElem? (i := 227) rfl)), ⟨by decide +kernel, by decide +kernel⟩, by decide +kernel⟩
def y_Vol_clear : MethodName := ⟨zc_Vol, "clear", "()I"⟩
abbrev b_Vol_clear : ByteArray := prog_1_method_37_code
theorem mv_Vol_clear : Mv y_Vol_clear b_Vol_clear 2 (some .int) 0 := ⟨(tm_3 _ (List.mem_of_getElem? (i := 233) rfl)), (tm_3 _ (List.mem_of_getElem? (i := 234) rfl)), (tm_1 _ (List.mem_of_getElem? (i := 1) rfl)), (tm_3 _ (List.mem_of_getElem? (i := 235) rfl)), ⟨by decide +kernel, by decide +kernel⟩, by decide +kernel⟩
def y_Vol_lots : MethodName := ⟨zc_Vol, "lots", "(III)I"⟩
abbrev b_Vol_lots : ByteArray := prog_1_method_38_code
theorem mv_Vol_lots : Mv y_Vol_lots b_Vol_lots 4 (some .int) 3 := ⟨(tm_3 _ (List.mem_of_getElem? (i := 237) rfl)), (tm_3 _ (List.mem_of_getElem? (i := 238) rfl)), (tm_1 _ (List.mem_of_getElem? (i := 1) rfl)), (tm_3 _ (List.mem_of_getElem? (i := 239) rfl)), ⟨by decide +kernel, by decide +kernel⟩, by decide +kernel⟩
def y_Vol_image : MethodName := ⟨zc_Vol, "image", "()I"⟩
abbrev b_Vol_image : ByteArray := prog_1_method_39_code
theorem mv_Vol_image : Mv y_Vol_image b_Vol_image 1 (some .int) 0 := ⟨(tm_4 _ (List.mem_of_getElem? (i := 18) rfl)), (tm_4 _ (List.mem_of_getElem? (i := 19) rfl)), (tm_1 _ (List.mem_of_getElem? (i := 1) rfl)), (tm_4 _ (List.mem_of_getElem? (i := 20) rfl)), ⟨by decide +kernel, by decide +kernel⟩, by decide +kernel⟩
def y_Vol_on : MethodName := ⟨zc_Vol, "on", "()I"⟩
abbrev b_Vol_on : ByteArray := prog_1_method_40_code
theorem mv_Vol_on : Mv y_Vol_on b_Vol_on 1 (some .int) 0 := ⟨(tm_4 _ (List.mem_of_getElem? (i := 22) rfl)), (tm_4 _ (List.mem_of_getElem? (i := 23) rfl)), (tm_1 _ (List.mem_of_getElem? (i := 1) rfl)), (tm_4 _ (List.mem_of_getElem? (i := 24) rfl)), ⟨by decide +kernel, by decide +kernel⟩, by decide +kernel⟩
def y_Vol_count : MethodName := ⟨zc_Vol, "count", "(I)I"⟩
abbrev b_Vol_count : ByteArray := prog_1_method_41_code
theorem mv_Vol_count : Mv y_Vol_count b_Vol_count 2 (some .int) 1 := ⟨(tm_4 _ (List.mem_of_getElem? (i := 26) rfl)), (tm_4 _ (List.mem_of_getElem? (i := 27) rfl)), (tm_1 _ (List.mem_of_getElem? (i := 1) rfl)), (tm_4 _ (List.mem_of_getElem? (i := 28) rfl)), ⟨by decide +kernel, by decide +kernel⟩, by decide +kernel⟩
def y_Vol_refuse : MethodName := ⟨zc_Vol, "refuse", "(I)I"⟩
abbrev b_Vol_refuse : ByteArray := prog_1_method_42_code
theorem mv_Vol_refuse : Mv y_Vol_refuse b_Vol_refuse 3 (some .int) 1 := ⟨(tm_1 _ (List.mem_of_getElem? (i := 145) rfl)), (List.mem_of_getElem? (i := 0) (by decide +kernel)), (tm_1 _ (List.mem_of_getElem? (i := 1) rfl)), (tm_1 _ (List.mem_of_getElem? (i := 146) rfl)), ⟨by decide +kernel, by decide +kernel⟩, by decide +kernel⟩
def y_Vol_firstWrongPlace : MethodName := ⟨zc_Vol, "firstWrongPlace", "(I)I"⟩
abbrev b_Vol_firstWrongPlace : ByteArray := prog_1_method_43_code
theorem mv_Vol_firstWrongPlace : Mv y_Vol_firstWrongPlace b_Vol_firstWrongPlace 4 (some .int) 1 := ⟨(tm_3 _ (List.mem_of_getElem? (i := 221) rfl)), (List.mem_of_getElem? (i := 81) (by decide +kernel)), (tm_1 _ (List.mem_of_getElem? (i := 1) rfl)), (tm_3 _ (List.mem_of_getElem? (i := 222) rfl)), ⟨by decide +kernel, by decide +kernel⟩, by decide +kernel⟩
def y_Vol_firstWrongRun : MethodName := ⟨zc_Vol, "firstWrongRun", "()I"⟩
abbrev b_Vol_firstWrongRun : ByteArray := prog_1_method_44_code
theorem mv_Vol_firstWrongRun : Mv y_Vol_firstWrongRun b_Vol_firstWrongRun 5 (some .int) 0 := ⟨(tm_3 _ (List.mem_of_getElem? (i := 230) rfl)), (List.mem_of_getElem? (i := 82) (by decide +kernel)), (tm_1 _ (List.mem_of_getElem? (i := 1) rfl)), (tm_3 _ (List.mem_of_getElem? (i := 231) rfl)), ⟨by decide +kernel, by decide +kernel⟩, by decide +kernel⟩
def y_Vol_isFile : MethodName := ⟨zc_Vol, "isFile", "(I)Z"⟩
abbrev b_Vol_isFile : ByteArray := prog_1_method_45_code
theorem mv_Vol_isFile : Ms y_Vol_isFile b_Vol_isFile 1 (some .boolean) 1 := ⟨(tm_1 _ (List.mem_of_getElem? (i := 197) rfl)), (tm_1 _ (List.mem_of_getElem? (i := 1) rfl)), (tm_1 _ (List.mem_of_getElem? (i := 198) rfl)), ⟨by decide +kernel, by decide +kernel⟩, by decide +kernel⟩
def y_Vol_isPage : MethodName := ⟨zc_Vol, "isPage", "(I)Z"⟩
abbrev b_Vol_isPage : ByteArray := prog_1_method_46_code
theorem mv_Vol_isPage : Ms y_Vol_isPage b_Vol_isPage 1 (some .boolean) 1 := ⟨(tm_1 _ (List.mem_of_getElem? (i := 205) rfl)), (tm_1 _ (List.mem_of_getElem? (i := 1) rfl)), (tm_1 _ (List.mem_of_getElem? (i := 206) rfl)), ⟨by decide +kernel, by decide +kernel⟩, by decide +kernel⟩
def y_Vol_isBlock : MethodName := ⟨zc_Vol, "isBlock", "(I)Z"⟩
abbrev b_Vol_isBlock : ByteArray := prog_1_method_47_code
theorem mv_Vol_isBlock : Ms y_Vol_isBlock b_Vol_isBlock 1 (some .boolean) 1 := ⟨(tm_2 _ (List.mem_of_getElem? (i := 69) rfl)), (tm_1 _ (List.mem_of_getElem? (i := 1) rfl)), (tm_2 _ (List.mem_of_getElem? (i := 70) rfl)), ⟨by decide +kernel, by decide +kernel⟩, by decide +kernel⟩
def y_Vol_isEither : MethodName := ⟨zc_Vol, "isEither", "(I)Z"⟩
abbrev b_Vol_isEither : ByteArray := prog_1_method_48_code
theorem mv_Vol_isEither : Ms y_Vol_isEither b_Vol_isEither 1 (some .boolean) 1 := ⟨(tm_2 _ (List.mem_of_getElem? (i := 216) rfl)), (tm_1 _ (List.mem_of_getElem? (i := 1) rfl)), (tm_2 _ (List.mem_of_getElem? (i := 217) rfl)), ⟨by decide +kernel, by decide +kernel⟩, by decide +kernel⟩
def y_Vol_refusalOfSize : MethodName := ⟨zc_Vol, "refusalOfSize", "(I)I"⟩
abbrev b_Vol_refusalOfSize : ByteArray := prog_1_method_49_code
theorem mv_Vol_refusalOfSize : Ms y_Vol_refusalOfSize b_Vol_refusalOfSize 1 (some .int) 1 := ⟨(tm_2 _ (List.mem_of_getElem? (i := 237) rfl)), (tm_1 _ (List.mem_of_getElem? (i := 1) rfl)), (tm_2 _ (List.mem_of_getElem? (i := 238) rfl)), ⟨by decide +kernel, by decide +kernel⟩, by decide +kernel⟩
def y_Vol_orNothing : MethodName := ⟨zc_Vol, "orNothing", "(I)I"⟩
abbrev b_Vol_orNothing : ByteArray := prog_1_method_50_code
theorem mv_Vol_orNothing : Ms y_Vol_orNothing b_Vol_orNothing 1 (some .int) 1 := ⟨(tm_2 _ (List.mem_of_getElem? (i := 127) rfl)), (tm_1 _ (List.mem_of_getElem? (i := 1) rfl)), (tm_2 _ (List.mem_of_getElem? (i := 128) rfl)), ⟨by decide +kernel, by decide +kernel⟩, by decide +kernel⟩
def y_Vol_depthOf : MethodName := ⟨zc_Vol, "depthOf", "(I)I"⟩
abbrev b_Vol_depthOf : ByteArray := prog_1_method_51_code
theorem mv_Vol_depthOf : Ms y_Vol_depthOf b_Vol_depthOf 1 (some .int) 1 := ⟨(tm_2 _ (List.mem_of_getElem? (i := 158) rfl)), (tm_1 _ (List.mem_of_getElem? (i := 1) rfl)), (tm_2 _ (List.mem_of_getElem? (i := 159) rfl)), ⟨by decide +kernel, by decide +kernel⟩, by decide +kernel⟩
def y_Vol_fileOfOrder : MethodName := ⟨zc_Vol, "fileOfOrder", "(II)I"⟩
abbrev b_Vol_fileOfOrder : ByteArray := prog_1_method_52_code
theorem mv_Vol_fileOfOrder : Ms y_Vol_fileOfOrder b_Vol_fileOfOrder 2 (some .int) 2 := ⟨(tm_3 _ (List.mem_of_getElem? (i := 60) rfl)), (tm_1 _ (List.mem_of_getElem? (i := 1) rfl)), (tm_3 _ (List.mem_of_getElem? (i := 61) rfl)), ⟨by decide +kernel, by decide +kernel⟩, by decide +kernel⟩
def y_Vol_orderInDigits : MethodName := ⟨zc_Vol, "orderInDigits", "(I)I"⟩
abbrev b_Vol_orderInDigits : ByteArray := prog_1_method_53_code
theorem mv_Vol_orderInDigits : Ms y_Vol_orderInDigits b_Vol_orderInDigits 3 (some .int) 1 := ⟨(tm_3 _ (List.mem_of_getElem? (i := 72) rfl)), (tm_1 _ (List.mem_of_getElem? (i := 1) rfl)), (tm_3 _ (List.mem_of_getElem? (i := 73) rfl)), ⟨by decide +kernel, by decide +kernel⟩, by decide +kernel⟩
def y_Vol_partOf : MethodName := ⟨zc_Vol, "partOf", "(III)J"⟩
abbrev b_Vol_partOf : ByteArray := prog_1_method_54_code
theorem mv_Vol_partOf : Ms y_Vol_partOf b_Vol_partOf 4 (some .long) 3 := ⟨(tm_3 _ (List.mem_of_getElem? (i := 181) rfl)), (tm_1 _ (List.mem_of_getElem? (i := 1) rfl)), (tm_3 _ (List.mem_of_getElem? (i := 182) rfl)), ⟨by decide +kernel, by decide +kernel⟩, by decide +kernel⟩
def y_Vol_greatestDivisor : MethodName := ⟨zc_Vol, "greatestDivisor", "(II)I"⟩
abbrev b_Vol_greatestDivisor : ByteArray := prog_1_method_55_code
theorem mv_Vol_greatestDivisor : Ms y_Vol_greatestDivisor b_Vol_greatestDivisor 6 (some .int) 2 := ⟨(tm_3 _ (List.mem_of_getElem? (i := 184) rfl)), (tm_1 _ (List.mem_of_getElem? (i := 1) rfl)), (tm_3 _ (List.mem_of_getElem? (i := 185) rfl)), ⟨by decide +kernel, by decide +kernel⟩, by decide +kernel⟩
def y_Mod_init : MethodName := ⟨zc_Mod, "<init>", "()V"⟩
abbrev b_Mod_init : ByteArray := prog_8_method_1_code
def y_Mod_no : MethodName := ⟨zc_Mod, "no", "(I)I"⟩
abbrev b_Mod_no : ByteArray := prog_8_method_2_code
theorem mv_Mod_no : Mv y_Mod_no b_Mod_no 2 (some .int) 1 := ⟨(tm_4 _ (List.mem_of_getElem? (i := 125) rfl)), (List.mem_of_getElem? (i := 86) (by decide +kernel)), (tm_1 _ (List.mem_of_getElem? (i := 8) rfl)), (tm_4 _ (List.mem_of_getElem? (i := 126) rfl)), ⟨by decide +kernel, by decide +kernel⟩, by decide +kernel⟩
def y_Mod_lower : MethodName := ⟨zc_Mod, "lower", "(I)I"⟩
abbrev b_Mod_lower : ByteArray := prog_8_method_3_code
theorem mv_Mod_lower : Mv y_Mod_lower b_Mod_lower 2 (some .int) 1 := ⟨(tm_6 _ (List.mem_of_getElem? (i := 52) rfl)), (List.mem_of_getElem? (i := 151) (by decide +kernel)), (tm_1 _ (List.mem_of_getElem? (i := 8) rfl)), (tm_6 _ (List.mem_of_getElem? (i := 53) rfl)), ⟨by decide +kernel, by decide +kernel⟩, by decide +kernel⟩
def y_Mod_lowestOf : MethodName := ⟨zc_Mod, "lowestOf", "(I)J"⟩
abbrev b_Mod_lowestOf : ByteArray := prog_8_method_4_code
theorem mv_Mod_lowestOf : Mv y_Mod_lowestOf b_Mod_lowestOf 2 (some .long) 1 := ⟨(tm_6 _ (List.mem_of_getElem? (i := 61) rfl)), (List.mem_of_getElem? (i := 152) (by decide +kernel)), (tm_1 _ (List.mem_of_getElem? (i := 8) rfl)), (tm_6 _ (List.mem_of_getElem? (i := 62) rfl)), ⟨by decide +kernel, by decide +kernel⟩, by decide +kernel⟩
def y_Mod_isIn : MethodName := ⟨zc_Mod, "isIn", "(III)Z"⟩
abbrev b_Mod_isIn : ByteArray := prog_8_method_5_code
theorem mv_Mod_isIn : Ms y_Mod_isIn b_Mod_isIn 3 (some .boolean) 3 := ⟨(tm_4 _ (List.mem_of_getElem? (i := 148) rfl)), (tm_1 _ (List.mem_of_getElem? (i := 8) rfl)), (tm_4 _ (List.mem_of_getElem? (i := 149) rfl)), ⟨by decide +kernel, by decide +kernel⟩, by decide +kernel⟩
def y_Mod_bound : MethodName := ⟨zc_Mod, "bound", "(III)I"⟩
abbrev b_Mod_bound : ByteArray := prog_8_method_6_code
theorem mv_Mod_bound : Ms y_Mod_bound b_Mod_bound 3 (some .int) 3 := ⟨(tm_4 _ (List.mem_of_getElem? (i := 121) rfl)), (tm_1 _ (List.mem_of_getElem? (i := 8) rfl)), (tm_4 _ (List.mem_of_getElem? (i := 122) rfl)), ⟨by decide +kernel, by decide +kernel⟩, by decide +kernel⟩
def y_Mod_apart : MethodName := ⟨zc_Mod, "apart", "(II)I"⟩
abbrev b_Mod_apart : ByteArray := prog_8_method_7_code
theorem mv_Mod_apart : Ms y_Mod_apart b_Mod_apart 2 (some .int) 2 := ⟨(tm_5 _ (List.mem_of_getElem? (i := 40) rfl)), (tm_1 _ (List.mem_of_getElem? (i := 8) rfl)), (tm_5 _ (List.mem_of_getElem? (i := 41) rfl)), ⟨by decide +kernel, by decide +kernel⟩, by decide +kernel⟩
def y_Mod_isFile : MethodName := ⟨zc_Mod, "isFile", "(I)Z"⟩
abbrev b_Mod_isFile : ByteArray := prog_8_method_8_code
theorem mv_Mod_isFile : Ms y_Mod_isFile b_Mod_isFile 1 (some .boolean) 1 := ⟨(tm_4 _ (List.mem_of_getElem? (i := 170) rfl)), (tm_1 _ (List.mem_of_getElem? (i := 8) rfl)), (tm_4 _ (List.mem_of_getElem? (i := 171) rfl)), ⟨by decide +kernel, by decide +kernel⟩, by decide +kernel⟩
def y_Mod_isPage : MethodName := ⟨zc_Mod, "isPage", "(I)Z"⟩
abbrev b_Mod_isPage : ByteArray := prog_8_method_9_code
theorem mv_Mod_isPage : Ms y_Mod_isPage b_Mod_isPage 1 (some .boolean) 1 := ⟨(tm_4 _ (List.mem_of_getElem? (i := 177) rfl)), (tm_1 _ (List.mem_of_getElem? (i := 8) rfl)), (tm_4 _ (List.mem_of_getElem? (i := 178) rfl)), ⟨by decide +kernel, by decide +kernel⟩, by decide +kernel⟩
def y_Mod_isBlock : MethodName := ⟨zc_Mod, "isBlock", "(I)Z"⟩
abbrev b_Mod_isBlock : ByteArray := prog_8_method_10_code
theorem mv_Mod_isBlock : Ms y_Mod_isBlock b_Mod_isBlock 1 (some .boolean) 1 := ⟨(tm_5 _ (List.mem_of_getElem? (i := 186) rfl)), (tm_1 _ (List.mem_of_getElem? (i := 8) rfl)), (tm_5 _ (List.mem_of_getElem? (i := 187) rfl)), ⟨by decide +kernel, by decide +kernel⟩, by decide +kernel⟩
def y_Mod_isPlaced : MethodName := ⟨zc_Mod, "isPlaced", "(I)Z"⟩
abbrev b_Mod_isPlaced : ByteArray := prog_8_method_11_code
theorem mv_Mod_isPlaced : Mv y_Mod_isPlaced b_Mod_isPlaced 2 (some .boolean) 1 := ⟨(tm_4 _ (List.mem_of_getElem? (i := 189) rfl)), (List.mem_of_getElem? (i := 98) (by decide +kernel)), (tm_1 _ (List.mem_of_getElem? (i := 8) rfl)), (tm_4 _ (List.mem_of_getElem? (i := 190) rfl)), ⟨by decide +kernel, by decide +kernel⟩, by decide +kernel⟩
def y_Mod_isWaiting : MethodName := ⟨zc_Mod, "isWaiting", "(I)Z"⟩
abbrev b_Mod_isWaiting : ByteArray := prog_8_method_12_code
theorem mv_Mod_isWaiting : Mv y_Mod_isWaiting b_Mod_isWaiting 2 (some .boolean) 1 := ⟨(tm_4 _ (List.mem_of_getElem? (i := 193) rfl)), (List.mem_of_getElem? (i := 99) (by decide +kernel)), (tm_1 _ (List.mem_of_getElem? (i := 8) rfl)), (tm_4 _ (List.mem_of_getElem? (i := 194) rfl)), ⟨by decide +kernel, by decide +kernel⟩, by decide +kernel⟩
def y_Mod_isHole : MethodName := ⟨zc_Mod, "isHole", "(I)Z"⟩
abbrev b_Mod_isHole : ByteArray := prog_8_method_13_code
theorem mv_Mod_isHole : Mv y_Mod_isHole b_Mod_isHole 2 (some .boolean) 1 := ⟨(tm_4 _ (List.mem_of_getElem? (i := 185) rfl)), (List.mem_of_getElem? (i := 97) (by decide +kernel)), (tm_1 _ (List.mem_of_getElem? (i := 8) rfl)), (tm_4 _ (List.mem_of_getElem? (i := 186) rfl)), ⟨by decide +kernel, by decide +kernel⟩, by decide +kernel⟩
def y_Mod_isToPlace : MethodName := ⟨zc_Mod, "isToPlace", "(I)Z"⟩
abbrev b_Mod_isToPlace : ByteArray := prog_8_method_14_code
theorem mv_Mod_isToPlace : Mv y_Mod_isToPlace b_Mod_isToPlace 2 (some .boolean) 1 := ⟨(tm_4 _ (List.mem_of_getElem? (i := 209) rfl)), (List.mem_of_getElem? (i := 103) (by decide +kernel)), (tm_1 _ (List.mem_of_getElem? (i := 8) rfl)), (tm_4 _ (List.mem_of_getElem? (i := 210) rfl)), ⟨by decide +kernel, by decide +kernel⟩, by decide +kernel⟩
def y_Mod_freeBlocks : MethodName := ⟨zc_Mod, "freeBlocks", "()I"⟩
abbrev b_Mod_freeBlocks : ByteArray := prog_8_method_15_code
theorem mv_Mod_freeBlocks : Mv y_Mod_freeBlocks b_Mod_freeBlocks 3 (some .int) 0 := ⟨(tm_4 _ (List.mem_of_getElem? (i := 201) rfl)), (List.mem_of_getElem? (i := 101) (by decide +kernel)), (tm_1 _ (List.mem_of_getElem? (i := 8) rfl)), (tm_4 _ (List.mem_of_getElem? (i := 202) rfl)), ⟨by decide +kernel, by decide +kernel⟩, by decide +kernel⟩
def y_Mod_reserved : MethodName := ⟨zc_Mod, "reserved", "()I"⟩
abbrev b_Mod_reserved : ByteArray := prog_8_method_16_code
theorem mv_Mod_reserved : Mv y_Mod_reserved b_Mod_reserved 3 (some .int) 0 := ⟨(tm_4 _ (List.mem_of_getElem? (i := 205) rfl)), (List.mem_of_getElem? (i := 102) (by decide +kernel)), (tm_1 _ (List.mem_of_getElem? (i := 8) rfl)), (tm_4 _ (List.mem_of_getElem? (i := 206) rfl)), ⟨by decide +kernel, by decide +kernel⟩, by decide +kernel⟩
def y_Mod_roomNow : MethodName := ⟨zc_Mod, "roomNow", "()I"⟩
abbrev b_Mod_roomNow : ByteArray := prog_8_method_17_code
theorem mv_Mod_roomNow : Mv y_Mod_roomNow b_Mod_roomNow 1 (some .int) 0 := ⟨(tm_4 _ (List.mem_of_getElem? (i := 197) rfl)), (List.mem_of_getElem? (i := 100) (by decide +kernel)), (tm_1 _ (List.mem_of_getElem? (i := 8) rfl)), (tm_4 _ (List.mem_of_getElem? (i := 198) rfl)), ⟨by decide +kernel, by decide +kernel⟩, by decide +kernel⟩
def y_Mod_readAt : MethodName := ⟨zc_Mod, "readAt", "(I)I"⟩
abbrev b_Mod_readAt : ByteArray := prog_8_method_18_code
theorem mv_Mod_readAt : Mv y_Mod_readAt b_Mod_readAt 2 (some .int) 1 := ⟨(tm_5 _ (List.mem_of_getElem? (i := 139) rfl)), (List.mem_of_getElem? (i := 138) (by decide +kernel)), (tm_1 _ (List.mem_of_getElem? (i := 8) rfl)), (tm_5 _ (List.mem_of_getElem? (i := 140) rfl)), ⟨by decide +kernel, by decide +kernel⟩, by decide +kernel⟩
def y_Mod_beginsExtent : MethodName := ⟨zc_Mod, "beginsExtent", "(I)Z"⟩
abbrev b_Mod_beginsExtent : ByteArray := prog_8_method_19_code
theorem mv_Mod_beginsExtent : Mv y_Mod_beginsExtent b_Mod_beginsExtent 2 (some .boolean) 1 := ⟨(tm_5 _ (List.mem_of_getElem? (i := 124) rfl)), (List.mem_of_getElem? (i := 136) (by decide +kernel)), (tm_1 _ (List.mem_of_getElem? (i := 8) rfl)), (tm_5 _ (List.mem_of_getElem? (i := 125) rfl)), ⟨by decide +kernel, by decide +kernel⟩, by decide +kernel⟩
def y_Mod_extents : MethodName := ⟨zc_Mod, "extents", "(I)I"⟩
abbrev b_Mod_extents : ByteArray := prog_8_method_20_code
theorem mv_Mod_extents : Mv y_Mod_extents b_Mod_extents 4 (some .int) 1 := ⟨(tm_5 _ (List.mem_of_getElem? (i := 120) rfl)), (List.mem_of_getElem? (i := 135) (by decide +kernel)), (tm_1 _ (List.mem_of_getElem? (i := 8) rfl)), (tm_5 _ (List.mem_of_getElem? (i := 121) rfl)), ⟨by decide +kernel, by decide +kernel⟩, by decide +kernel⟩
def y_Mod_allExtents : MethodName := ⟨zc_Mod, "allExtents", "()I"⟩
abbrev b_Mod_allExtents : ByteArray := prog_8_method_21_code
theorem mv_Mod_allExtents : Mv y_Mod_allExtents b_Mod_allExtents 3 (some .int) 0 := ⟨(tm_5 _ (List.mem_of_getElem? (i := 229) rfl)), (List.mem_of_getElem? (i := 144) (by decide +kernel)), (tm_1 _ (List.mem_of_getElem? (i := 8) rfl)), (tm_5 _ (List.mem_of_getElem? (i := 230) rfl)), ⟨by decide +kernel, by decide +kernel⟩, by decide +kernel⟩
def y_Mod_runSize : MethodName := ⟨zc_Mod, "runSize", "(I)I"⟩
abbrev b_Mod_runSize : ByteArray := prog_8_method_22_code
theorem mv_Mod_runSize : Mv y_Mod_runSize b_Mod_runSize 3 (some .int) 1 := ⟨(tm_5 _ (List.mem_of_getElem? (i := 13) rfl)), (List.mem_of_getElem? (i := 113) (by decide +kernel)), (tm_1 _ (List.mem_of_getElem? (i := 8) rfl)), (tm_5 _ (List.mem_of_getElem? (i := 14) rfl)), ⟨by decide +kernel, by decide +kernel⟩, by decide +kernel⟩
def y_Mod_beginsRun : MethodName := ⟨zc_Mod, "beginsRun", "(I)Z"⟩
abbrev b_Mod_beginsRun : ByteArray := prog_8_method_23_code
theorem mv_Mod_beginsRun : Mv y_Mod_beginsRun b_Mod_beginsRun 2 (some .boolean) 1 := ⟨(tm_5 _ (List.mem_of_getElem? (i := 9) rfl)), (List.mem_of_getElem? (i := 112) (by decide +kernel)), (tm_1 _ (List.mem_of_getElem? (i := 8) rfl)), (tm_5 _ (List.mem_of_getElem? (i := 10) rfl)), ⟨by decide +kernel, by decide +kernel⟩, by decide +kernel⟩
def y_Mod_runs : MethodName := ⟨zc_Mod, "runs", "()I"⟩
abbrev b_Mod_runs : ByteArray := prog_8_method_24_code
theorem mv_Mod_runs : Mv y_Mod_runs b_Mod_runs 3 (some .int) 0 := ⟨(tm_6 _ (List.mem_of_getElem? (i := 123) rfl)), (List.mem_of_getElem? (i := 157) (by decide +kernel)), (tm_1 _ (List.mem_of_getElem? (i := 8) rfl)), (tm_6 _ (List.mem_of_getElem? (i := 124) rfl)), ⟨by decide +kernel, by decide +kernel⟩, by decide +kernel⟩
def y_Mod_greatest : MethodName := ⟨zc_Mod, "greatest", "()I"⟩
abbrev b_Mod_greatest : ByteArray := prog_8_method_25_code
theorem mv_Mod_greatest : Mv y_Mod_greatest b_Mod_greatest 3 (some .int) 0 := ⟨(tm_5 _ (List.mem_of_getElem? (i := 5) rfl)), (List.mem_of_getElem? (i := 111) (by decide +kernel)), (tm_1 _ (List.mem_of_getElem? (i := 8) rfl)), (tm_5 _ (List.mem_of_getElem? (i := 6) rfl)), ⟨by decide +kernel, by decide +kernel⟩, by decide +kernel⟩
def y_Mod_greatestSize : MethodName := ⟨zc_Mod, "greatestSize", "()I"⟩
abbrev b_Mod_greatestSize : ByteArray := prog_8_method_26_code
theorem mv_Mod_greatestSize : Mv y_Mod_greatestSize b_Mod_greatestSize 2 (some .int) 0 := ⟨(tm_5 _ (List.mem_of_getElem? (i := 1) rfl)), (List.mem_of_getElem? (i := 110) (by decide +kernel)), (tm_1 _ (List.mem_of_getElem? (i := 8) rfl)), (tm_5 _ (List.mem_of_getElem? (i := 2) rfl)), ⟨by decide +kernel, by decide +kernel⟩, by decide +kernel⟩
def y_Mod_fitOf : MethodName := ⟨zc_Mod, "fitOf", "(I)I"⟩
abbrev b_Mod_fitOf : ByteArray := prog_8_method_27_code
theorem mv_Mod_fitOf : Mv y_Mod_fitOf b_Mod_fitOf 4 (some .int) 1 := ⟨(tm_5 _ (List.mem_of_getElem? (i := 25) rfl)), (List.mem_of_getElem? (i := 116) (by decide +kernel)), (tm_1 _ (List.mem_of_getElem? (i := 8) rfl)), (tm_5 _ (List.mem_of_getElem? (i := 26) rfl)), ⟨by decide +kernel, by decide +kernel⟩, by decide +kernel⟩
def y_Mod_nearestOf : MethodName := ⟨zc_Mod, "nearestOf", "(II)I"⟩
abbrev b_Mod_nearestOf : ByteArray := prog_8_method_28_code
theorem mv_Mod_nearestOf : Mv y_Mod_nearestOf b_Mod_nearestOf 5 (some .int) 2 := ⟨(tm_5 _ (List.mem_of_getElem? (i := 37) rfl)), (List.mem_of_getElem? (i := 119) (by decide +kernel)), (tm_1 _ (List.mem_of_getElem? (i := 8) rfl)), (tm_5 _ (List.mem_of_getElem? (i := 38) rfl)), ⟨by decide +kernel, by decide +kernel⟩, by decide +kernel⟩
def y_Mod_stripeOf : MethodName := ⟨zc_Mod, "stripeOf", "(I)I"⟩
abbrev b_Mod_stripeOf : ByteArray := prog_8_method_29_code
theorem mv_Mod_stripeOf : Mv y_Mod_stripeOf b_Mod_stripeOf 3 (some .int) 1 := ⟨(tm_5 _ (List.mem_of_getElem? (i := 33) rfl)), (List.mem_of_getElem? (i := 118) (by decide +kernel)), (tm_1 _ (List.mem_of_getElem? (i := 8) rfl)), (tm_5 _ (List.mem_of_getElem? (i := 34) rfl)), ⟨by decide +kernel, by decide +kernel⟩, by decide +kernel⟩
def y_Mod_steps_ : MethodName := ⟨zc_Mod, "steps_", "()Z"⟩
abbrev b_Mod_steps_ : ByteArray := prog_8_method_30_code
theorem mv_Mod_steps_ : Mv y_Mod_steps_ b_Mod_steps_ 1 (some .boolean) 0 := ⟨(tm_4 _ (List.mem_of_getElem? (i := 237) rfl)), (List.mem_of_getElem? (i := 109) (by decide +kernel)), (tm_1 _ (List.mem_of_getElem? (i := 8) rfl)), (tm_4 _ (List.mem_of_getElem? (i := 238) rfl)), ⟨by decide +kernel, by decide +kernel⟩, by decide +kernel⟩
def y_Mod_goalOf : MethodName := ⟨zc_Mod, "goalOf", "(I)I"⟩
abbrev b_Mod_goalOf : ByteArray := prog_8_method_31_code
theorem mv_Mod_goalOf : Mv y_Mod_goalOf b_Mod_goalOf 2 (some .int) 1 := ⟨(tm_5 _ (List.mem_of_getElem? (i := 17) rfl)), (List.mem_of_getElem? (i := 114) (by decide +kernel)), (tm_1 _ (List.mem_of_getElem? (i := 8) rfl)), (tm_5 _ (List.mem_of_getElem? (i := 18) rfl)), ⟨by decide +kernel, by decide +kernel⟩, by decide +kernel⟩
def y_Mod_nearPlace : MethodName := ⟨zc_Mod, "nearPlace", "(II)I"⟩
abbrev b_Mod_nearPlace : ByteArray := prog_8_method_32_code
theorem mv_Mod_nearPlace : Mv y_Mod_nearPlace b_Mod_nearPlace 3 (some .int) 2 := ⟨(tm_5 _ (List.mem_of_getElem? (i := 29) rfl)), (List.mem_of_getElem? (i := 117) (by decide +kernel)), (tm_1 _ (List.mem_of_getElem? (i := 8) rfl)), (tm_5 _ (List.mem_of_getElem? (i := 30) rfl)), ⟨by decide +kernel, by decide +kernel⟩, by decide +kernel⟩
def y_Mod_placeBy : MethodName := ⟨zc_Mod, "placeBy", "(III)I"⟩
abbrev b_Mod_placeBy : ByteArray := prog_8_method_33_code
theorem mv_Mod_placeBy : Mv y_Mod_placeBy b_Mod_placeBy 7 (some .int) 3 := ⟨(tm_5 _ (List.mem_of_getElem? (i := 21) rfl)), (List.mem_of_getElem? (i := 115) (by decide +kernel)), (tm_1 _ (List.mem_of_getElem? (i := 8) rfl)), (tm_5 _ (List.mem_of_getElem? (i := 22) rfl)), ⟨by decide +kernel, by decide +kernel⟩, by decide +kernel⟩
def y_Mod_placesPiece : MethodName := ⟨zc_Mod, "placesPiece", "(III)V"⟩
abbrev b_Mod_placesPiece : ByteArray := prog_8_method_34_code
theorem mv_Mod_placesPiece : Mv y_Mod_placesPiece b_Mod_placesPiece 5 none 3 := ⟨(tm_5 _ (List.mem_of_getElem? (i := 44) rfl)), (List.mem_of_getElem? (i := 120) (by decide +kernel)), (tm_1 _ (List.mem_of_getElem? (i := 8) rfl)), (tm_5 _ (List.mem_of_getElem? (i := 45) rfl)), ⟨by decide +kernel, by decide +kernel⟩, by decide +kernel⟩
def y_Mod_puts : MethodName := ⟨zc_Mod, "puts", "(II)Z"⟩
abbrev b_Mod_puts : ByteArray := prog_8_method_35_code
theorem mv_Mod_puts : Mv y_Mod_puts b_Mod_puts 6 (some .boolean) 2 := ⟨(tm_4 _ (List.mem_of_getElem? (i := 233) rfl)), (List.mem_of_getElem? (i := 108) (by decide +kernel)), (tm_1 _ (List.mem_of_getElem? (i := 8) rfl)), (tm_4 _ (List.mem_of_getElem? (i := 234) rfl)), ⟨by decide +kernel, by decide +kernel⟩, by decide +kernel⟩
def y_Mod_seriesToPlace : MethodName := ⟨zc_Mod, "seriesToPlace", "(II)I"⟩
abbrev b_Mod_seriesToPlace : ByteArray := prog_8_method_36_code
theorem mv_Mod_seriesToPlace : Mv y_Mod_seriesToPlace b_Mod_seriesToPlace 4 (some .int) 2 := ⟨(tm_5 _ (List.mem_of_getElem? (i := 84) rfl)), (List.mem_of_getElem? (i := 130) (by decide +kernel)), (tm_1 _ (List.mem_of_getElem? (i := 8) rfl)), (tm_5 _ (List.mem_of_getElem? (i := 85) rfl)), ⟨by decide +kernel, by decide +kernel⟩, by decide +kernel⟩
def y_Mod_placesAll : MethodName := ⟨zc_Mod, "placesAll", "(I)Z"⟩
abbrev b_Mod_placesAll : ByteArray := prog_8_method_37_code
theorem mv_Mod_placesAll : Mv y_Mod_placesAll b_Mod_placesAll 4 (some .boolean) 1 := ⟨(tm_5 _ (List.mem_of_getElem? (i := 80) rfl)), (List.mem_of_getElem? (i := 129) (by decide +kernel)), (tm_1 _ (List.mem_of_getElem? (i := 8) rfl)), (tm_5 _ (List.mem_of_getElem? (i := 81) rfl)), ⟨by decide +kernel, by decide +kernel⟩, by decide +kernel⟩
def y_Mod_writesAll : MethodName := ⟨zc_Mod, "writesAll", "(I)V"⟩
abbrev b_Mod_writesAll : ByteArray := prog_8_method_38_code
theorem mv_Mod_writesAll : Mv y_Mod_writesAll b_Mod_writesAll 3 none 1 := ⟨(tm_5 _ (List.mem_of_getElem? (i := 88) rfl)), (List.mem_of_getElem? (i := 131) (by decide +kernel)), (tm_1 _ (List.mem_of_getElem? (i := 8) rfl)), (tm_5 _ (List.mem_of_getElem? (i := 89) rfl)), ⟨by decide +kernel, by decide +kernel⟩, by decide +kernel⟩
def y_Mod_flushes : MethodName := ⟨zc_Mod, "flushes", "(II)I"⟩
abbrev b_Mod_flushes : ByteArray := prog_8_method_39_code
theorem mv_Mod_flushes : Mv y_Mod_flushes b_Mod_flushes 3 (some .int) 2 := ⟨(tm_5 _ (List.mem_of_getElem? (i := 76) rfl)), (List.mem_of_getElem? (i := 128) (by decide +kernel)), (tm_1 _ (List.mem_of_getElem? (i := 8) rfl)), (tm_5 _ (List.mem_of_getElem? (i := 77) rfl)), ⟨by decide +kernel, by decide +kernel⟩, by decide +kernel⟩
def y_Mod_allWaiting : MethodName := ⟨zc_Mod, "allWaiting", "()I"⟩
abbrev b_Mod_allWaiting : ByteArray := prog_8_method_40_code
theorem mv_Mod_allWaiting : Mv y_Mod_allWaiting b_Mod_allWaiting 3 (some .int) 0 := ⟨(tm_5 _ (List.mem_of_getElem? (i := 96) rfl)), (List.mem_of_getElem? (i := 133) (by decide +kernel)), (tm_1 _ (List.mem_of_getElem? (i := 8) rfl)), (tm_5 _ (List.mem_of_getElem? (i := 97) rfl)), ⟨by decide +kernel, by decide +kernel⟩, by decide +kernel⟩
def y_Mod_crashes : MethodName := ⟨zc_Mod, "crashes", "(II)I"⟩
abbrev b_Mod_crashes : ByteArray := prog_8_method_41_code
theorem mv_Mod_crashes : Mv y_Mod_crashes b_Mod_crashes 5 (some .int) 2 := ⟨(tm_5 _ (List.mem_of_getElem? (i := 92) rfl)), (List.mem_of_getElem? (i := 132) (by decide +kernel)), (tm_1 _ (List.mem_of_getElem? (i := 8) rfl)), (tm_5 _ (List.mem_of_getElem? (i := 93) rfl)), ⟨by decide +kernel, by decide +kernel⟩, by decide +kernel⟩
def y_Mod_placedOf : MethodName := ⟨zc_Mod, "placedOf", "(I)I"⟩
abbrev b_Mod_placedOf : ByteArray := prog_8_method_42_code
theorem mv_Mod_placedOf : Mv y_Mod_placedOf b_Mod_placedOf 4 (some .int) 1 := ⟨(tm_5 _ (List.mem_of_getElem? (i := 64) rfl)), (List.mem_of_getElem? (i := 125) (by decide +kernel)), (tm_1 _ (List.mem_of_getElem? (i := 8) rfl)), (tm_5 _ (List.mem_of_getElem? (i := 65) rfl)), ⟨by decide +kernel, by decide +kernel⟩, by decide +kernel⟩
def y_Mod_canSettle : MethodName := ⟨zc_Mod, "canSettle", "(I)Z"⟩
abbrev b_Mod_canSettle : ByteArray := prog_8_method_43_code
theorem mv_Mod_canSettle : Mv y_Mod_canSettle b_Mod_canSettle 2 (some .boolean) 1 := ⟨(tm_5 _ (List.mem_of_getElem? (i := 60) rfl)), (List.mem_of_getElem? (i := 124) (by decide +kernel)), (tm_1 _ (List.mem_of_getElem? (i := 8) rfl)), (tm_5 _ (List.mem_of_getElem? (i := 61) rfl)), ⟨by decide +kernel, by decide +kernel⟩, by decide +kernel⟩
def y_Mod_settles : MethodName := ⟨zc_Mod, "settles", "(I)I"⟩
abbrev b_Mod_settles : ByteArray := prog_8_method_44_code
theorem mv_Mod_settles : Mv y_Mod_settles b_Mod_settles 5 (some .int) 1 := ⟨(tm_5 _ (List.mem_of_getElem? (i := 68) rfl)), (List.mem_of_getElem? (i := 126) (by decide +kernel)), (tm_1 _ (List.mem_of_getElem? (i := 8) rfl)), (tm_5 _ (List.mem_of_getElem? (i := 69) rfl)), ⟨by decide +kernel, by decide +kernel⟩, by decide +kernel⟩
def y_Mod_saysAt : MethodName := ⟨zc_Mod, "saysAt", "(II)V"⟩
abbrev b_Mod_saysAt : ByteArray := prog_8_method_45_code
theorem mv_Mod_saysAt : Mv y_Mod_saysAt b_Mod_saysAt 3 none 2 := ⟨(tm_4 _ (List.mem_of_getElem? (i := 213) rfl)), (List.mem_of_getElem? (i := 104) (by decide +kernel)), (tm_1 _ (List.mem_of_getElem? (i := 8) rfl)), (tm_4 _ (List.mem_of_getElem? (i := 214) rfl)), ⟨by decide +kernel, by decide +kernel⟩, by decide +kernel⟩
def y_Mod_canSay : MethodName := ⟨zc_Mod, "canSay", "(I)Z"⟩
abbrev b_Mod_canSay : ByteArray := prog_8_method_46_code
theorem mv_Mod_canSay : Mv y_Mod_canSay b_Mod_canSay 2 (some .boolean) 1 := ⟨(tm_4 _ (List.mem_of_getElem? (i := 181) rfl)), (List.mem_of_getElem? (i := 96) (by decide +kernel)), (tm_1 _ (List.mem_of_getElem? (i := 8) rfl)), (tm_4 _ (List.mem_of_getElem? (i := 182) rfl)), ⟨by decide +kernel, by decide +kernel⟩, by decide +kernel⟩
def y_Mod_holesAmong : MethodName := ⟨zc_Mod, "holesAmong", "(III)I"⟩
abbrev b_Mod_holesAmong : ByteArray := prog_8_method_47_code
theorem mv_Mod_holesAmong : Mv y_Mod_holesAmong b_Mod_holesAmong 6 (some .int) 3 := ⟨(tm_4 _ (List.mem_of_getElem? (i := 224) rfl)), (List.mem_of_getElem? (i := 106) (by decide +kernel)), (tm_1 _ (List.mem_of_getElem? (i := 8) rfl)), (tm_4 _ (List.mem_of_getElem? (i := 225) rfl)), ⟨by decide +kernel, by decide +kernel⟩, by decide +kernel⟩
def y_Mod_isSeries : MethodName := ⟨zc_Mod, "isSeries", "(II)Z"⟩
abbrev b_Mod_isSeries : ByteArray := prog_8_method_48_code
theorem mv_Mod_isSeries : Ms y_Mod_isSeries b_Mod_isSeries 2 (some .boolean) 2 := ⟨(tm_4 _ (List.mem_of_getElem? (i := 220) rfl)), (tm_1 _ (List.mem_of_getElem? (i := 8) rfl)), (tm_4 _ (List.mem_of_getElem? (i := 221) rfl)), ⟨by decide +kernel, by decide +kernel⟩, by decide +kernel⟩
def y_Mod_goesAhead : MethodName := ⟨zc_Mod, "goesAhead", "(III)V"⟩
abbrev b_Mod_goesAhead : ByteArray := prog_8_method_49_code
theorem mv_Mod_goesAhead : Mv y_Mod_goesAhead b_Mod_goesAhead 6 none 3 := ⟨(tm_4 _ (List.mem_of_getElem? (i := 228) rfl)), (List.mem_of_getElem? (i := 107) (by decide +kernel)), (tm_1 _ (List.mem_of_getElem? (i := 8) rfl)), (tm_4 _ (List.mem_of_getElem? (i := 229) rfl)), ⟨by decide +kernel, by decide +kernel⟩, by decide +kernel⟩
def y_Mod_punches : MethodName := ⟨zc_Mod, "punches", "(III)I"⟩
abbrev b_Mod_punches : ByteArray := prog_8_method_50_code
theorem mv_Mod_punches : Mv y_Mod_punches b_Mod_punches 6 (some .int) 3 := ⟨(tm_5 _ (List.mem_of_getElem? (i := 52) rfl)), (List.mem_of_getElem? (i := 122) (by decide +kernel)), (tm_1 _ (List.mem_of_getElem? (i := 8) rfl)), (tm_5 _ (List.mem_of_getElem? (i := 53) rfl)), ⟨by decide +kernel, by decide +kernel⟩, by decide +kernel⟩
def y_Mod_letter : MethodName := ⟨zc_Mod, "letter", "(I)I"⟩
abbrev b_Mod_letter : ByteArray := prog_8_method_51_code
theorem mv_Mod_letter : Mv y_Mod_letter b_Mod_letter 3 (some .int) 1 := ⟨(tm_4 _ (List.mem_of_getElem? (i := 117) rfl)), (tm_4 _ (List.mem_of_getElem? (i := 118) rfl)), (tm_1 _ (List.mem_of_getElem? (i := 8) rfl)), (tm_4 _ (List.mem_of_getElem? (i := 119) rfl)), ⟨by decide +kernel, by decide +kernel⟩, by decide +kernel⟩
def y_Mod_letterNow : MethodName := ⟨zc_Mod, "letterNow", "()I"⟩
abbrev b_Mod_letterNow : ByteArray := prog_8_method_52_code
theorem mv_Mod_letterNow : Mv y_Mod_letterNow b_Mod_letterNow 1 (some .int) 0 := ⟨(tm_4 _ (List.mem_of_getElem? (i := 137) rfl)), (List.mem_of_getElem? (i := 88) (by decide +kernel)), (tm_1 _ (List.mem_of_getElem? (i := 8) rfl)), (tm_4 _ (List.mem_of_getElem? (i := 138) rfl)), ⟨by decide +kernel, by decide +kernel⟩, by decide +kernel⟩
def y_Mod_readsDigits : MethodName := ⟨zc_Mod, "readsDigits", "(I)Z"⟩
abbrev b_Mod_readsDigits : ByteArray := prog_8_method_53_code
theorem mv_Mod_readsDigits : Mv y_Mod_readsDigits b_Mod_readsDigits 4 (some .boolean) 1 := ⟨(tm_4 _ (List.mem_of_getElem? (i := 145) rfl)), (List.mem_of_getElem? (i := 90) (by decide +kernel)), (tm_1 _ (List.mem_of_getElem? (i := 8) rfl)), (tm_4 _ (List.mem_of_getElem? (i := 146) rfl)), ⟨by decide +kernel, by decide +kernel⟩, by decide +kernel⟩
def y_Mod_kindTold : MethodName := ⟨zc_Mod, "kindTold", "(I)I"⟩
abbrev b_Mod_kindTold : ByteArray := prog_8_method_54_code
theorem mv_Mod_kindTold : Ms y_Mod_kindTold b_Mod_kindTold 1 (some .int) 1 := ⟨(tm_4 _ (List.mem_of_getElem? (i := 155) rfl)), (tm_1 _ (List.mem_of_getElem? (i := 8) rfl)), (tm_4 _ (List.mem_of_getElem? (i := 156) rfl)), ⟨by decide +kernel, by decide +kernel⟩, by decide +kernel⟩
def y_Mod_readsKind : MethodName := ⟨zc_Mod, "readsKind", "()Z"⟩
abbrev b_Mod_readsKind : ByteArray := prog_8_method_55_code
theorem mv_Mod_readsKind : Mv y_Mod_readsKind b_Mod_readsKind 2 (some .boolean) 0 := ⟨(tm_4 _ (List.mem_of_getElem? (i := 152) rfl)), (List.mem_of_getElem? (i := 91) (by decide +kernel)), (tm_1 _ (List.mem_of_getElem? (i := 8) rfl)), (tm_4 _ (List.mem_of_getElem? (i := 153) rfl)), ⟨by decide +kernel, by decide +kernel⟩, by decide +kernel⟩
def y_Mod_readsAll : MethodName := ⟨zc_Mod, "readsAll", "(I)Z"⟩
abbrev b_Mod_readsAll : ByteArray := prog_8_method_56_code
theorem mv_Mod_readsAll : Mv y_Mod_readsAll b_Mod_readsAll 2 (some .boolean) 1 := ⟨(tm_4 _ (List.mem_of_getElem? (i := 141) rfl)), (List.mem_of_getElem? (i := 89) (by decide +kernel)), (tm_1 _ (List.mem_of_getElem? (i := 8) rfl)), (tm_4 _ (List.mem_of_getElem? (i := 142) rfl)), ⟨by decide +kernel, by decide +kernel⟩, by decide +kernel⟩
def y_Mod_statement : MethodName := ⟨zc_Mod, "statement", "()Z"⟩
abbrev b_Mod_statement : ByteArray := prog_8_method_57_code
theorem mv_Mod_statement : Mv y_Mod_statement b_Mod_statement 2 (some .boolean) 0 := ⟨(tm_4 _ (List.mem_of_getElem? (i := 133) rfl)), (List.mem_of_getElem? (i := 87) (by decide +kernel)), (tm_1 _ (List.mem_of_getElem? (i := 8) rfl)), (tm_4 _ (List.mem_of_getElem? (i := 134) rfl)), ⟨by decide +kernel, by decide +kernel⟩, by decide +kernel⟩
def y_Mod_comesSaid : MethodName := ⟨zc_Mod, "comesSaid", "(III)Z"⟩
abbrev b_Mod_comesSaid : ByteArray := prog_8_method_58_code
theorem mv_Mod_comesSaid : Mv y_Mod_comesSaid b_Mod_comesSaid 4 (some .boolean) 3 := ⟨(tm_4 _ (List.mem_of_getElem? (i := 174) rfl)), (List.mem_of_getElem? (i := 95) (by decide +kernel)), (tm_1 _ (List.mem_of_getElem? (i := 8) rfl)), (tm_4 _ (List.mem_of_getElem? (i := 175) rfl)), ⟨by decide +kernel, by decide +kernel⟩, by decide +kernel⟩
def y_Mod_comesAhead : MethodName := ⟨zc_Mod, "comesAhead", "(III)Z"⟩
abbrev b_Mod_comesAhead : ByteArray := prog_8_method_59_code
theorem mv_Mod_comesAhead : Mv y_Mod_comesAhead b_Mod_comesAhead 4 (some .boolean) 3 := ⟨(tm_4 _ (List.mem_of_getElem? (i := 217) rfl)), (List.mem_of_getElem? (i := 105) (by decide +kernel)), (tm_1 _ (List.mem_of_getElem? (i := 8) rfl)), (tm_4 _ (List.mem_of_getElem? (i := 218) rfl)), ⟨by decide +kernel, by decide +kernel⟩, by decide +kernel⟩
def y_Mod_comesPunch : MethodName := ⟨zc_Mod, "comesPunch", "(III)Z"⟩
abbrev b_Mod_comesPunch : ByteArray := prog_8_method_60_code
theorem mv_Mod_comesPunch : Mv y_Mod_comesPunch b_Mod_comesPunch 4 (some .boolean) 3 := ⟨(tm_5 _ (List.mem_of_getElem? (i := 48) rfl)), (List.mem_of_getElem? (i := 121) (by decide +kernel)), (tm_1 _ (List.mem_of_getElem? (i := 8) rfl)), (tm_5 _ (List.mem_of_getElem? (i := 49) rfl)), ⟨by decide +kernel, by decide +kernel⟩, by decide +kernel⟩
def y_Mod_comesSettle : MethodName := ⟨zc_Mod, "comesSettle", "(I)Z"⟩
abbrev b_Mod_comesSettle : ByteArray := prog_8_method_61_code
theorem mv_Mod_comesSettle : Mv y_Mod_comesSettle b_Mod_comesSettle 2 (some .boolean) 1 := ⟨(tm_5 _ (List.mem_of_getElem? (i := 56) rfl)), (List.mem_of_getElem? (i := 123) (by decide +kernel)), (tm_1 _ (List.mem_of_getElem? (i := 8) rfl)), (tm_5 _ (List.mem_of_getElem? (i := 57) rfl)), ⟨by decide +kernel, by decide +kernel⟩, by decide +kernel⟩
def y_Mod_comesPlain : MethodName := ⟨zc_Mod, "comesPlain", "(III)Z"⟩
abbrev b_Mod_comesPlain : ByteArray := prog_8_method_62_code
theorem mv_Mod_comesPlain : Mv y_Mod_comesPlain b_Mod_comesPlain 4 (some .boolean) 3 := ⟨(tm_5 _ (List.mem_of_getElem? (i := 72) rfl)), (List.mem_of_getElem? (i := 127) (by decide +kernel)), (tm_1 _ (List.mem_of_getElem? (i := 8) rfl)), (tm_5 _ (List.mem_of_getElem? (i := 73) rfl)), ⟨by decide +kernel, by decide +kernel⟩, by decide +kernel⟩
def y_Mod_comesTold : MethodName := ⟨zc_Mod, "comesTold", "(I)Z"⟩
abbrev b_Mod_comesTold : ByteArray := prog_8_method_63_code
theorem mv_Mod_comesTold : Mv y_Mod_comesTold b_Mod_comesTold 3 (some .boolean) 1 := ⟨(tm_4 _ (List.mem_of_getElem? (i := 167) rfl)), (List.mem_of_getElem? (i := 94) (by decide +kernel)), (tm_1 _ (List.mem_of_getElem? (i := 8) rfl)), (tm_4 _ (List.mem_of_getElem? (i := 168) rfl)), ⟨by decide +kernel, by decide +kernel⟩, by decide +kernel⟩
def y_Mod_volume : MethodName := ⟨zc_Mod, "volume", "()I"⟩
abbrev b_Mod_volume : ByteArray := prog_8_method_64_code
theorem mv_Mod_volume : Mv y_Mod_volume b_Mod_volume 3 (some .int) 0 := ⟨(tm_4 _ (List.mem_of_getElem? (i := 128) rfl)), (tm_4 _ (List.mem_of_getElem? (i := 129) rfl)), (tm_1 _ (List.mem_of_getElem? (i := 8) rfl)), (tm_4 _ (List.mem_of_getElem? (i := 130) rfl)), ⟨by decide +kernel, by decide +kernel⟩, by decide +kernel⟩
def y_Mod_passes : MethodName := ⟨zc_Mod, "passes", "([I)V"⟩
abbrev b_Mod_passes : ByteArray := prog_8_method_65_code
theorem mv_Mod_passes : Mv y_Mod_passes b_Mod_passes 3 none 1 := ⟨(tm_4 _ (List.mem_of_getElem? (i := 163) rfl)), (List.mem_of_getElem? (i := 93) (by decide +kernel)), (tm_1 _ (List.mem_of_getElem? (i := 8) rfl)), (tm_4 _ (List.mem_of_getElem? (i := 164) rfl)), ⟨by decide +kernel, by decide +kernel⟩, by decide +kernel⟩
def y_Mod_passesAll : MethodName := ⟨zc_Mod, "passesAll", "(IZ)V"⟩
abbrev b_Mod_passesAll : ByteArray := prog_8_method_66_code
theorem mv_Mod_passesAll : Mv y_Mod_passesAll b_Mod_passesAll 3 none 2 := ⟨(tm_4 _ (List.mem_of_getElem? (i := 159) rfl)), (List.mem_of_getElem? (i := 92) (by decide +kernel)), (tm_1 _ (List.mem_of_getElem? (i := 8) rfl)), (tm_4 _ (List.mem_of_getElem? (i := 160) rfl)), ⟨by decide +kernel, by decide +kernel⟩, by decide +kernel⟩
def y_Mod_minds : MethodName := ⟨zc_Mod, "minds", "()V"⟩
abbrev b_Mod_minds : ByteArray := prog_8_method_67_code
theorem mv_Mod_minds : Mv y_Mod_minds b_Mod_minds 1 none 0 := ⟨(tm_5 _ (List.mem_of_getElem? (i := 206) rfl)), (List.mem_of_getElem? (i := 141) (by decide +kernel)), (tm_1 _ (List.mem_of_getElem? (i := 8) rfl)), (tm_5 _ (List.mem_of_getElem? (i := 207) rfl)), ⟨by decide +kernel, by decide +kernel⟩, by decide +kernel⟩
def y_Mod_forgets : MethodName := ⟨zc_Mod, "forgets", "()V"⟩
abbrev b_Mod_forgets : ByteArray := prog_8_method_68_code
theorem mv_Mod_forgets : Mv y_Mod_forgets b_Mod_forgets 1 none 0 := ⟨(tm_5 _ (List.mem_of_getElem? (i := 210) rfl)), (List.mem_of_getElem? (i := 142) (by decide +kernel)), (tm_1 _ (List.mem_of_getElem? (i := 8) rfl)), (tm_5 _ (List.mem_of_getElem? (i := 211) rfl)), ⟨by decide +kernel, by decide +kernel⟩, by decide +kernel⟩
def y_Mod_image : MethodName := ⟨zc_Mod, "image", "()I"⟩
abbrev b_Mod_image : ByteArray := prog_8_method_69_code
theorem mv_Mod_image : Mv y_Mod_image b_Mod_image 1 (some .int) 0 := ⟨(tm_5 _ (List.mem_of_getElem? (i := 99) rfl)), (tm_5 _ (List.mem_of_getElem? (i := 100) rfl)), (tm_1 _ (List.mem_of_getElem? (i := 8) rfl)), (tm_5 _ (List.mem_of_getElem? (i := 101) rfl)), ⟨by decide +kernel, by decide +kernel⟩, by decide +kernel⟩
def y_Mod_on : MethodName := ⟨zc_Mod, "on", "()I"⟩
abbrev b_Mod_on : ByteArray := prog_8_method_70_code
theorem mv_Mod_on : Mv y_Mod_on b_Mod_on 1 (some .int) 0 := ⟨(tm_5 _ (List.mem_of_getElem? (i := 103) rfl)), (tm_5 _ (List.mem_of_getElem? (i := 104) rfl)), (tm_1 _ (List.mem_of_getElem? (i := 8) rfl)), (tm_5 _ (List.mem_of_getElem? (i := 105) rfl)), ⟨by decide +kernel, by decide +kernel⟩, by decide +kernel⟩
def y_Mod_page : MethodName := ⟨zc_Mod, "page", "(III)I"⟩
abbrev b_Mod_page : ByteArray := prog_8_method_71_code
theorem mv_Mod_page : Mv y_Mod_page b_Mod_page 5 (some .int) 3 := ⟨(tm_5 _ (List.mem_of_getElem? (i := 107) rfl)), (tm_5 _ (List.mem_of_getElem? (i := 108) rfl)), (tm_1 _ (List.mem_of_getElem? (i := 8) rfl)), (tm_5 _ (List.mem_of_getElem? (i := 109) rfl)), ⟨by decide +kernel, by decide +kernel⟩, by decide +kernel⟩
def y_Mod_writtenOf : MethodName := ⟨zc_Mod, "writtenOf", "(I)I"⟩
abbrev b_Mod_writtenOf : ByteArray := prog_8_method_72_code
theorem mv_Mod_writtenOf : Mv y_Mod_writtenOf b_Mod_writtenOf 4 (some .int) 1 := ⟨(tm_5 _ (List.mem_of_getElem? (i := 131) rfl)), (List.mem_of_getElem? (i := 137) (by decide +kernel)), (tm_1 _ (List.mem_of_getElem? (i := 8) rfl)), (tm_5 _ (List.mem_of_getElem? (i := 132) rfl)), ⟨by decide +kernel, by decide +kernel⟩, by decide +kernel⟩
def y_Mod_waitingOf : MethodName := ⟨zc_Mod, "waitingOf", "(IZ)I"⟩
abbrev b_Mod_waitingOf : ByteArray := prog_8_method_73_code
theorem mv_Mod_waitingOf : Mv y_Mod_waitingOf b_Mod_waitingOf 5 (some .int) 2 := ⟨(tm_5 _ (List.mem_of_getElem? (i := 116) rfl)), (List.mem_of_getElem? (i := 134) (by decide +kernel)), (tm_1 _ (List.mem_of_getElem? (i := 8) rfl)), (tm_5 _ (List.mem_of_getElem? (i := 117) rfl)), ⟨by decide +kernel, by decide +kernel⟩, by decide +kernel⟩
def y_Mod_depthOf : MethodName := ⟨zc_Mod, "depthOf", "(I)I"⟩
abbrev b_Mod_depthOf : ByteArray := prog_8_method_74_code
theorem mv_Mod_depthOf : Ms y_Mod_depthOf b_Mod_depthOf 1 (some .int) 1 := ⟨(tm_5 _ (List.mem_of_getElem? (i := 127) rfl)), (tm_1 _ (List.mem_of_getElem? (i := 8) rfl)), (tm_5 _ (List.mem_of_getElem? (i := 128) rfl)), ⟨by decide +kernel, by decide +kernel⟩, by decide +kernel⟩
def y_Mod_file : MethodName := ⟨zc_Mod, "file", "(II)I"⟩
abbrev b_Mod_file : ByteArray := prog_8_method_75_code
theorem mv_Mod_file : Mv y_Mod_file b_Mod_file 3 (some .int) 2 := ⟨(tm_5 _ (List.mem_of_getElem? (i := 111) rfl)), (tm_5 _ (List.mem_of_getElem? (i := 112) rfl)), (tm_1 _ (List.mem_of_getElem? (i := 8) rfl)), (tm_5 _ (List.mem_of_getElem? (i := 113) rfl)), ⟨by decide +kernel, by decide +kernel⟩, by decide +kernel⟩
def y_Mod_read : MethodName := ⟨zc_Mod, "read", "(II)I"⟩
abbrev b_Mod_read : ByteArray := prog_8_method_76_code
theorem mv_Mod_read : Mv y_Mod_read b_Mod_read 3 (some .int) 2 := ⟨(tm_5 _ (List.mem_of_getElem? (i := 134) rfl)), (tm_5 _ (List.mem_of_getElem? (i := 135) rfl)), (tm_1 _ (List.mem_of_getElem? (i := 8) rfl)), (tm_5 _ (List.mem_of_getElem? (i := 136) rfl)), ⟨by decide +kernel, by decide +kernel⟩, by decide +kernel⟩
def y_Mod_says : MethodName := ⟨zc_Mod, "says", "(III)I"⟩
abbrev b_Mod_says : ByteArray := prog_8_method_77_code
theorem mv_Mod_says : Mv y_Mod_says b_Mod_says 6 (some .int) 3 := ⟨(tm_5 _ (List.mem_of_getElem? (i := 142) rfl)), (tm_5 _ (List.mem_of_getElem? (i := 143) rfl)), (tm_1 _ (List.mem_of_getElem? (i := 8) rfl)), (tm_5 _ (List.mem_of_getElem? (i := 144) rfl)), ⟨by decide +kernel, by decide +kernel⟩, by decide +kernel⟩
def y_Mod_ahead : MethodName := ⟨zc_Mod, "ahead", "(III)I"⟩
abbrev b_Mod_ahead : ByteArray := prog_8_method_78_code
theorem mv_Mod_ahead : Mv y_Mod_ahead b_Mod_ahead 6 (some .int) 3 := ⟨(tm_5 _ (List.mem_of_getElem? (i := 146) rfl)), (tm_5 _ (List.mem_of_getElem? (i := 147) rfl)), (tm_1 _ (List.mem_of_getElem? (i := 8) rfl)), (tm_5 _ (List.mem_of_getElem? (i := 148) rfl)), ⟨by decide +kernel, by decide +kernel⟩, by decide +kernel⟩
def y_Mod_punch : MethodName := ⟨zc_Mod, "punch", "(III)I"⟩
abbrev b_Mod_punch : ByteArray := prog_8_method_79_code
theorem mv_Mod_punch : Mv y_Mod_punch b_Mod_punch 5 (some .int) 3 := ⟨(tm_5 _ (List.mem_of_getElem? (i := 150) rfl)), (tm_5 _ (List.mem_of_getElem? (i := 151) rfl)), (tm_1 _ (List.mem_of_getElem? (i := 8) rfl)), (tm_5 _ (List.mem_of_getElem? (i := 152) rfl)), ⟨by decide +kernel, by decide +kernel⟩, by decide +kernel⟩
def y_Mod_flush : MethodName := ⟨zc_Mod, "flush", "(I)I"⟩
abbrev b_Mod_flush : ByteArray := prog_8_method_80_code
theorem mv_Mod_flush : Mv y_Mod_flush b_Mod_flush 2 (some .int) 1 := ⟨(tm_5 _ (List.mem_of_getElem? (i := 154) rfl)), (tm_5 _ (List.mem_of_getElem? (i := 155) rfl)), (tm_1 _ (List.mem_of_getElem? (i := 8) rfl)), (tm_5 _ (List.mem_of_getElem? (i := 156) rfl)), ⟨by decide +kernel, by decide +kernel⟩, by decide +kernel⟩
def y_Mod_settle : MethodName := ⟨zc_Mod, "settle", "(I)I"⟩
abbrev b_Mod_settle : ByteArray := prog_8_method_81_code
theorem mv_Mod_settle : Mv y_Mod_settle b_Mod_settle 2 (some .int) 1 := ⟨(tm_5 _ (List.mem_of_getElem? (i := 158) rfl)), (tm_5 _ (List.mem_of_getElem? (i := 159) rfl)), (tm_1 _ (List.mem_of_getElem? (i := 8) rfl)), (tm_5 _ (List.mem_of_getElem? (i := 160) rfl)), ⟨by decide +kernel, by decide +kernel⟩, by decide +kernel⟩
def y_Mod_crash : MethodName := ⟨zc_Mod, "crash", "(II)I"⟩
abbrev b_Mod_crash : ByteArray := prog_8_method_82_code
theorem mv_Mod_crash : Mv y_Mod_crash b_Mod_crash 4 (some .int) 2 := ⟨(tm_5 _ (List.mem_of_getElem? (i := 162) rfl)), (tm_5 _ (List.mem_of_getElem? (i := 163) rfl)), (tm_1 _ (List.mem_of_getElem? (i := 8) rfl)), (tm_5 _ (List.mem_of_getElem? (i := 164) rfl)), ⟨by decide +kernel, by decide +kernel⟩, by decide +kernel⟩
def y_Mod_kind : MethodName := ⟨zc_Mod, "kind", "(II)I"⟩
abbrev b_Mod_kind : ByteArray := prog_8_method_83_code
theorem mv_Mod_kind : Mv y_Mod_kind b_Mod_kind 5 (some .int) 2 := ⟨(tm_5 _ (List.mem_of_getElem? (i := 166) rfl)), (tm_5 _ (List.mem_of_getElem? (i := 167) rfl)), (tm_1 _ (List.mem_of_getElem? (i := 8) rfl)), (tm_5 _ (List.mem_of_getElem? (i := 168) rfl)), ⟨by decide +kernel, by decide +kernel⟩, by decide +kernel⟩
def y_Mod_aheadOf : MethodName := ⟨zc_Mod, "aheadOf", "(II)I"⟩
abbrev b_Mod_aheadOf : ByteArray := prog_8_method_84_code
theorem mv_Mod_aheadOf : Mv y_Mod_aheadOf b_Mod_aheadOf 6 (some .int) 2 := ⟨(tm_5 _ (List.mem_of_getElem? (i := 175) rfl)), (List.mem_of_getElem? (i := 139) (by decide +kernel)), (tm_1 _ (List.mem_of_getElem? (i := 8) rfl)), (tm_5 _ (List.mem_of_getElem? (i := 176) rfl)), ⟨by decide +kernel, by decide +kernel⟩, by decide +kernel⟩
def y_Mod_byPlace : MethodName := ⟨zc_Mod, "byPlace", "(II)I"⟩
abbrev b_Mod_byPlace : ByteArray := prog_8_method_85_code
theorem mv_Mod_byPlace : Mv y_Mod_byPlace b_Mod_byPlace 4 (some .int) 2 := ⟨(tm_5 _ (List.mem_of_getElem? (i := 170) rfl)), (tm_5 _ (List.mem_of_getElem? (i := 171) rfl)), (tm_1 _ (List.mem_of_getElem? (i := 8) rfl)), (tm_5 _ (List.mem_of_getElem? (i := 172) rfl)), ⟨by decide +kernel, by decide +kernel⟩, by decide +kernel⟩
def y_Mod_fit : MethodName := ⟨zc_Mod, "fit", "(I)I"⟩
abbrev b_Mod_fit : ByteArray := prog_8_method_86_code
theorem mv_Mod_fit : Mv y_Mod_fit b_Mod_fit 3 (some .int) 1 := ⟨(tm_5 _ (List.mem_of_getElem? (i := 178) rfl)), (tm_5 _ (List.mem_of_getElem? (i := 179) rfl)), (tm_1 _ (List.mem_of_getElem? (i := 8) rfl)), (tm_5 _ (List.mem_of_getElem? (i := 180) rfl)), ⟨by decide +kernel, by decide +kernel⟩, by decide +kernel⟩
def y_Mod_nearest : MethodName := ⟨zc_Mod, "nearest", "(II)I"⟩
abbrev b_Mod_nearest : ByteArray := prog_8_method_87_code
theorem mv_Mod_nearest : Mv y_Mod_nearest b_Mod_nearest 4 (some .int) 2 := ⟨(tm_5 _ (List.mem_of_getElem? (i := 182) rfl)), (tm_5 _ (List.mem_of_getElem? (i := 183) rfl)), (tm_1 _ (List.mem_of_getElem? (i := 8) rfl)), (tm_5 _ (List.mem_of_getElem? (i := 184) rfl)), ⟨by decide +kernel, by decide +kernel⟩, by decide +kernel⟩
def y_Mod_whose : MethodName := ⟨zc_Mod, "whose", "(II)I"⟩
abbrev b_Mod_whose : ByteArray := prog_8_method_88_code
theorem mv_Mod_whose : Mv y_Mod_whose b_Mod_whose 4 (some .int) 2 := ⟨(tm_5 _ (List.mem_of_getElem? (i := 189) rfl)), (tm_5 _ (List.mem_of_getElem? (i := 190) rfl)), (tm_1 _ (List.mem_of_getElem? (i := 8) rfl)), (tm_5 _ (List.mem_of_getElem? (i := 191) rfl)), ⟨by decide +kernel, by decide +kernel⟩, by decide +kernel⟩
def y_Mod_stale : MethodName := ⟨zc_Mod, "stale", "(I)I"⟩
abbrev b_Mod_stale : ByteArray := prog_8_method_89_code
theorem mv_Mod_stale : Mv y_Mod_stale b_Mod_stale 5 (some .int) 1 := ⟨(tm_5 _ (List.mem_of_getElem? (i := 193) rfl)), (tm_5 _ (List.mem_of_getElem? (i := 194) rfl)), (tm_1 _ (List.mem_of_getElem? (i := 8) rfl)), (tm_5 _ (List.mem_of_getElem? (i := 195) rfl)), ⟨by decide +kernel, by decide +kernel⟩, by decide +kernel⟩
def y_Mod_scatterOf : MethodName := ⟨zc_Mod, "scatterOf", "(I)I"⟩
abbrev b_Mod_scatterOf : ByteArray := prog_8_method_90_code
theorem mv_Mod_scatterOf : Mv y_Mod_scatterOf b_Mod_scatterOf 3 (some .int) 1 := ⟨(tm_5 _ (List.mem_of_getElem? (i := 202) rfl)), (List.mem_of_getElem? (i := 140) (by decide +kernel)), (tm_1 _ (List.mem_of_getElem? (i := 8) rfl)), (tm_5 _ (List.mem_of_getElem? (i := 203) rfl)), ⟨by decide +kernel, by decide +kernel⟩, by decide +kernel⟩
def y_Mod_scatter : MethodName := ⟨zc_Mod, "scatter", "(I)I"⟩
abbrev b_Mod_scatter : ByteArray := prog_8_method_91_code
theorem mv_Mod_scatter : Mv y_Mod_scatter b_Mod_scatter 2 (some .int) 1 := ⟨(tm_5 _ (List.mem_of_getElem? (i := 197) rfl)), (tm_5 _ (List.mem_of_getElem? (i := 198) rfl)), (tm_1 _ (List.mem_of_getElem? (i := 8) rfl)), (tm_5 _ (List.mem_of_getElem? (i := 199) rfl)), ⟨by decide +kernel, by decide +kernel⟩, by decide +kernel⟩
def y_Mod_kindBest : MethodName := ⟨zc_Mod, "kindBest", "(II)I"⟩
abbrev b_Mod_kindBest : ByteArray := prog_8_method_92_code
theorem mv_Mod_kindBest : Mv y_Mod_kindBest b_Mod_kindBest 9 (some .int) 2 := ⟨(tm_5 _ (List.mem_of_getElem? (i := 213) rfl)), (tm_5 _ (List.mem_of_getElem? (i := 214) rfl)), (tm_1 _ (List.mem_of_getElem? (i := 8) rfl)), (tm_5 _ (List.mem_of_getElem? (i := 215) rfl)), ⟨by decide +kernel, by decide +kernel⟩, by decide +kernel⟩
def y_Mod_isOrder : MethodName := ⟨zc_Mod, "isOrder", "(I)Z"⟩
abbrev b_Mod_isOrder : ByteArray := prog_8_method_93_code
theorem mv_Mod_isOrder : Ms y_Mod_isOrder b_Mod_isOrder 3 (some .boolean) 1 := ⟨(tm_5 _ (List.mem_of_getElem? (i := 221) rfl)), (tm_1 _ (List.mem_of_getElem? (i := 8) rfl)), (tm_5 _ (List.mem_of_getElem? (i := 222) rfl)), ⟨by decide +kernel, by decide +kernel⟩, by decide +kernel⟩
def y_Mod_extentsIn : MethodName := ⟨zc_Mod, "extentsIn", "(I)I"⟩
abbrev b_Mod_extentsIn : ByteArray := prog_8_method_94_code
theorem mv_Mod_extentsIn : Mv y_Mod_extentsIn b_Mod_extentsIn 3 (some .int) 1 := ⟨(tm_5 _ (List.mem_of_getElem? (i := 225) rfl)), (List.mem_of_getElem? (i := 143) (by decide +kernel)), (tm_1 _ (List.mem_of_getElem? (i := 8) rfl)), (tm_5 _ (List.mem_of_getElem? (i := 226) rfl)), ⟨by decide +kernel, by decide +kernel⟩, by decide +kernel⟩
def y_Mod_order : MethodName := ⟨zc_Mod, "order", "(I)I"⟩
abbrev b_Mod_order : ByteArray := prog_8_method_95_code
theorem mv_Mod_order : Mv y_Mod_order b_Mod_order 6 (some .int) 1 := ⟨(tm_5 _ (List.mem_of_getElem? (i := 217) rfl)), (tm_5 _ (List.mem_of_getElem? (i := 218) rfl)), (tm_1 _ (List.mem_of_getElem? (i := 8) rfl)), (tm_5 _ (List.mem_of_getElem? (i := 219) rfl)), ⟨by decide +kernel, by decide +kernel⟩, by decide +kernel⟩
def y_Mod_stepsOf : MethodName := ⟨zc_Mod, "stepsOf", "(I)I"⟩
abbrev b_Mod_stepsOf : ByteArray := prog_8_method_96_code
theorem mv_Mod_stepsOf : Mv y_Mod_stepsOf b_Mod_stepsOf 3 (some .int) 1 := ⟨(tm_5 _ (List.mem_of_getElem? (i := 237) rfl)), (List.mem_of_getElem? (i := 145) (by decide +kernel)), (tm_1 _ (List.mem_of_getElem? (i := 8) rfl)), (tm_5 _ (List.mem_of_getElem? (i := 238) rfl)), ⟨by decide +kernel, by decide +kernel⟩, by decide +kernel⟩
def y_Mod_steps : MethodName := ⟨zc_Mod, "steps", "(I)I"⟩
abbrev b_Mod_steps : ByteArray := prog_8_method_97_code
theorem mv_Mod_steps : Mv y_Mod_steps b_Mod_steps 2 (some .int) 1 := ⟨(tm_5 _ (List.mem_of_getElem? (i := 232) rfl)), (tm_5 _ (List.mem_of_getElem? (i := 233) rfl)), (tm_1 _ (List.mem_of_getElem? (i := 8) rfl)), (tm_5 _ (List.mem_of_getElem? (i := 234) rfl)), ⟨by decide +kernel, by decide +kernel⟩, by decide +kernel⟩
def y_Mod_remembers : MethodName := ⟨zc_Mod, "remembers", "()V"⟩
abbrev b_Mod_remembers : ByteArray := prog_8_method_98_code
theorem mv_Mod_remembers : Mv y_Mod_remembers b_Mod_remembers 2 none 0 := ⟨(tm_6 _ (List.mem_of_getElem? (i := 9) rfl)), (List.mem_of_getElem? (i := 147) (by decide +kernel)), (tm_1 _ (List.mem_of_getElem? (i := 8) rfl)), (tm_6 _ (List.mem_of_getElem? (i := 10) rfl)), ⟨by decide +kernel, by decide +kernel⟩, by decide +kernel⟩
def y_Mod_losesBy : MethodName := ⟨zc_Mod, "losesBy", "(IIZ)I"⟩
abbrev b_Mod_losesBy : ByteArray := prog_8_method_99_code
theorem mv_Mod_losesBy : Mv y_Mod_losesBy b_Mod_losesBy 6 (some .int) 3 := ⟨(tm_6 _ (List.mem_of_getElem? (i := 5) rfl)), (List.mem_of_getElem? (i := 146) (by decide +kernel)), (tm_1 _ (List.mem_of_getElem? (i := 8) rfl)), (tm_6 _ (List.mem_of_getElem? (i := 6) rfl)), ⟨by decide +kernel, by decide +kernel⟩, by decide +kernel⟩
def y_Mod_loses : MethodName := ⟨zc_Mod, "loses", "(III)I"⟩
abbrev b_Mod_loses : ByteArray := prog_8_method_100_code
theorem mv_Mod_loses : Mv y_Mod_loses b_Mod_loses 5 (some .int) 3 := ⟨(tm_6 _ (List.mem_of_getElem? (i := 0) rfl)), (tm_6 _ (List.mem_of_getElem? (i := 1) rfl)), (tm_1 _ (List.mem_of_getElem? (i := 8) rfl)), (tm_6 _ (List.mem_of_getElem? (i := 2) rfl)), ⟨by decide +kernel, by decide +kernel⟩, by decide +kernel⟩
def y_Mod_safe : MethodName := ⟨zc_Mod, "safe", "(I)I"⟩
abbrev b_Mod_safe : ByteArray := prog_8_method_101_code
theorem mv_Mod_safe : Mv y_Mod_safe b_Mod_safe 3 (some .int) 1 := ⟨(tm_6 _ (List.mem_of_getElem? (i := 12) rfl)), (tm_6 _ (List.mem_of_getElem? (i := 13) rfl)), (tm_1 _ (List.mem_of_getElem? (i := 8) rfl)), (tm_6 _ (List.mem_of_getElem? (i := 14) rfl)), ⟨by decide +kernel, by decide +kernel⟩, by decide +kernel⟩
def y_Mod_notFreeIn : MethodName := ⟨zc_Mod, "notFreeIn", "(II)I"⟩
abbrev b_Mod_notFreeIn : ByteArray := prog_8_method_102_code
theorem mv_Mod_notFreeIn : Mv y_Mod_notFreeIn b_Mod_notFreeIn 5 (some .int) 2 := ⟨(tm_6 _ (List.mem_of_getElem? (i := 21) rfl)), (List.mem_of_getElem? (i := 148) (by decide +kernel)), (tm_1 _ (List.mem_of_getElem? (i := 8) rfl)), (tm_6 _ (List.mem_of_getElem? (i := 22) rfl)), ⟨by decide +kernel, by decide +kernel⟩, by decide +kernel⟩
def y_Mod_gather : MethodName := ⟨zc_Mod, "gather", "(II)I"⟩
abbrev b_Mod_gather : ByteArray := prog_8_method_103_code
theorem mv_Mod_gather : Mv y_Mod_gather b_Mod_gather 8 (some .int) 2 := ⟨(tm_6 _ (List.mem_of_getElem? (i := 16) rfl)), (tm_6 _ (List.mem_of_getElem? (i := 17) rfl)), (tm_1 _ (List.mem_of_getElem? (i := 8) rfl)), (tm_6 _ (List.mem_of_getElem? (i := 18) rfl)), ⟨by decide +kernel, by decide +kernel⟩, by decide +kernel⟩
def y_Mod_areTwo : MethodName := ⟨zc_Mod, "areTwo", "(II)Z"⟩
abbrev b_Mod_areTwo : ByteArray := prog_8_method_104_code
theorem mv_Mod_areTwo : Ms y_Mod_areTwo b_Mod_areTwo 2 (some .boolean) 2 := ⟨(tm_6 _ (List.mem_of_getElem? (i := 28) rfl)), (tm_1 _ (List.mem_of_getElem? (i := 8) rfl)), (tm_6 _ (List.mem_of_getElem? (i := 29) rfl)), ⟨by decide +kernel, by decide +kernel⟩, by decide +kernel⟩
def y_Mod_extentsOfBoth : MethodName := ⟨zc_Mod, "extentsOfBoth", "(II)I"⟩
abbrev b_Mod_extentsOfBoth : ByteArray := prog_8_method_105_code
theorem mv_Mod_extentsOfBoth : Mv y_Mod_extentsOfBoth b_Mod_extentsOfBoth 4 (some .int) 2 := ⟨(tm_6 _ (List.mem_of_getElem? (i := 32) rfl)), (List.mem_of_getElem? (i := 149) (by decide +kernel)), (tm_1 _ (List.mem_of_getElem? (i := 8) rfl)), (tm_6 _ (List.mem_of_getElem? (i := 33) rfl)), ⟨by decide +kernel, by decide +kernel⟩, by decide +kernel⟩
def y_Mod_first : MethodName := ⟨zc_Mod, "first", "(II)I"⟩
abbrev b_Mod_first : ByteArray := prog_8_method_106_code
theorem mv_Mod_first : Mv y_Mod_first b_Mod_first 5 (some .int) 2 := ⟨(tm_6 _ (List.mem_of_getElem? (i := 24) rfl)), (tm_6 _ (List.mem_of_getElem? (i := 25) rfl)), (tm_1 _ (List.mem_of_getElem? (i := 8) rfl)), (tm_6 _ (List.mem_of_getElem? (i := 26) rfl)), ⟨by decide +kernel, by decide +kernel⟩, by decide +kernel⟩
def y_Mod_findEnds : MethodName := ⟨zc_Mod, "findEnds", "(II)V"⟩
abbrev b_Mod_findEnds : ByteArray := prog_8_method_107_code
theorem mv_Mod_findEnds : Mv y_Mod_findEnds b_Mod_findEnds 4 none 2 := ⟨(tm_6 _ (List.mem_of_getElem? (i := 40) rfl)), (List.mem_of_getElem? (i := 150) (by decide +kernel)), (tm_1 _ (List.mem_of_getElem? (i := 8) rfl)), (tm_6 _ (List.mem_of_getElem? (i := 41) rfl)), ⟨by decide +kernel, by decide +kernel⟩, by decide +kernel⟩
def y_Mod_two : MethodName := ⟨zc_Mod, "two", "(II)I"⟩
abbrev b_Mod_two : ByteArray := prog_8_method_108_code
theorem mv_Mod_two : Mv y_Mod_two b_Mod_two 4 (some .int) 2 := ⟨(tm_6 _ (List.mem_of_getElem? (i := 35) rfl)), (tm_6 _ (List.mem_of_getElem? (i := 36) rfl)), (tm_1 _ (List.mem_of_getElem? (i := 8) rfl)), (tm_6 _ (List.mem_of_getElem? (i := 37) rfl)), ⟨by decide +kernel, by decide +kernel⟩, by decide +kernel⟩
def y_Mod_most : MethodName := ⟨zc_Mod, "most", "(I)I"⟩
abbrev b_Mod_most : ByteArray := prog_8_method_109_code
theorem mv_Mod_most : Mv y_Mod_most b_Mod_most 3 (some .int) 1 := ⟨(tm_6 _ (List.mem_of_getElem? (i := 43) rfl)), (tm_6 _ (List.mem_of_getElem? (i := 44) rfl)), (tm_1 _ (List.mem_of_getElem? (i := 8) rfl)), (tm_6 _ (List.mem_of_getElem? (i := 45) rfl)), ⟨by decide +kernel, by decide +kernel⟩, by decide +kernel⟩
def y_Mod_larger : MethodName := ⟨zc_Mod, "larger", "(I)I"⟩
abbrev b_Mod_larger : ByteArray := prog_8_method_110_code
theorem mv_Mod_larger : Mv y_Mod_larger b_Mod_larger 4 (some .int) 1 := ⟨(tm_6 _ (List.mem_of_getElem? (i := 47) rfl)), (tm_6 _ (List.mem_of_getElem? (i := 48) rfl)), (tm_1 _ (List.mem_of_getElem? (i := 8) rfl)), (tm_6 _ (List.mem_of_getElem? (i := 49) rfl)), ⟨by decide +kernel, by decide +kernel⟩, by decide +kernel⟩
def y_Mod_divisor : MethodName := ⟨zc_Mod, "divisor", "(JJ)J"⟩
abbrev b_Mod_divisor : ByteArray := prog_8_method_111_code
theorem mv_Mod_divisor : Ms y_Mod_divisor b_Mod_divisor 10 (some .long) 2 := ⟨(tm_6 _ (List.mem_of_getElem? (i := 68) rfl)), (tm_1 _ (List.mem_of_getElem? (i := 8) rfl)), (tm_6 _ (List.mem_of_getElem? (i := 69) rfl)), ⟨by decide +kernel, by decide +kernel⟩, by decide +kernel⟩
def y_Mod_partOf : MethodName := ⟨zc_Mod, "partOf", "(JJI)J"⟩
abbrev b_Mod_partOf : ByteArray := prog_8_method_112_code
theorem mv_Mod_partOf : Ms y_Mod_partOf b_Mod_partOf 5 (some .long) 3 := ⟨(tm_6 _ (List.mem_of_getElem? (i := 65) rfl)), (tm_1 _ (List.mem_of_getElem? (i := 8) rfl)), (tm_6 _ (List.mem_of_getElem? (i := 66) rfl)), ⟨by decide +kernel, by decide +kernel⟩, by decide +kernel⟩
def y_Mod_lost : MethodName := ⟨zc_Mod, "lost", "(II)J"⟩
abbrev b_Mod_lost : ByteArray := prog_8_method_113_code
theorem mv_Mod_lost : Mv y_Mod_lost b_Mod_lost 8 (some .long) 2 := ⟨(tm_6 _ (List.mem_of_getElem? (i := 56) rfl)), (tm_6 _ (List.mem_of_getElem? (i := 57) rfl)), (tm_1 _ (List.mem_of_getElem? (i := 8) rfl)), (tm_6 _ (List.mem_of_getElem? (i := 58) rfl)), ⟨by decide +kernel, by decide +kernel⟩, by decide +kernel⟩
def y_Mod_isReadSo : MethodName := ⟨zc_Mod, "isReadSo", "(III)Z"⟩
abbrev b_Mod_isReadSo : ByteArray := prog_8_method_114_code
theorem mv_Mod_isReadSo : Mv y_Mod_isReadSo b_Mod_isReadSo 6 (some .boolean) 3 := ⟨(tm_6 _ (List.mem_of_getElem? (i := 76) rfl)), (List.mem_of_getElem? (i := 153) (by decide +kernel)), (tm_1 _ (List.mem_of_getElem? (i := 8) rfl)), (tm_6 _ (List.mem_of_getElem? (i := 77) rfl)), ⟨by decide +kernel, by decide +kernel⟩, by decide +kernel⟩
def y_Mod_sure : MethodName := ⟨zc_Mod, "sure", "(III)J"⟩
abbrev b_Mod_sure : ByteArray := prog_8_method_115_code
theorem mv_Mod_sure : Mv y_Mod_sure b_Mod_sure 9 (some .long) 3 := ⟨(tm_6 _ (List.mem_of_getElem? (i := 71) rfl)), (tm_6 _ (List.mem_of_getElem? (i := 72) rfl)), (tm_1 _ (List.mem_of_getElem? (i := 8) rfl)), (tm_6 _ (List.mem_of_getElem? (i := 73) rfl)), ⟨by decide +kernel, by decide +kernel⟩, by decide +kernel⟩
def y_Mod_mean : MethodName := ⟨zc_Mod, "mean", "(I)J"⟩
abbrev b_Mod_mean : ByteArray := prog_8_method_116_code
theorem mv_Mod_mean : Mv y_Mod_mean b_Mod_mean 4 (some .long) 1 := ⟨(tm_6 _ (List.mem_of_getElem? (i := 79) rfl)), (tm_6 _ (List.mem_of_getElem? (i := 80) rfl)), (tm_1 _ (List.mem_of_getElem? (i := 8) rfl)), (tm_6 _ (List.mem_of_getElem? (i := 81) rfl)), ⟨by decide +kernel, by decide +kernel⟩, by decide +kernel⟩
def y_Mod_isPlacedSo : MethodName := ⟨zc_Mod, "isPlacedSo", "(I)Z"⟩
abbrev b_Mod_isPlacedSo : ByteArray := prog_8_method_117_code
theorem mv_Mod_isPlacedSo : Mv y_Mod_isPlacedSo b_Mod_isPlacedSo 4 (some .boolean) 1 := ⟨(tm_6 _ (List.mem_of_getElem? (i := 88) rfl)), (List.mem_of_getElem? (i := 154) (by decide +kernel)), (tm_1 _ (List.mem_of_getElem? (i := 8) rfl)), (tm_6 _ (List.mem_of_getElem? (i := 89) rfl)), ⟨by decide +kernel, by decide +kernel⟩, by decide +kernel⟩
def y_Mod_which : MethodName := ⟨zc_Mod, "which", "(I)I"⟩
abbrev b_Mod_which : ByteArray := prog_8_method_118_code
theorem mv_Mod_which : Mv y_Mod_which b_Mod_which 5 (some .int) 1 := ⟨(tm_6 _ (List.mem_of_getElem? (i := 83) rfl)), (tm_6 _ (List.mem_of_getElem? (i := 84) rfl)), (tm_1 _ (List.mem_of_getElem? (i := 8) rfl)), (tm_6 _ (List.mem_of_getElem? (i := 85) rfl)), ⟨by decide +kernel, by decide +kernel⟩, by decide +kernel⟩
def y_Mod_row : MethodName := ⟨zc_Mod, "row", "(I)I"⟩
abbrev b_Mod_row : ByteArray := prog_8_method_119_code
theorem mv_Mod_row : Mv y_Mod_row b_Mod_row 3 (some .int) 1 := ⟨(tm_6 _ (List.mem_of_getElem? (i := 91) rfl)), (tm_6 _ (List.mem_of_getElem? (i := 92) rfl)), (tm_1 _ (List.mem_of_getElem? (i := 8) rfl)), (tm_6 _ (List.mem_of_getElem? (i := 93) rfl)), ⟨by decide +kernel, by decide +kernel⟩, by decide +kernel⟩
def y_Mod_judge : MethodName := ⟨zc_Mod, "judge", "(I)I"⟩
abbrev b_Mod_judge : ByteArray := prog_8_method_120_code
theorem mv_Mod_judge : Mv y_Mod_judge b_Mod_judge 5 (some .int) 1 := ⟨(tm_6 _ (List.mem_of_getElem? (i := 95) rfl)), (tm_6 _ (List.mem_of_getElem? (i := 96) rfl)), (tm_1 _ (List.mem_of_getElem? (i := 8) rfl)), (tm_6 _ (List.mem_of_getElem? (i := 97) rfl)), ⟨by decide +kernel, by decide +kernel⟩, by decide +kernel⟩
def y_Mod_forged : MethodName := ⟨zc_Mod, "forged", "()I"⟩
abbrev b_Mod_forged : ByteArray := prog_8_method_121_code
theorem mv_Mod_forged : Mv y_Mod_forged b_Mod_forged 4 (some .int) 0 := ⟨(tm_6 _ (List.mem_of_getElem? (i := 99) rfl)), (tm_6 _ (List.mem_of_getElem? (i := 100) rfl)), (tm_1 _ (List.mem_of_getElem? (i := 8) rfl)), (tm_6 _ (List.mem_of_getElem? (i := 101) rfl)), ⟨by decide +kernel, by decide +kernel⟩, by decide +kernel⟩
def y_Mod_clear : MethodName := ⟨zc_Mod, "clear", "()I"⟩
abbrev b_Mod_clear : ByteArray := prog_8_method_122_code
theorem mv_Mod_clear : Mv y_Mod_clear b_Mod_clear 2 (some .int) 0 := ⟨(tm_6 _ (List.mem_of_getElem? (i := 103) rfl)), (tm_6 _ (List.mem_of_getElem? (i := 104) rfl)), (tm_1 _ (List.mem_of_getElem? (i := 8) rfl)), (tm_6 _ (List.mem_of_getElem? (i := 105) rfl)), ⟨by decide +kernel, by decide +kernel⟩, by decide +kernel⟩
def y_Mod_draw : MethodName := ⟨zc_Mod, "draw", "(I)I"⟩
abbrev b_Mod_draw : ByteArray := prog_8_method_123_code
theorem mv_Mod_draw : Mv y_Mod_draw b_Mod_draw 2 (some .int) 1 := ⟨(tm_6 _ (List.mem_of_getElem? (i := 116) rfl)), (List.mem_of_getElem? (i := 156) (by decide +kernel)), (tm_1 _ (List.mem_of_getElem? (i := 8) rfl)), (tm_6 _ (List.mem_of_getElem? (i := 117) rfl)), ⟨by decide +kernel, by decide +kernel⟩, by decide +kernel⟩
def y_Mod_saysByLot : MethodName := ⟨zc_Mod, "saysByLot", "()V"⟩
abbrev b_Mod_saysByLot : ByteArray := prog_8_method_124_code
theorem mv_Mod_saysByLot : Mv y_Mod_saysByLot b_Mod_saysByLot 3 none 0 := ⟨(tm_6 _ (List.mem_of_getElem? (i := 112) rfl)), (List.mem_of_getElem? (i := 155) (by decide +kernel)), (tm_1 _ (List.mem_of_getElem? (i := 8) rfl)), (tm_6 _ (List.mem_of_getElem? (i := 113) rfl)), ⟨by decide +kernel, by decide +kernel⟩, by decide +kernel⟩
def y_Mod_lots : MethodName := ⟨zc_Mod, "lots", "(III)I"⟩
abbrev b_Mod_lots : ByteArray := prog_8_method_125_code
theorem mv_Mod_lots : Mv y_Mod_lots b_Mod_lots 8 (some .int) 3 := ⟨(tm_6 _ (List.mem_of_getElem? (i := 107) rfl)), (tm_6 _ (List.mem_of_getElem? (i := 108) rfl)), (tm_1 _ (List.mem_of_getElem? (i := 8) rfl)), (tm_6 _ (List.mem_of_getElem? (i := 109) rfl)), ⟨by decide +kernel, by decide +kernel⟩, by decide +kernel⟩
def y_Mod_count : MethodName := ⟨zc_Mod, "count", "(I)I"⟩
abbrev b_Mod_count : ByteArray := prog_8_method_126_code
theorem mv_Mod_count : Mv y_Mod_count b_Mod_count 2 (some .int) 1 := ⟨(tm_6 _ (List.mem_of_getElem? (i := 126) rfl)), (tm_6 _ (List.mem_of_getElem? (i := 127) rfl)), (tm_1 _ (List.mem_of_getElem? (i := 8) rfl)), (tm_6 _ (List.mem_of_getElem? (i := 128) rfl)), ⟨by decide +kernel, by decide +kernel⟩, by decide +kernel⟩
def y_Disk_init : MethodName := ⟨zc_Disk, "<init>", "()V"⟩
abbrev b_Disk_init : ByteArray := prog_2_method_1_code
def y_Disk_copyFrom : MethodName := ⟨zc_Disk, "copyFrom", "(LTwinTreeVolume$Disk;)V"⟩
abbrev b_Disk_copyFrom : ByteArray := prog_2_method_2_code
theorem mv_Disk_copyFrom : Mv y_Disk_copyFrom b_Disk_copyFrom 3 none 1 := ⟨(tm_1 _ (List.mem_of_getElem? (i := 179) rfl)), (List.mem_of_getElem? (i := 6) (by decide +kernel)), (tm_1 _ (List.mem_of_getElem? (i := 2) rfl)), (tm_1 _ (List.mem_of_getElem? (i := 180) rfl)), ⟨by decide +kernel, by decide +kernel⟩, by decide +kernel⟩
def y_Disk_lookedAtRuns : MethodName := ⟨zc_Disk, "lookedAtRuns", "()LTwinTreeVolume$Runs;"⟩
abbrev b_Disk_lookedAtRuns : ByteArray := prog_2_method_3_code
theorem mv_Disk_lookedAtRuns : Mv y_Disk_lookedAtRuns b_Disk_lookedAtRuns 1 (some (.object "TwinTreeVolume$Runs")) 0 := ⟨(tm_2 _ (List.mem_of_getElem? (i := 220) rfl)), (List.mem_of_getElem? (i := 54) (by decide +kernel)), (tm_1 _ (List.mem_of_getElem? (i := 2) rfl)), (tm_2 _ (List.mem_of_getElem? (i := 221) rfl)), ⟨by decide +kernel, by decide +kernel⟩, by decide +kernel⟩
def y_Disk_greatestSize : MethodName := ⟨zc_Disk, "greatestSize", "()I"⟩
abbrev b_Disk_greatestSize : ByteArray := prog_2_method_4_code
theorem mv_Disk_greatestSize : Mv y_Disk_greatestSize b_Disk_greatestSize 1 (some .int) 0 := ⟨(tm_3 _ (List.mem_of_getElem? (i := 169) rfl)), (List.mem_of_getElem? (i := 77) (by decide +kernel)), (tm_1 _ (List.mem_of_getElem? (i := 2) rfl)), (tm_3 _ (List.mem_of_getElem? (i := 170) rfl)), ⟨by decide +kernel, by decide +kernel⟩, by decide +kernel⟩
def y_Disk_kindAt : MethodName := ⟨zc_Disk, "kindAt", "(I)I"⟩
abbrev b_Disk_kindAt : ByteArray := prog_2_method_5_code
theorem mv_Disk_kindAt : Mv y_Disk_kindAt b_Disk_kindAt 2 (some .int) 1 := ⟨(tm_2 _ (List.mem_of_getElem? (i := 34) rfl)), (List.mem_of_getElem? (i := 26) (by decide +kernel)), (tm_1 _ (List.mem_of_getElem? (i := 2) rfl)), (tm_2 _ (List.mem_of_getElem? (i := 35) rfl)), ⟨by decide +kernel, by decide +kernel⟩, by decide +kernel⟩
def y_Disk_ownerAt : MethodName := ⟨zc_Disk, "ownerAt", "(I)I"⟩
abbrev b_Disk_ownerAt : ByteArray := prog_2_method_6_code
theorem mv_Disk_ownerAt : Mv y_Disk_ownerAt b_Disk_ownerAt 2 (some .int) 1 := ⟨(tm_3 _ (List.mem_of_getElem? (i := 13) rfl)), (List.mem_of_getElem? (i := 57) (by decide +kernel)), (tm_1 _ (List.mem_of_getElem? (i := 2) rfl)), (tm_3 _ (List.mem_of_getElem? (i := 14) rfl)), ⟨by decide +kernel, by decide +kernel⟩, by decide +kernel⟩
def y_Disk_byteAt : MethodName := ⟨zc_Disk, "byteAt", "(I)I"⟩
abbrev b_Disk_byteAt : ByteArray := prog_2_method_7_code
theorem mv_Disk_byteAt : Mv y_Disk_byteAt b_Disk_byteAt 2 (some .int) 1 := ⟨(tm_2 _ (List.mem_of_getElem? (i := 174) rfl)), (List.mem_of_getElem? (i := 53) (by decide +kernel)), (tm_1 _ (List.mem_of_getElem? (i := 2) rfl)), (tm_2 _ (List.mem_of_getElem? (i := 175) rfl)), ⟨by decide +kernel, by decide +kernel⟩, by decide +kernel⟩
def y_Disk_blockAt : MethodName := ⟨zc_Disk, "blockAt", "(II)I"⟩
abbrev b_Disk_blockAt : ByteArray := prog_2_method_8_code
theorem mv_Disk_blockAt : Mv y_Disk_blockAt b_Disk_blockAt 4 (some .int) 2 := ⟨(tm_1 _ (List.mem_of_getElem? (i := 213) rfl)), (List.mem_of_getElem? (i := 12) (by decide +kernel)), (tm_1 _ (List.mem_of_getElem? (i := 2) rfl)), (tm_1 _ (List.mem_of_getElem? (i := 214) rfl)), ⟨by decide +kernel, by decide +kernel⟩, by decide +kernel⟩
def y_Disk_valueAt : MethodName := ⟨zc_Disk, "valueAt", "(II)I"⟩
abbrev b_Disk_valueAt : ByteArray := prog_2_method_9_code
theorem mv_Disk_valueAt : Mv y_Disk_valueAt b_Disk_valueAt 4 (some .int) 2 := ⟨(tm_1 _ (List.mem_of_getElem? (i := 217) rfl)), (List.mem_of_getElem? (i := 13) (by decide +kernel)), (tm_1 _ (List.mem_of_getElem? (i := 2) rfl)), (tm_1 _ (List.mem_of_getElem? (i := 218) rfl)), ⟨by decide +kernel, by decide +kernel⟩, by decide +kernel⟩
def y_Disk_isWritten : MethodName := ⟨zc_Disk, "isWritten", "(II)Z"⟩
abbrev b_Disk_isWritten : ByteArray := prog_2_method_10_code
theorem mv_Disk_isWritten : Mv y_Disk_isWritten b_Disk_isWritten 4 (some .boolean) 2 := ⟨(tm_2 _ (List.mem_of_getElem? (i := 131) rfl)), (List.mem_of_getElem? (i := 46) (by decide +kernel)), (tm_1 _ (List.mem_of_getElem? (i := 2) rfl)), (tm_2 _ (List.mem_of_getElem? (i := 132) rfl)), ⟨by decide +kernel, by decide +kernel⟩, by decide +kernel⟩
def y_Disk_isHole : MethodName := ⟨zc_Disk, "isHole", "(II)Z"⟩
abbrev b_Disk_isHole : ByteArray := prog_2_method_11_code
theorem mv_Disk_isHole : Mv y_Disk_isHole b_Disk_isHole 3 (some .boolean) 2 := ⟨(tm_1 _ (List.mem_of_getElem? (i := 209) rfl)), (List.mem_of_getElem? (i := 11) (by decide +kernel)), (tm_1 _ (List.mem_of_getElem? (i := 2) rfl)), (tm_1 _ (List.mem_of_getElem? (i := 210) rfl)), ⟨by decide +kernel, by decide +kernel⟩, by decide +kernel⟩
def y_Disk_isPromised : MethodName := ⟨zc_Disk, "isPromised", "(II)Z"⟩
abbrev b_Disk_isPromised : ByteArray := prog_2_method_12_code
theorem mv_Disk_isPromised : Mv y_Disk_isPromised b_Disk_isPromised 3 (some .boolean) 2 := ⟨(tm_2 _ (List.mem_of_getElem? (i := 89) rfl)), (List.mem_of_getElem? (i := 38) (by decide +kernel)), (tm_1 _ (List.mem_of_getElem? (i := 2) rfl)), (tm_2 _ (List.mem_of_getElem? (i := 90) rfl)), ⟨by decide +kernel, by decide +kernel⟩, by decide +kernel⟩
def y_Disk_readAt : MethodName := ⟨zc_Disk, "readAt", "(II)I"⟩
abbrev b_Disk_readAt : ByteArray := prog_2_method_13_code
theorem mv_Disk_readAt : Mv y_Disk_readAt b_Disk_readAt 3 (some .int) 2 := ⟨(tm_2 _ (List.mem_of_getElem? (i := 170) rfl)), (List.mem_of_getElem? (i := 52) (by decide +kernel)), (tm_1 _ (List.mem_of_getElem? (i := 2) rfl)), (tm_2 _ (List.mem_of_getElem? (i := 171) rfl)), ⟨by decide +kernel, by decide +kernel⟩, by decide +kernel⟩
def y_Disk_freeBlocks : MethodName := ⟨zc_Disk, "freeBlocks", "()I"⟩
abbrev b_Disk_freeBlocks : ByteArray := prog_2_method_14_code
theorem mv_Disk_freeBlocks : Mv y_Disk_freeBlocks b_Disk_freeBlocks 3 (some .int) 0 := ⟨(tm_1 _ (List.mem_of_getElem? (i := 225) rfl)), (List.mem_of_getElem? (i := 15) (by decide +kernel)), (tm_1 _ (List.mem_of_getElem? (i := 2) rfl)), (tm_1 _ (List.mem_of_getElem? (i := 226) rfl)), ⟨by decide +kernel, by decide +kernel⟩, by decide +kernel⟩
def y_Disk_takenAmong : MethodName := ⟨zc_Disk, "takenAmong", "(II)I"⟩
abbrev b_Disk_takenAmong : ByteArray := prog_2_method_15_code
theorem mv_Disk_takenAmong : Mv y_Disk_takenAmong b_Disk_takenAmong 5 (some .int) 2 := ⟨(tm_3 _ (List.mem_of_getElem? (i := 125) rfl)), (List.mem_of_getElem? (i := 72) (by decide +kernel)), (tm_1 _ (List.mem_of_getElem? (i := 2) rfl)), (tm_3 _ (List.mem_of_getElem? (i := 126) rfl)), ⟨by decide +kernel, by decide +kernel⟩, by decide +kernel⟩
def y_Disk_leastTakenWindow : MethodName := ⟨zc_Disk, "leastTakenWindow", "(I)I"⟩
abbrev b_Disk_leastTakenWindow : ByteArray := prog_2_method_16_code
theorem mv_Disk_leastTakenWindow : Mv y_Disk_leastTakenWindow b_Disk_leastTakenWindow 8 (some .int) 1 := ⟨(tm_3 _ (List.mem_of_getElem? (i := 121) rfl)), (List.mem_of_getElem? (i := 71) (by decide +kernel)), (tm_1 _ (List.mem_of_getElem? (i := 2) rfl)), (tm_3 _ (List.mem_of_getElem? (i := 122) rfl)), ⟨by decide +kernel, by decide +kernel⟩, by decide +kernel⟩
def y_Disk_staleBlocks : MethodName := ⟨zc_Disk, "staleBlocks", "(Z)I"⟩
abbrev b_Disk_staleBlocks : ByteArray := prog_2_method_17_code
theorem mv_Disk_staleBlocks : Mv y_Disk_staleBlocks b_Disk_staleBlocks 6 (some .int) 1 := ⟨(tm_3 _ (List.mem_of_getElem? (i := 21) rfl)), (List.mem_of_getElem? (i := 58) (by decide +kernel)), (tm_1 _ (List.mem_of_getElem? (i := 2) rfl)), (tm_3 _ (List.mem_of_getElem? (i := 22) rfl)), ⟨by decide +kernel, by decide +kernel⟩, by decide +kernel⟩
def y_Disk_placedIn : MethodName := ⟨zc_Disk, "placedIn", "(I)I"⟩
abbrev b_Disk_placedIn : ByteArray := prog_2_method_18_code
theorem mv_Disk_placedIn : Mv y_Disk_placedIn b_Disk_placedIn 4 (some .int) 1 := ⟨(tm_2 _ (List.mem_of_getElem? (i := 101) rfl)), (List.mem_of_getElem? (i := 41) (by decide +kernel)), (tm_1 _ (List.mem_of_getElem? (i := 2) rfl)), (tm_2 _ (List.mem_of_getElem? (i := 102) rfl)), ⟨by decide +kernel, by decide +kernel⟩, by decide +kernel⟩
def y_Disk_writtenIn : MethodName := ⟨zc_Disk, "writtenIn", "(I)I"⟩
abbrev b_Disk_writtenIn : ByteArray := prog_2_method_19_code
theorem mv_Disk_writtenIn : Mv y_Disk_writtenIn b_Disk_writtenIn 4 (some .int) 1 := ⟨(tm_2 _ (List.mem_of_getElem? (i := 162) rfl)), (List.mem_of_getElem? (i := 51) (by decide +kernel)), (tm_1 _ (List.mem_of_getElem? (i := 2) rfl)), (tm_2 _ (List.mem_of_getElem? (i := 163) rfl)), ⟨by decide +kernel, by decide +kernel⟩, by decide +kernel⟩
def y_Disk_waitingIn : MethodName := ⟨zc_Disk, "waitingIn", "(I)I"⟩
abbrev b_Disk_waitingIn : ByteArray := prog_2_method_20_code
theorem mv_Disk_waitingIn : Mv y_Disk_waitingIn b_Disk_waitingIn 4 (some .int) 1 := ⟨(tm_2 _ (List.mem_of_getElem? (i := 142) rfl)), (List.mem_of_getElem? (i := 47) (by decide +kernel)), (tm_1 _ (List.mem_of_getElem? (i := 2) rfl)), (tm_2 _ (List.mem_of_getElem? (i := 143) rfl)), ⟨by decide +kernel, by decide +kernel⟩, by decide +kernel⟩
def y_Disk_promisedIn : MethodName := ⟨zc_Disk, "promisedIn", "(I)I"⟩
abbrev b_Disk_promisedIn : ByteArray := prog_2_method_21_code
theorem mv_Disk_promisedIn : Mv y_Disk_promisedIn b_Disk_promisedIn 4 (some .int) 1 := ⟨(tm_2 _ (List.mem_of_getElem? (i := 146) rfl)), (List.mem_of_getElem? (i := 48) (by decide +kernel)), (tm_1 _ (List.mem_of_getElem? (i := 2) rfl)), (tm_2 _ (List.mem_of_getElem? (i := 147) rfl)), ⟨by decide +kernel, by decide +kernel⟩, by decide +kernel⟩
def y_Disk_promisedInAll : MethodName := ⟨zc_Disk, "promisedInAll", "()I"⟩
abbrev b_Disk_promisedInAll : ByteArray := prog_2_method_22_code
theorem mv_Disk_promisedInAll : Mv y_Disk_promisedInAll b_Disk_promisedInAll 3 (some .int) 0 := ⟨(tm_1 _ (List.mem_of_getElem? (i := 229) rfl)), (List.mem_of_getElem? (i := 16) (by decide +kernel)), (tm_1 _ (List.mem_of_getElem? (i := 2) rfl)), (tm_1 _ (List.mem_of_getElem? (i := 230) rfl)), ⟨by decide +kernel, by decide +kernel⟩, by decide +kernel⟩
def y_Disk_roomLeft : MethodName := ⟨zc_Disk, "roomLeft", "()I"⟩
abbrev b_Disk_roomLeft : ByteArray := prog_2_method_23_code
theorem mv_Disk_roomLeft : Mv y_Disk_roomLeft b_Disk_roomLeft 1 (some .int) 0 := ⟨(tm_1 _ (List.mem_of_getElem? (i := 221) rfl)), (List.mem_of_getElem? (i := 14) (by decide +kernel)), (tm_1 _ (List.mem_of_getElem? (i := 2) rfl)), (tm_1 _ (List.mem_of_getElem? (i := 222) rfl)), ⟨by decide +kernel, by decide +kernel⟩, by decide +kernel⟩
def y_Disk_extentsIn : MethodName := ⟨zc_Disk, "extentsIn", "(I)I"⟩
abbrev b_Disk_extentsIn : ByteArray := prog_2_method_24_code
theorem mv_Disk_extentsIn : Mv y_Disk_extentsIn b_Disk_extentsIn 4 (some .int) 1 := ⟨(tm_2 _ (List.mem_of_getElem? (i := 150) rfl)), (List.mem_of_getElem? (i := 49) (by decide +kernel)), (tm_1 _ (List.mem_of_getElem? (i := 2) rfl)), (tm_2 _ (List.mem_of_getElem? (i := 151) rfl)), ⟨by decide +kernel, by decide +kernel⟩, by decide +kernel⟩
def y_Disk_goesOn : MethodName := ⟨zc_Disk, "goesOn", "(II)Z"⟩
abbrev b_Disk_goesOn : ByteArray := prog_2_method_25_code
theorem mv_Disk_goesOn : Mv y_Disk_goesOn b_Disk_goesOn 4 (some .boolean) 2 := ⟨(tm_2 _ (List.mem_of_getElem? (i := 154) rfl)), (List.mem_of_getElem? (i := 50) (by decide +kernel)), (tm_1 _ (List.mem_of_getElem? (i := 2) rfl)), (tm_2 _ (List.mem_of_getElem? (i := 155) rfl)), ⟨by decide +kernel, by decide +kernel⟩, by decide +kernel⟩
def y_Disk_extentsInAll : MethodName := ⟨zc_Disk, "extentsInAll", "()I"⟩
abbrev b_Disk_extentsInAll : ByteArray := prog_2_method_26_code
theorem mv_Disk_extentsInAll : Mv y_Disk_extentsInAll b_Disk_extentsInAll 3 (some .int) 0 := ⟨(tm_3 _ (List.mem_of_getElem? (i := 68) rfl)), (List.mem_of_getElem? (i := 64) (by decide +kernel)), (tm_1 _ (List.mem_of_getElem? (i := 2) rfl)), (tm_3 _ (List.mem_of_getElem? (i := 69) rfl)), ⟨by decide +kernel, by decide +kernel⟩, by decide +kernel⟩
def y_Disk_holesAmong : MethodName := ⟨zc_Disk, "holesAmong", "(III)I"⟩
abbrev b_Disk_holesAmong : ByteArray := prog_2_method_27_code
theorem mv_Disk_holesAmong : Mv y_Disk_holesAmong b_Disk_holesAmong 6 (some .int) 3 := ⟨(tm_2 _ (List.mem_of_getElem? (i := 2) rfl)), (List.mem_of_getElem? (i := 18) (by decide +kernel)), (tm_1 _ (List.mem_of_getElem? (i := 2) rfl)), (tm_2 _ (List.mem_of_getElem? (i := 3) rfl)), ⟨by decide +kernel, by decide +kernel⟩, by decide +kernel⟩
def y_Disk_turnKind : MethodName := ⟨zc_Disk, "turnKind", "(II)V"⟩
abbrev b_Disk_turnKind : ByteArray := prog_2_method_28_code
theorem mv_Disk_turnKind : Mv y_Disk_turnKind b_Disk_turnKind 3 none 2 := ⟨(tm_2 _ (List.mem_of_getElem? (i := 113) rfl)), (List.mem_of_getElem? (i := 44) (by decide +kernel)), (tm_1 _ (List.mem_of_getElem? (i := 2) rfl)), (tm_2 _ (List.mem_of_getElem? (i := 114) rfl)), ⟨by decide +kernel, by decide +kernel⟩, by decide +kernel⟩
def y_Disk_sayAt : MethodName := ⟨zc_Disk, "sayAt", "(III)Z"⟩
abbrev b_Disk_sayAt : ByteArray := prog_2_method_29_code
theorem mv_Disk_sayAt : Mv y_Disk_sayAt b_Disk_sayAt 4 (some .boolean) 3 := ⟨(tm_1 _ (List.mem_of_getElem? (i := 201) rfl)), (List.mem_of_getElem? (i := 10) (by decide +kernel)), (tm_1 _ (List.mem_of_getElem? (i := 2) rfl)), (tm_1 _ (List.mem_of_getElem? (i := 202) rfl)), ⟨by decide +kernel, by decide +kernel⟩, by decide +kernel⟩
def y_Disk_putHoles : MethodName := ⟨zc_Disk, "putHoles", "(III)I"⟩
abbrev b_Disk_putHoles : ByteArray := prog_2_method_30_code
theorem mv_Disk_putHoles : Mv y_Disk_putHoles b_Disk_putHoles 6 (some .int) 3 := ⟨(tm_1 _ (List.mem_of_getElem? (i := 238) rfl)), (List.mem_of_getElem? (i := 17) (by decide +kernel)), (tm_1 _ (List.mem_of_getElem? (i := 2) rfl)), (tm_1 _ (List.mem_of_getElem? (i := 239) rfl)), ⟨by decide +kernel, by decide +kernel⟩, by decide +kernel⟩
def y_Disk_holesFrom : MethodName := ⟨zc_Disk, "holesFrom", "(III)I"⟩
abbrev b_Disk_holesFrom : ByteArray := prog_2_method_31_code
theorem mv_Disk_holesFrom : Mv y_Disk_holesFrom b_Disk_holesFrom 6 (some .int) 3 := ⟨(tm_2 _ (List.mem_of_getElem? (i := 6) rfl)), (List.mem_of_getElem? (i := 19) (by decide +kernel)), (tm_1 _ (List.mem_of_getElem? (i := 2) rfl)), (tm_2 _ (List.mem_of_getElem? (i := 7) rfl)), ⟨by decide +kernel, by decide +kernel⟩, by decide +kernel⟩
def y_Disk_promisedFrom : MethodName := ⟨zc_Disk, "promisedFrom", "(II)I"⟩
abbrev b_Disk_promisedFrom : ByteArray := prog_2_method_32_code
theorem mv_Disk_promisedFrom : Mv y_Disk_promisedFrom b_Disk_promisedFrom 5 (some .int) 2 := ⟨(tm_2 _ (List.mem_of_getElem? (i := 85) rfl)), (List.mem_of_getElem? (i := 37) (by decide +kernel)), (tm_1 _ (List.mem_of_getElem? (i := 2) rfl)), (tm_2 _ (List.mem_of_getElem? (i := 86) rfl)), ⟨by decide +kernel, by decide +kernel⟩, by decide +kernel⟩
def y_Disk_putPiece : MethodName := ⟨zc_Disk, "putPiece", "(III)I"⟩
abbrev b_Disk_putPiece : ByteArray := prog_2_method_33_code
theorem mv_Disk_putPiece : Mv y_Disk_putPiece b_Disk_putPiece 8 (some .int) 3 := ⟨(tm_2 _ (List.mem_of_getElem? (i := 10) rfl)), (List.mem_of_getElem? (i := 20) (by decide +kernel)), (tm_1 _ (List.mem_of_getElem? (i := 2) rfl)), (tm_2 _ (List.mem_of_getElem? (i := 11) rfl)), ⟨by decide +kernel, by decide +kernel⟩, by decide +kernel⟩
def y_Disk_goalOf : MethodName := ⟨zc_Disk, "goalOf", "(II)I"⟩
abbrev b_Disk_goalOf : ByteArray := prog_2_method_34_code
theorem mv_Disk_goalOf : Mv y_Disk_goalOf b_Disk_goalOf 4 (some .int) 2 := ⟨(tm_2 _ (List.mem_of_getElem? (i := 38) rfl)), (List.mem_of_getElem? (i := 27) (by decide +kernel)), (tm_1 _ (List.mem_of_getElem? (i := 2) rfl)), (tm_2 _ (List.mem_of_getElem? (i := 39) rfl)), ⟨by decide +kernel, by decide +kernel⟩, by decide +kernel⟩
def y_Disk_place : MethodName := ⟨zc_Disk, "place", "(III)V"⟩
abbrev b_Disk_place : ByteArray := prog_2_method_35_code
theorem mv_Disk_place : Mv y_Disk_place b_Disk_place 4 none 3 := ⟨(tm_2 _ (List.mem_of_getElem? (i := 66) rfl)), (List.mem_of_getElem? (i := 33) (by decide +kernel)), (tm_1 _ (List.mem_of_getElem? (i := 2) rfl)), (tm_2 _ (List.mem_of_getElem? (i := 67) rfl)), ⟨by decide +kernel, by decide +kernel⟩, by decide +kernel⟩
def y_Disk_punchOut : MethodName := ⟨zc_Disk, "punchOut", "(III)I"⟩
abbrev b_Disk_punchOut : ByteArray := prog_2_method_36_code
theorem mv_Disk_punchOut : Mv y_Disk_punchOut b_Disk_punchOut 6 (some .int) 3 := ⟨(tm_2 _ (List.mem_of_getElem? (i := 73) rfl)), (List.mem_of_getElem? (i := 34) (by decide +kernel)), (tm_1 _ (List.mem_of_getElem? (i := 2) rfl)), (tm_2 _ (List.mem_of_getElem? (i := 74) rfl)), ⟨by decide +kernel, by decide +kernel⟩, by decide +kernel⟩
def y_Disk_punchOne : MethodName := ⟨zc_Disk, "punchOne", "(II)I"⟩
abbrev b_Disk_punchOne : ByteArray := prog_2_method_37_code
theorem mv_Disk_punchOne : Mv y_Disk_punchOne b_Disk_punchOne 4 (some .int) 2 := ⟨(tm_2 _ (List.mem_of_getElem? (i := 77) rfl)), (List.mem_of_getElem? (i := 35) (by decide +kernel)), (tm_1 _ (List.mem_of_getElem? (i := 2) rfl)), (tm_2 _ (List.mem_of_getElem? (i := 78) rfl)), ⟨by decide +kernel, by decide +kernel⟩, by decide +kernel⟩
def y_Disk_flushUpTo : MethodName := ⟨zc_Disk, "flushUpTo", "(II)I"⟩
abbrev b_Disk_flushUpTo : ByteArray := prog_2_method_38_code
theorem mv_Disk_flushUpTo : Mv y_Disk_flushUpTo b_Disk_flushUpTo 5 (some .int) 2 := ⟨(tm_2 _ (List.mem_of_getElem? (i := 81) rfl)), (List.mem_of_getElem? (i := 36) (by decide +kernel)), (tm_1 _ (List.mem_of_getElem? (i := 2) rfl)), (tm_2 _ (List.mem_of_getElem? (i := 82) rfl)), ⟨by decide +kernel, by decide +kernel⟩, by decide +kernel⟩
def y_Disk_writeDown : MethodName := ⟨zc_Disk, "writeDown", "(III)I"⟩
abbrev b_Disk_writeDown : ByteArray := prog_2_method_39_code
theorem mv_Disk_writeDown : Mv y_Disk_writeDown b_Disk_writeDown 5 (some .int) 3 := ⟨(tm_2 _ (List.mem_of_getElem? (i := 93) rfl)), (List.mem_of_getElem? (i := 39) (by decide +kernel)), (tm_1 _ (List.mem_of_getElem? (i := 2) rfl)), (tm_2 _ (List.mem_of_getElem? (i := 94) rfl)), ⟨by decide +kernel, by decide +kernel⟩, by decide +kernel⟩
def y_Disk_dropWaiting : MethodName := ⟨zc_Disk, "dropWaiting", "()I"⟩
abbrev b_Disk_dropWaiting : ByteArray := prog_2_method_40_code
theorem mv_Disk_dropWaiting : Mv y_Disk_dropWaiting b_Disk_dropWaiting 3 (some .int) 0 := ⟨(tm_2 _ (List.mem_of_getElem? (i := 109) rfl)), (List.mem_of_getElem? (i := 43) (by decide +kernel)), (tm_1 _ (List.mem_of_getElem? (i := 2) rfl)), (tm_2 _ (List.mem_of_getElem? (i := 110) rfl)), ⟨by decide +kernel, by decide +kernel⟩, by decide +kernel⟩
def y_Disk_settleDown : MethodName := ⟨zc_Disk, "settleDown", "(I)I"⟩
abbrev b_Disk_settleDown : ByteArray := prog_2_method_41_code
theorem mv_Disk_settleDown : Mv y_Disk_settleDown b_Disk_settleDown 6 (some .int) 1 := ⟨(tm_2 _ (List.mem_of_getElem? (i := 97) rfl)), (List.mem_of_getElem? (i := 40) (by decide +kernel)), (tm_1 _ (List.mem_of_getElem? (i := 2) rfl)), (tm_2 _ (List.mem_of_getElem? (i := 98) rfl)), ⟨by decide +kernel, by decide +kernel⟩, by decide +kernel⟩
def y_Disk_move : MethodName := ⟨zc_Disk, "move", "(III)V"⟩
abbrev b_Disk_move : ByteArray := prog_2_method_42_code
theorem mv_Disk_move : Mv y_Disk_move b_Disk_move 5 none 3 := ⟨(tm_2 _ (List.mem_of_getElem? (i := 105) rfl)), (List.mem_of_getElem? (i := 42) (by decide +kernel)), (tm_1 _ (List.mem_of_getElem? (i := 2) rfl)), (tm_2 _ (List.mem_of_getElem? (i := 106) rfl)), ⟨by decide +kernel, by decide +kernel⟩, by decide +kernel⟩
def y_Mind_init : MethodName := ⟨zc_Mind, "<init>", "(LTwinTreeVolume$Disk;LTwinTreeVolume$Disk;)V"⟩
abbrev b_Mind_init : ByteArray := prog_3_method_1_code
def y_Mind_flushByKind : MethodName := ⟨zc_Mind, "flushByKind", "(II)V"⟩
abbrev b_Mind_flushByKind : ByteArray := prog_3_method_2_code
theorem mv_Mind_flushByKind : Mv y_Mind_flushByKind b_Mind_flushByKind 3 none 2 := ⟨(tm_3 _ (List.mem_of_getElem? (i := 34) rfl)), (List.mem_of_getElem? (i := 60) (by decide +kernel)), (tm_1 _ (List.mem_of_getElem? (i := 4) rfl)), (tm_3 _ (List.mem_of_getElem? (i := 35) rfl)), ⟨by decide +kernel, by decide +kernel⟩, by decide +kernel⟩
def y_Mind_extentsByKind : MethodName := ⟨zc_Mind, "extentsByKind", "(II)I"⟩
abbrev b_Mind_extentsByKind : ByteArray := prog_3_method_3_code
theorem mv_Mind_extentsByKind : Mv y_Mind_extentsByKind b_Mind_extentsByKind 3 (some .int) 2 := ⟨(tm_3 _ (List.mem_of_getElem? (i := 30) rfl)), (List.mem_of_getElem? (i := 59) (by decide +kernel)), (tm_1 _ (List.mem_of_getElem? (i := 4) rfl)), (tm_3 _ (List.mem_of_getElem? (i := 31) rfl)), ⟨by decide +kernel, by decide +kernel⟩, by decide +kernel⟩
def y_Mind_leastKind : MethodName := ⟨zc_Mind, "leastKind", "(I)I"⟩
abbrev b_Mind_leastKind : ByteArray := prog_3_method_4_code
theorem mv_Mind_leastKind : Mv y_Mind_leastKind b_Mind_leastKind 5 (some .int) 1 := ⟨(tm_3 _ (List.mem_of_getElem? (i := 46) rfl)), (List.mem_of_getElem? (i := 61) (by decide +kernel)), (tm_1 _ (List.mem_of_getElem? (i := 4) rfl)), (tm_3 _ (List.mem_of_getElem? (i := 47) rfl)), ⟨by decide +kernel, by decide +kernel⟩, by decide +kernel⟩
def y_Mind_leastOrder : MethodName := ⟨zc_Mind, "leastOrder", "()I"⟩
abbrev b_Mind_leastOrder : ByteArray := prog_3_method_5_code
theorem mv_Mind_leastOrder : Mv y_Mind_leastOrder b_Mind_leastOrder 5 (some .int) 0 := ⟨(tm_3 _ (List.mem_of_getElem? (i := 54) rfl)), (List.mem_of_getElem? (i := 62) (by decide +kernel)), (tm_1 _ (List.mem_of_getElem? (i := 4) rfl)), (tm_3 _ (List.mem_of_getElem? (i := 55) rfl)), ⟨by decide +kernel, by decide +kernel⟩, by decide +kernel⟩
def y_Mind_isOrder : MethodName := ⟨zc_Mind, "isOrder", "(I)Z"⟩
abbrev b_Mind_isOrder : ByteArray := prog_3_method_6_code
theorem mv_Mind_isOrder : Ms y_Mind_isOrder b_Mind_isOrder 3 (some .boolean) 1 := ⟨(tm_3 _ (List.mem_of_getElem? (i := 57) rfl)), (tm_1 _ (List.mem_of_getElem? (i := 4) rfl)), (tm_3 _ (List.mem_of_getElem? (i := 58) rfl)), ⟨by decide +kernel, by decide +kernel⟩, by decide +kernel⟩
def y_Mind_extentsByOrder : MethodName := ⟨zc_Mind, "extentsByOrder", "(I)I"⟩
abbrev b_Mind_extentsByOrder : ByteArray := prog_3_method_7_code
theorem mv_Mind_extentsByOrder : Mv y_Mind_extentsByOrder b_Mind_extentsByOrder 3 (some .int) 1 := ⟨(tm_3 _ (List.mem_of_getElem? (i := 64) rfl)), (List.mem_of_getElem? (i := 63) (by decide +kernel)), (tm_1 _ (List.mem_of_getElem? (i := 4) rfl)), (tm_3 _ (List.mem_of_getElem? (i := 65) rfl)), ⟨by decide +kernel, by decide +kernel⟩, by decide +kernel⟩
def y_Mind_stepsOf : MethodName := ⟨zc_Mind, "stepsOf", "(I)I"⟩
abbrev b_Mind_stepsOf : ByteArray := prog_3_method_8_code
theorem mv_Mind_stepsOf : Mv y_Mind_stepsOf b_Mind_stepsOf 2 (some .int) 1 := ⟨(tm_3 _ (List.mem_of_getElem? (i := 82) rfl)), (List.mem_of_getElem? (i := 65) (by decide +kernel)), (tm_1 _ (List.mem_of_getElem? (i := 4) rfl)), (tm_3 _ (List.mem_of_getElem? (i := 83) rfl)), ⟨by decide +kernel, by decide +kernel⟩, by decide +kernel⟩
def y_Mind_crashBehind : MethodName := ⟨zc_Mind, "crashBehind", "(II)V"⟩
abbrev b_Mind_crashBehind : ByteArray := prog_3_method_9_code
theorem mv_Mind_crashBehind : Mv y_Mind_crashBehind b_Mind_crashBehind 3 none 2 := ⟨(tm_3 _ (List.mem_of_getElem? (i := 94) rfl)), (List.mem_of_getElem? (i := 67) (by decide +kernel)), (tm_1 _ (List.mem_of_getElem? (i := 4) rfl)), (tm_3 _ (List.mem_of_getElem? (i := 95) rfl)), ⟨by decide +kernel, by decide +kernel⟩, by decide +kernel⟩
def y_Mind_lossOfOwn : MethodName := ⟨zc_Mind, "lossOfOwn", "(II)I"⟩
abbrev b_Mind_lossOfOwn : ByteArray := prog_3_method_10_code
theorem mv_Mind_lossOfOwn : Mv y_Mind_lossOfOwn b_Mind_lossOfOwn 3 (some .int) 2 := ⟨(tm_3 _ (List.mem_of_getElem? (i := 90) rfl)), (List.mem_of_getElem? (i := 66) (by decide +kernel)), (tm_1 _ (List.mem_of_getElem? (i := 4) rfl)), (tm_3 _ (List.mem_of_getElem? (i := 91) rfl)), ⟨by decide +kernel, by decide +kernel⟩, by decide +kernel⟩
def y_Mind_lossOfOthers : MethodName := ⟨zc_Mind, "lossOfOthers", "(II)I"⟩
abbrev b_Mind_lossOfOthers : ByteArray := prog_3_method_11_code
theorem mv_Mind_lossOfOthers : Mv y_Mind_lossOfOthers b_Mind_lossOfOthers 5 (some .int) 2 := ⟨(tm_3 _ (List.mem_of_getElem? (i := 104) rfl)), (List.mem_of_getElem? (i := 69) (by decide +kernel)), (tm_1 _ (List.mem_of_getElem? (i := 4) rfl)), (tm_3 _ (List.mem_of_getElem? (i := 105) rfl)), ⟨by decide +kernel, by decide +kernel⟩, by decide +kernel⟩
def y_Mind_otherwiseIn : MethodName := ⟨zc_Mind, "otherwiseIn", "(I)I"⟩
abbrev b_Mind_otherwiseIn : ByteArray := prog_3_method_12_code
theorem mv_Mind_otherwiseIn : Mv y_Mind_otherwiseIn b_Mind_otherwiseIn 4 (some .int) 1 := ⟨(tm_3 _ (List.mem_of_getElem? (i := 99) rfl)), (List.mem_of_getElem? (i := 68) (by decide +kernel)), (tm_1 _ (List.mem_of_getElem? (i := 4) rfl)), (tm_3 _ (List.mem_of_getElem? (i := 100) rfl)), ⟨by decide +kernel, by decide +kernel⟩, by decide +kernel⟩
def y_Mind_leastSafe : MethodName := ⟨zc_Mind, "leastSafe", "(I)I"⟩
abbrev b_Mind_leastSafe : ByteArray := prog_3_method_13_code
theorem mv_Mind_leastSafe : Mv y_Mind_leastSafe b_Mind_leastSafe 4 (some .int) 1 := ⟨(tm_3 _ (List.mem_of_getElem? (i := 112) rfl)), (List.mem_of_getElem? (i := 70) (by decide +kernel)), (tm_1 _ (List.mem_of_getElem? (i := 4) rfl)), (tm_3 _ (List.mem_of_getElem? (i := 113) rfl)), ⟨by decide +kernel, by decide +kernel⟩, by decide +kernel⟩
def y_Mind_lossOfAllCrashes : MethodName := ⟨zc_Mind, "lossOfAllCrashes", "(I)I"⟩
abbrev b_Mind_lossOfAllCrashes : ByteArray := prog_3_method_14_code
theorem mv_Mind_lossOfAllCrashes : Mv y_Mind_lossOfAllCrashes b_Mind_lossOfAllCrashes 5 (some .int) 1 := ⟨(tm_3 _ (List.mem_of_getElem? (i := 178) rfl)), (List.mem_of_getElem? (i := 78) (by decide +kernel)), (tm_1 _ (List.mem_of_getElem? (i := 4) rfl)), (tm_3 _ (List.mem_of_getElem? (i := 179) rfl)), ⟨by decide +kernel, by decide +kernel⟩, by decide +kernel⟩
def y_Mind_crashesThatKeep : MethodName := ⟨zc_Mind, "crashesThatKeep", "(II)I"⟩
abbrev b_Mind_crashesThatKeep : ByteArray := prog_3_method_15_code
theorem mv_Mind_crashesThatKeep : Mv y_Mind_crashesThatKeep b_Mind_crashesThatKeep 6 (some .int) 2 := ⟨(tm_3 _ (List.mem_of_getElem? (i := 192) rfl)), (List.mem_of_getElem? (i := 79) (by decide +kernel)), (tm_1 _ (List.mem_of_getElem? (i := 4) rfl)), (tm_3 _ (List.mem_of_getElem? (i := 193) rfl)), ⟨by decide +kernel, by decide +kernel⟩, by decide +kernel⟩
def y_Mind_extentsOfPair : MethodName := ⟨zc_Mind, "extentsOfPair", "(II)I"⟩
abbrev b_Mind_extentsOfPair : ByteArray := prog_3_method_16_code
theorem mv_Mind_extentsOfPair : Mv y_Mind_extentsOfPair b_Mind_extentsOfPair 3 (some .int) 2 := ⟨(tm_3 _ (List.mem_of_getElem? (i := 134) rfl)), (List.mem_of_getElem? (i := 73) (by decide +kernel)), (tm_1 _ (List.mem_of_getElem? (i := 4) rfl)), (tm_3 _ (List.mem_of_getElem? (i := 135) rfl)), ⟨by decide +kernel, by decide +kernel⟩, by decide +kernel⟩
def y_Mind_isSteady : MethodName := ⟨zc_Mind, "isSteady", "(IIII)Z"⟩
abbrev b_Mind_isSteady : ByteArray := prog_3_method_17_code
theorem mv_Mind_isSteady : Mv y_Mind_isSteady b_Mind_isSteady 7 (some .boolean) 4 := ⟨(tm_3 _ (List.mem_of_getElem? (i := 142) rfl)), (List.mem_of_getElem? (i := 74) (by decide +kernel)), (tm_1 _ (List.mem_of_getElem? (i := 4) rfl)), (tm_3 _ (List.mem_of_getElem? (i := 143) rfl)), ⟨by decide +kernel, by decide +kernel⟩, by decide +kernel⟩
def y_Mind_playPair : MethodName := ⟨zc_Mind, "playPair", "(IIII)V"⟩
abbrev b_Mind_playPair : ByteArray := prog_3_method_18_code
theorem mv_Mind_playPair : Mv y_Mind_playPair b_Mind_playPair 5 none 4 := ⟨(tm_3 _ (List.mem_of_getElem? (i := 146) rfl)), (List.mem_of_getElem? (i := 75) (by decide +kernel)), (tm_1 _ (List.mem_of_getElem? (i := 4) rfl)), (tm_3 _ (List.mem_of_getElem? (i := 147) rfl)), ⟨by decide +kernel, by decide +kernel⟩, by decide +kernel⟩
def y_Mind_growthBySettling : MethodName := ⟨zc_Mind, "growthBySettling", "(I)I"⟩
abbrev b_Mind_growthBySettling : ByteArray := prog_3_method_19_code
theorem mv_Mind_growthBySettling : Mv y_Mind_growthBySettling b_Mind_growthBySettling 2 (some .int) 1 := ⟨(tm_3 _ (List.mem_of_getElem? (i := 164) rfl)), (List.mem_of_getElem? (i := 76) (by decide +kernel)), (tm_1 _ (List.mem_of_getElem? (i := 4) rfl)), (tm_3 _ (List.mem_of_getElem? (i := 165) rfl)), ⟨by decide +kernel, by decide +kernel⟩, by decide +kernel⟩
def y_Mind_comesAsTold : MethodName := ⟨zc_Mind, "comesAsTold", "(IILTwinTreeVolume$Row;)Z"⟩
abbrev b_Mind_comesAsTold : ByteArray := prog_3_method_20_code
theorem mv_Mind_comesAsTold : Mv y_Mind_comesAsTold b_Mind_comesAsTold 6 (some .boolean) 3 := ⟨(tm_3 _ (List.mem_of_getElem? (i := 206) rfl)), (List.mem_of_getElem? (i := 80) (by decide +kernel)), (tm_1 _ (List.mem_of_getElem? (i := 4) rfl)), (tm_3 _ (List.mem_of_getElem? (i := 207) rfl)), ⟨by decide +kernel, by decide +kernel⟩, by decide +kernel⟩
def y_Mind_sumOfLots : MethodName := ⟨zc_Mind, "sumOfLots", "(IIZ)I"⟩
abbrev b_Mind_sumOfLots : ByteArray := prog_3_method_21_code
theorem mv_Mind_sumOfLots : Mv y_Mind_sumOfLots b_Mind_sumOfLots 6 (some .int) 3 := ⟨(tm_4 _ (List.mem_of_getElem? (i := 2) rfl)), (List.mem_of_getElem? (i := 83) (by decide +kernel)), (tm_1 _ (List.mem_of_getElem? (i := 4) rfl)), (tm_4 _ (List.mem_of_getElem? (i := 3) rfl)), ⟨by decide +kernel, by decide +kernel⟩, by decide +kernel⟩
def y_Mind_playLot : MethodName := ⟨zc_Mind, "playLot", "()V"⟩
abbrev b_Mind_playLot : ByteArray := prog_3_method_22_code
theorem mv_Mind_playLot : Mv y_Mind_playLot b_Mind_playLot 5 none 0 := ⟨(tm_4 _ (List.mem_of_getElem? (i := 6) rfl)), (List.mem_of_getElem? (i := 84) (by decide +kernel)), (tm_1 _ (List.mem_of_getElem? (i := 4) rfl)), (tm_4 _ (List.mem_of_getElem? (i := 7) rfl)), ⟨by decide +kernel, by decide +kernel⟩, by decide +kernel⟩
def y_Mind_drawBelow : MethodName := ⟨zc_Mind, "drawBelow", "(I)I"⟩
abbrev b_Mind_drawBelow : ByteArray := prog_3_method_23_code
theorem mv_Mind_drawBelow : Mv y_Mind_drawBelow b_Mind_drawBelow 2 (some .int) 1 := ⟨(tm_4 _ (List.mem_of_getElem? (i := 10) rfl)), (List.mem_of_getElem? (i := 85) (by decide +kernel)), (tm_1 _ (List.mem_of_getElem? (i := 4) rfl)), (tm_4 _ (List.mem_of_getElem? (i := 11) rfl)), ⟨by decide +kernel, by decide +kernel⟩, by decide +kernel⟩
def y_Row_init : MethodName := ⟨zc_Row, "<init>", "(I)V"⟩
abbrev b_Row_init : ByteArray := prog_4_method_1_code
def y_Row_isFull : MethodName := ⟨zc_Row, "isFull", "()Z"⟩
abbrev b_Row_isFull : ByteArray := prog_4_method_2_code
theorem mv_Row_isFull : Mv y_Row_isFull b_Row_isFull 1 (some .boolean) 0 := ⟨(tm_1 _ (List.mem_of_getElem? (i := 149) rfl)), (List.mem_of_getElem? (i := 1) (by decide +kernel)), (tm_1 _ (List.mem_of_getElem? (i := 6) rfl)), (tm_1 _ (List.mem_of_getElem? (i := 150) rfl)), ⟨by decide +kernel, by decide +kernel⟩, by decide +kernel⟩
def y_Row_add : MethodName := ⟨zc_Row, "add", "(I)I"⟩
abbrev b_Row_add : ByteArray := prog_4_method_3_code
theorem mv_Row_add : Mv y_Row_add b_Row_add 2 (some .int) 1 := ⟨(tm_1 _ (List.mem_of_getElem? (i := 153) rfl)), (List.mem_of_getElem? (i := 2) (by decide +kernel)), (tm_1 _ (List.mem_of_getElem? (i := 6) rfl)), (tm_1 _ (List.mem_of_getElem? (i := 154) rfl)), ⟨by decide +kernel, by decide +kernel⟩, by decide +kernel⟩
def y_Row_numberAt : MethodName := ⟨zc_Row, "numberAt", "(I)I"⟩
abbrev b_Row_numberAt : ByteArray := prog_4_method_4_code
theorem mv_Row_numberAt : Mv y_Row_numberAt b_Row_numberAt 2 (some .int) 1 := ⟨(tm_1 _ (List.mem_of_getElem? (i := 169) rfl)), (List.mem_of_getElem? (i := 5) (by decide +kernel)), (tm_1 _ (List.mem_of_getElem? (i := 6) rfl)), (tm_1 _ (List.mem_of_getElem? (i := 170) rfl)), ⟨by decide +kernel, by decide +kernel⟩, by decide +kernel⟩
def y_Row_empty : MethodName := ⟨zc_Row, "empty", "()V"⟩
abbrev b_Row_empty : ByteArray := prog_4_method_5_code
theorem mv_Row_empty : Mv y_Row_empty b_Row_empty 1 none 0 := ⟨(tm_2 _ (List.mem_of_getElem? (i := 117) rfl)), (List.mem_of_getElem? (i := 45) (by decide +kernel)), (tm_1 _ (List.mem_of_getElem? (i := 6) rfl)), (tm_2 _ (List.mem_of_getElem? (i := 118) rfl)), ⟨by decide +kernel, by decide +kernel⟩, by decide +kernel⟩
def y_Runs_init : MethodName := ⟨zc_Runs, "<init>", "()V"⟩
abbrev b_Runs_init : ByteArray := prog_5_method_1_code
def y_Runs_lookAt : MethodName := ⟨zc_Runs, "lookAt", "([I)V"⟩
abbrev b_Runs_lookAt : ByteArray := prog_5_method_2_code
theorem mv_Runs_lookAt : Mv y_Runs_lookAt b_Runs_lookAt 4 none 1 := ⟨(tm_2 _ (List.mem_of_getElem? (i := 14) rfl)), (List.mem_of_getElem? (i := 21) (by decide +kernel)), (tm_1 _ (List.mem_of_getElem? (i := 3) rfl)), (tm_2 _ (List.mem_of_getElem? (i := 15) rfl)), ⟨by decide +kernel, by decide +kernel⟩, by decide +kernel⟩
def y_Runs_add : MethodName := ⟨zc_Runs, "add", "(II)V"⟩
abbrev b_Runs_add : ByteArray := prog_5_method_3_code
theorem mv_Runs_add : Mv y_Runs_add b_Runs_add 3 none 2 := ⟨(tm_2 _ (List.mem_of_getElem? (i := 18) rfl)), (List.mem_of_getElem? (i := 22) (by decide +kernel)), (tm_1 _ (List.mem_of_getElem? (i := 3) rfl)), (tm_2 _ (List.mem_of_getElem? (i := 19) rfl)), ⟨by decide +kernel, by decide +kernel⟩, by decide +kernel⟩
def y_Runs_startAt : MethodName := ⟨zc_Runs, "startAt", "(I)I"⟩
abbrev b_Runs_startAt : ByteArray := prog_5_method_4_code
theorem mv_Runs_startAt : Mv y_Runs_startAt b_Runs_startAt 2 (some .int) 1 := ⟨(tm_2 _ (List.mem_of_getElem? (i := 51) rfl)), (List.mem_of_getElem? (i := 30) (by decide +kernel)), (tm_1 _ (List.mem_of_getElem? (i := 3) rfl)), (tm_2 _ (List.mem_of_getElem? (i := 52) rfl)), ⟨by decide +kernel, by decide +kernel⟩, by decide +kernel⟩
def y_Runs_sizeAt : MethodName := ⟨zc_Runs, "sizeAt", "(I)I"⟩
abbrev b_Runs_sizeAt : ByteArray := prog_5_method_5_code
theorem mv_Runs_sizeAt : Mv y_Runs_sizeAt b_Runs_sizeAt 2 (some .int) 1 := ⟨(tm_2 _ (List.mem_of_getElem? (i := 30) rfl)), (List.mem_of_getElem? (i := 25) (by decide +kernel)), (tm_1 _ (List.mem_of_getElem? (i := 3) rfl)), (tm_2 _ (List.mem_of_getElem? (i := 31) rfl)), ⟨by decide +kernel, by decide +kernel⟩, by decide +kernel⟩
def y_Runs_leastFor : MethodName := ⟨zc_Runs, "leastFor", "(I)I"⟩
abbrev b_Runs_leastFor : ByteArray := prog_5_method_6_code
theorem mv_Runs_leastFor : Mv y_Runs_leastFor b_Runs_leastFor 5 (some .int) 1 := ⟨(tm_2 _ (List.mem_of_getElem? (i := 22) rfl)), (List.mem_of_getElem? (i := 23) (by decide +kernel)), (tm_1 _ (List.mem_of_getElem? (i := 3) rfl)), (tm_2 _ (List.mem_of_getElem? (i := 23) rfl)), ⟨by decide +kernel, by decide +kernel⟩, by decide +kernel⟩
def y_Runs_greatest : MethodName := ⟨zc_Runs, "greatest", "()I"⟩
abbrev b_Runs_greatest : ByteArray := prog_5_method_7_code
theorem mv_Runs_greatest : Mv y_Runs_greatest b_Runs_greatest 4 (some .int) 0 := ⟨(tm_2 _ (List.mem_of_getElem? (i := 26) rfl)), (List.mem_of_getElem? (i := 24) (by decide +kernel)), (tm_1 _ (List.mem_of_getElem? (i := 3) rfl)), (tm_2 _ (List.mem_of_getElem? (i := 27) rfl)), ⟨by decide +kernel, by decide +kernel⟩, by decide +kernel⟩
def y_Runs_closestTo : MethodName := ⟨zc_Runs, "closestTo", "(II)I"⟩
abbrev b_Runs_closestTo : ByteArray := prog_5_method_8_code
theorem mv_Runs_closestTo : Mv y_Runs_closestTo b_Runs_closestTo 7 (some .int) 2 := ⟨(tm_2 _ (List.mem_of_getElem? (i := 61) rfl)), (List.mem_of_getElem? (i := 32) (by decide +kernel)), (tm_1 _ (List.mem_of_getElem? (i := 3) rfl)), (tm_2 _ (List.mem_of_getElem? (i := 62) rfl)), ⟨by decide +kernel, by decide +kernel⟩, by decide +kernel⟩
def y_Runs_atRankOfSize : MethodName := ⟨zc_Runs, "atRankOfSize", "(I)I"⟩
abbrev b_Runs_atRankOfSize : ByteArray := prog_5_method_9_code
theorem mv_Runs_atRankOfSize : Mv y_Runs_atRankOfSize b_Runs_atRankOfSize 3 (some .int) 1 := ⟨(tm_2 _ (List.mem_of_getElem? (i := 224) rfl)), (List.mem_of_getElem? (i := 55) (by decide +kernel)), (tm_1 _ (List.mem_of_getElem? (i := 3) rfl)), (tm_2 _ (List.mem_of_getElem? (i := 225) rfl)), ⟨by decide +kernel, by decide +kernel⟩, by decide +kernel⟩
def y_Runs_rankOfSize : MethodName := ⟨zc_Runs, "rankOfSize", "(I)I"⟩
abbrev b_Runs_rankOfSize : ByteArray := prog_5_method_10_code
theorem mv_Runs_rankOfSize : Mv y_Runs_rankOfSize b_Runs_rankOfSize 4 (some .int) 1 := ⟨(tm_2 _ (List.mem_of_getElem? (i := 228) rfl)), (List.mem_of_getElem? (i := 56) (by decide +kernel)), (tm_1 _ (List.mem_of_getElem? (i := 3) rfl)), (tm_2 _ (List.mem_of_getElem? (i := 229) rfl)), ⟨by decide +kernel, by decide +kernel⟩, by decide +kernel⟩
def y_Runs_beginOf : MethodName := ⟨zc_Runs, "beginOf", "(III)I"⟩
abbrev b_Runs_beginOf : ByteArray := prog_5_method_11_code
theorem mv_Runs_beginOf : Mv y_Runs_beginOf b_Runs_beginOf 7 (some .int) 3 := ⟨(tm_2 _ (List.mem_of_getElem? (i := 42) rfl)), (List.mem_of_getElem? (i := 28) (by decide +kernel)), (tm_1 _ (List.mem_of_getElem? (i := 3) rfl)), (tm_2 _ (List.mem_of_getElem? (i := 43) rfl)), ⟨by decide +kernel, by decide +kernel⟩, by decide +kernel⟩
def y_Runs_holds : MethodName := ⟨zc_Runs, "holds", "(II)Z"⟩
abbrev b_Runs_holds : ByteArray := prog_5_method_12_code
theorem mv_Runs_holds : Mv y_Runs_holds b_Runs_holds 4 (some .boolean) 2 := ⟨(tm_2 _ (List.mem_of_getElem? (i := 47) rfl)), (List.mem_of_getElem? (i := 29) (by decide +kernel)), (tm_1 _ (List.mem_of_getElem? (i := 3) rfl)), (tm_2 _ (List.mem_of_getElem? (i := 48) rfl)), ⟨by decide +kernel, by decide +kernel⟩, by decide +kernel⟩
def y_Runs_firstStripe : MethodName := ⟨zc_Runs, "firstStripe", "(I)I"⟩
abbrev b_Runs_firstStripe : ByteArray := prog_5_method_13_code
theorem mv_Runs_firstStripe : Mv y_Runs_firstStripe b_Runs_firstStripe 4 (some .int) 1 := ⟨(tm_2 _ (List.mem_of_getElem? (i := 55) rfl)), (List.mem_of_getElem? (i := 31) (by decide +kernel)), (tm_1 _ (List.mem_of_getElem? (i := 3) rfl)), (tm_2 _ (List.mem_of_getElem? (i := 56) rfl)), ⟨by decide +kernel, by decide +kernel⟩, by decide +kernel⟩
def y_Text_init : MethodName := ⟨zc_Text, "<init>", "()V"⟩
abbrev b_Text_init : ByteArray := prog_6_method_1_code
def y_Text_faultOfForm : MethodName := ⟨zc_Text, "faultOfForm", "()I"⟩
abbrev b_Text_faultOfForm : ByteArray := prog_6_method_2_code
theorem mv_Text_faultOfForm : Mv y_Text_faultOfForm b_Text_faultOfForm 3 (some .int) 0 := ⟨(tm_1 _ (List.mem_of_getElem? (i := 161) rfl)), (List.mem_of_getElem? (i := 3) (by decide +kernel)), (tm_1 _ (List.mem_of_getElem? (i := 5) rfl)), (tm_1 _ (List.mem_of_getElem? (i := 162) rfl)), ⟨by decide +kernel, by decide +kernel⟩, by decide +kernel⟩
def y_Text_canGoOn : MethodName := ⟨zc_Text, "canGoOn", "(II)Z"⟩
abbrev b_Text_canGoOn : ByteArray := prog_6_method_3_code
theorem mv_Text_canGoOn : Mv y_Text_canGoOn b_Text_canGoOn 7 (some .boolean) 2 := ⟨(tm_1 _ (List.mem_of_getElem? (i := 165) rfl)), (List.mem_of_getElem? (i := 4) (by decide +kernel)), (tm_1 _ (List.mem_of_getElem? (i := 5) rfl)), (tm_1 _ (List.mem_of_getElem? (i := 166) rfl)), ⟨by decide +kernel, by decide +kernel⟩, by decide +kernel⟩
def y_Text_digitsBehind : MethodName := ⟨zc_Text, "digitsBehind", "(I)I"⟩
abbrev b_Text_digitsBehind : ByteArray := prog_6_method_4_code
theorem mv_Text_digitsBehind : Ms y_Text_digitsBehind b_Text_digitsBehind 1 (some .int) 1 := ⟨(tm_1 _ (List.mem_of_getElem? (i := 172) rfl)), (tm_1 _ (List.mem_of_getElem? (i := 5) rfl)), (tm_1 _ (List.mem_of_getElem? (i := 173) rfl)), ⟨by decide +kernel, by decide +kernel⟩, by decide +kernel⟩
def y_Text_kindOf : MethodName := ⟨zc_Text, "kindOf", "(I)I"⟩
abbrev b_Text_kindOf : ByteArray := prog_6_method_5_code
theorem mv_Text_kindOf : Ms y_Text_kindOf b_Text_kindOf 1 (some .int) 1 := ⟨(tm_1 _ (List.mem_of_getElem? (i := 175) rfl)), (tm_1 _ (List.mem_of_getElem? (i := 5) rfl)), (tm_1 _ (List.mem_of_getElem? (i := 176) rfl)), ⟨by decide +kernel, by decide +kernel⟩, by decide +kernel⟩
def y_Text_playOn : MethodName := ⟨zc_Text, "playOn", "(LTwinTreeVolume$Disk;)I"⟩
abbrev b_Text_playOn : ByteArray := prog_6_method_6_code
theorem mv_Text_playOn : Mv y_Text_playOn b_Text_playOn 5 (some .int) 1 := ⟨(tm_1 _ (List.mem_of_getElem? (i := 186) rfl)), (List.mem_of_getElem? (i := 7) (by decide +kernel)), (tm_1 _ (List.mem_of_getElem? (i := 5) rfl)), (tm_1 _ (List.mem_of_getElem? (i := 187) rfl)), ⟨by decide +kernel, by decide +kernel⟩, by decide +kernel⟩
def y_Text_plays : MethodName := ⟨zc_Text, "plays", "(LTwinTreeVolume$Disk;I)Z"⟩
abbrev b_Text_plays : ByteArray := prog_6_method_7_code
theorem mv_Text_plays : Mv y_Text_plays b_Text_plays 6 (some .boolean) 2 := ⟨(tm_1 _ (List.mem_of_getElem? (i := 190) rfl)), (List.mem_of_getElem? (i := 8) (by decide +kernel)), (tm_1 _ (List.mem_of_getElem? (i := 5) rfl)), (tm_1 _ (List.mem_of_getElem? (i := 191) rfl)), ⟨by decide +kernel, by decide +kernel⟩, by decide +kernel⟩
def y_Text_isSeries : MethodName := ⟨zc_Text, "isSeries", "(II)Z"⟩
abbrev b_Text_isSeries : ByteArray := prog_6_method_8_code
theorem mv_Text_isSeries : Ms y_Text_isSeries b_Text_isSeries 2 (some .boolean) 2 := ⟨(tm_1 _ (List.mem_of_getElem? (i := 233) rfl)), (tm_1 _ (List.mem_of_getElem? (i := 5) rfl)), (tm_1 _ (List.mem_of_getElem? (i := 234) rfl)), ⟨by decide +kernel, by decide +kernel⟩, by decide +kernel⟩
def y_Text_digitAt : MethodName := ⟨zc_Text, "digitAt", "(I)I"⟩
abbrev b_Text_digitAt : ByteArray := prog_6_method_9_code
theorem mv_Text_digitAt : Mv y_Text_digitAt b_Text_digitAt 2 (some .int) 1 := ⟨(tm_1 _ (List.mem_of_getElem? (i := 194) rfl)), (List.mem_of_getElem? (i := 9) (by decide +kernel)), (tm_1 _ (List.mem_of_getElem? (i := 5) rfl)), (tm_1 _ (List.mem_of_getElem? (i := 195) rfl)), ⟨by decide +kernel, by decide +kernel⟩, by decide +kernel⟩
theorem lk_Law_9 : Lk zc_Law 9 y_Vol_init := Or.inl (tm_1 _ (List.mem_of_getElem? (i := 12) rfl))
theorem lk_Law_13 : Lk zc_Law 13 y_Vol_letter := Or.inl (tm_1 _ (List.mem_of_getElem? (i := 139) rfl))
theorem lk_Vol_55 : Lk zc_Vol 55 y_Vol_refuse := Or.inl (tm_1 _ (List.mem_of_getElem? (i := 143) rfl))
theorem lk_Law_18 : Lk zc_Law 18 y_Vol_volume := Or.inl (tm_1 _ (List.mem_of_getElem? (i := 155) rfl))
theorem lk_Text_24 : Lk zc_Text 24 y_Text_canGoOn := Or.inl (tm_1 _ (List.mem_of_getElem? (i := 163) rfl))
theorem lk_Text_32 : Lk zc_Text 32 y_Text_digitsBehind := Or.inl (tm_1 _ (List.mem_of_getElem? (i := 171) rfl))
theorem lk_Text_35 : Lk zc_Text 35 y_Text_kindOf := Or.inl (tm_1 _ (List.mem_of_getElem? (i := 174) rfl))
theorem lk_Text_38 : Lk zc_Text 38 y_Text_plays := Or.inl (tm_1 _ (List.mem_of_getElem? (i := 188) rfl))
theorem lk_Text_42 : Lk zc_Text 42 y_Text_digitAt := Or.inl (tm_1 _ (List.mem_of_getElem? (i := 192) rfl))
theorem lk_Disk_96 : Lk zc_Disk 96 y_Disk_isHole := Or.inl (tm_1 _ (List.mem_of_getElem? (i := 207) rfl))
theorem lk_Disk_56 : Lk zc_Disk 56 y_Disk_blockAt := Or.inl (tm_1 _ (List.mem_of_getElem? (i := 211) rfl))
theorem lk_Disk_60 : Lk zc_Disk 60 y_Disk_valueAt := Or.inl (tm_1 _ (List.mem_of_getElem? (i := 215) rfl))
theorem lk_Disk_106 : Lk zc_Disk 106 y_Disk_roomLeft := Or.inl (tm_1 _ (List.mem_of_getElem? (i := 219) rfl))
theorem lk_Disk_73 : Lk zc_Disk 73 y_Disk_freeBlocks := Or.inl (tm_1 _ (List.mem_of_getElem? (i := 223) rfl))
theorem lk_Disk_82 : Lk zc_Disk 82 y_Disk_promisedInAll := Or.inl (tm_1 _ (List.mem_of_getElem? (i := 227) rfl))
theorem lk_Text_55 : Lk zc_Text 55 y_Text_isSeries := Or.inl (tm_1 _ (List.mem_of_getElem? (i := 232) rfl))
theorem lk_Disk_109 : Lk zc_Disk 109 y_Disk_holesAmong := Or.inl (tm_2 _ (List.mem_of_getElem? (i := 0) rfl))
theorem lk_Disk_113 : Lk zc_Disk 113 y_Disk_holesFrom := Or.inl (tm_2 _ (List.mem_of_getElem? (i := 4) rfl))
theorem lk_Disk_116 : Lk zc_Disk 116 y_Disk_putPiece := Or.inl (tm_2 _ (List.mem_of_getElem? (i := 8) rfl))
theorem lk_Runs_22 : Lk zc_Runs 22 y_Runs_add := Or.inl (tm_2 _ (List.mem_of_getElem? (i := 16) rfl))
theorem lk_Disk_122 : Lk zc_Disk 122 y_Disk_kindAt := Or.inl (tm_2 _ (List.mem_of_getElem? (i := 32) rfl))
theorem lk_Disk_125 : Lk zc_Disk 125 y_Disk_goalOf := Or.inl (tm_2 _ (List.mem_of_getElem? (i := 36) rfl))
theorem lk_Runs_33 : Lk zc_Runs 33 y_Runs_leastFor := Or.inl (tm_2 _ (List.mem_of_getElem? (i := 44) rfl))
theorem lk_Runs_36 : Lk zc_Runs 36 y_Runs_holds := Or.inl (tm_2 _ (List.mem_of_getElem? (i := 45) rfl))
theorem lk_Runs_40 : Lk zc_Runs 40 y_Runs_startAt := Or.inl (tm_2 _ (List.mem_of_getElem? (i := 49) rfl))
theorem lk_Runs_43 : Lk zc_Runs 43 y_Runs_firstStripe := Or.inl (tm_2 _ (List.mem_of_getElem? (i := 53) rfl))
theorem lk_Runs_46 : Lk zc_Runs 46 y_Runs_greatest := Or.inl (tm_2 _ (List.mem_of_getElem? (i := 57) rfl))
theorem lk_Runs_30 : Lk zc_Runs 30 y_Runs_sizeAt := Or.inl (tm_2 _ (List.mem_of_getElem? (i := 58) rfl))
theorem lk_Runs_50 : Lk zc_Runs 50 y_Runs_closestTo := Or.inl (tm_2 _ (List.mem_of_getElem? (i := 59) rfl))
theorem lk_Disk_134 : Lk zc_Disk 134 y_Disk_place := Or.inl (tm_2 _ (List.mem_of_getElem? (i := 64) rfl))
theorem lk_Disk_141 : Lk zc_Disk 141 y_Disk_punchOne := Or.inl (tm_2 _ (List.mem_of_getElem? (i := 75) rfl))
theorem lk_Disk_144 : Lk zc_Disk 144 y_Disk_promisedFrom := Or.inl (tm_2 _ (List.mem_of_getElem? (i := 83) rfl))
theorem lk_Disk_79 : Lk zc_Disk 79 y_Disk_isPromised := Or.inl (tm_2 _ (List.mem_of_getElem? (i := 87) rfl))
theorem lk_Disk_147 : Lk zc_Disk 147 y_Disk_writeDown := Or.inl (tm_2 _ (List.mem_of_getElem? (i := 91) rfl))
theorem lk_Disk_150 : Lk zc_Disk 150 y_Disk_placedIn := Or.inl (tm_2 _ (List.mem_of_getElem? (i := 99) rfl))
theorem lk_Disk_153 : Lk zc_Disk 153 y_Disk_move := Or.inl (tm_2 _ (List.mem_of_getElem? (i := 103) rfl))
theorem lk_Law_23 : Lk zc_Law 23 y_Vol_page := Or.inl (tm_2 _ (List.mem_of_getElem? (i := 119) rfl))
theorem lk_Vol_84 : Lk zc_Vol 84 y_Vol_isFile := Or.inl (tm_2 _ (List.mem_of_getElem? (i := 123) rfl))
theorem lk_Vol_88 : Lk zc_Vol 88 y_Vol_isPage := Or.inl (tm_2 _ (List.mem_of_getElem? (i := 124) rfl))
theorem lk_Vol_95 : Lk zc_Vol 95 y_Vol_orNothing := Or.inl (tm_2 _ (List.mem_of_getElem? (i := 126) rfl))
theorem lk_Law_28 : Lk zc_Law 28 y_Vol_file := Or.inl (tm_2 _ (List.mem_of_getElem? (i := 134) rfl))
theorem lk_Disk_90 : Lk zc_Disk 90 y_Disk_goesOn := Or.inl (tm_2 _ (List.mem_of_getElem? (i := 152) rfl))
theorem lk_Disk_63 : Lk zc_Disk 63 y_Disk_isWritten := Or.inl (tm_2 _ (List.mem_of_getElem? (i := 156) rfl))
theorem lk_Vol_120 : Lk zc_Vol 120 y_Vol_depthOf := Or.inl (tm_2 _ (List.mem_of_getElem? (i := 157) rfl))
theorem lk_Law_33 : Lk zc_Law 33 y_Vol_read := Or.inl (tm_2 _ (List.mem_of_getElem? (i := 164) rfl))
theorem lk_Disk_67 : Lk zc_Disk 67 y_Disk_byteAt := Or.inl (tm_2 _ (List.mem_of_getElem? (i := 172) rfl))
theorem lk_Law_37 : Lk zc_Law 37 y_Vol_says := Or.inl (tm_2 _ (List.mem_of_getElem? (i := 176) rfl))
theorem lk_Law_41 : Lk zc_Law 41 y_Vol_ahead := Or.inl (tm_2 _ (List.mem_of_getElem? (i := 181) rfl))
theorem lk_Law_45 : Lk zc_Law 45 y_Vol_punch := Or.inl (tm_2 _ (List.mem_of_getElem? (i := 186) rfl))
theorem lk_Law_49 : Lk zc_Law 49 y_Vol_flush := Or.inl (tm_2 _ (List.mem_of_getElem? (i := 191) rfl))
theorem lk_Law_53 : Lk zc_Law 53 y_Vol_settle := Or.inl (tm_2 _ (List.mem_of_getElem? (i := 196) rfl))
theorem lk_Law_57 : Lk zc_Law 57 y_Vol_crash := Or.inl (tm_2 _ (List.mem_of_getElem? (i := 201) rfl))
theorem lk_Law_61 : Lk zc_Law 61 y_Vol_kind := Or.inl (tm_2 _ (List.mem_of_getElem? (i := 206) rfl))
theorem lk_Law_65 : Lk zc_Law 65 y_Vol_byPlace := Or.inl (tm_2 _ (List.mem_of_getElem? (i := 211) rfl))
theorem lk_Vol_153 : Lk zc_Vol 153 y_Vol_isEither := Or.inl (tm_2 _ (List.mem_of_getElem? (i := 215) rfl))
theorem lk_Runs_26 : Lk zc_Runs 26 y_Runs_rankOfSize := Or.inl (tm_2 _ (List.mem_of_getElem? (i := 226) rfl))
theorem lk_Law_69 : Lk zc_Law 69 y_Vol_fit := Or.inl (tm_2 _ (List.mem_of_getElem? (i := 232) rfl))
theorem lk_Vol_175 : Lk zc_Vol 175 y_Vol_refusalOfSize := Or.inl (tm_2 _ (List.mem_of_getElem? (i := 236) rfl))
theorem lk_Law_73 : Lk zc_Law 73 y_Vol_nearest := Or.inl (tm_3 _ (List.mem_of_getElem? (i := 0) rfl))
theorem lk_Vol_181 : Lk zc_Vol 181 y_Vol_isBlock := Or.inl (tm_3 _ (List.mem_of_getElem? (i := 4) rfl))
theorem lk_Law_77 : Lk zc_Law 77 y_Vol_whose := Or.inl (tm_3 _ (List.mem_of_getElem? (i := 6) rfl))
theorem lk_Law_81 : Lk zc_Law 81 y_Vol_stale := Or.inl (tm_3 _ (List.mem_of_getElem? (i := 15) rfl))
theorem lk_Disk_70 : Lk zc_Disk 70 y_Disk_ownerAt := Or.inl (tm_3 _ (List.mem_of_getElem? (i := 23) rfl))
theorem lk_Law_85 : Lk zc_Law 85 y_Vol_scatter := Or.inl (tm_3 _ (List.mem_of_getElem? (i := 24) rfl))
theorem lk_Mind_36 : Lk zc_Mind 36 y_Mind_flushByKind := Or.inl (tm_3 _ (List.mem_of_getElem? (i := 32) rfl))
theorem lk_Law_89 : Lk zc_Law 89 y_Vol_kindBest := Or.inl (tm_3 _ (List.mem_of_getElem? (i := 40) rfl))
theorem lk_Law_93 : Lk zc_Law 93 y_Vol_order := Or.inl (tm_3 _ (List.mem_of_getElem? (i := 48) rfl))
theorem lk_Mind_43 : Lk zc_Mind 43 y_Mind_isOrder := Or.inl (tm_3 _ (List.mem_of_getElem? (i := 56) rfl))
theorem lk_Mind_47 : Lk zc_Mind 47 y_Mind_extentsByOrder := Or.inl (tm_3 _ (List.mem_of_getElem? (i := 62) rfl))
theorem lk_Disk_93 : Lk zc_Disk 93 y_Disk_extentsIn := Or.inl (tm_3 _ (List.mem_of_getElem? (i := 70) rfl))
theorem lk_Vol_206 : Lk zc_Vol 206 y_Vol_orderInDigits := Or.inl (tm_3 _ (List.mem_of_getElem? (i := 71) rfl))
theorem lk_Vol_294 : Lk zc_Vol 294 y_Vol_fileOfOrder := Or.inl (tm_3 _ (List.mem_of_getElem? (i := 74) rfl))
theorem lk_Law_97 : Lk zc_Law 97 y_Vol_steps := Or.inl (tm_3 _ (List.mem_of_getElem? (i := 76) rfl))
theorem lk_Law_101 : Lk zc_Law 101 y_Vol_loses := Or.inl (tm_3 _ (List.mem_of_getElem? (i := 84) rfl))
theorem lk_Mind_60 : Lk zc_Mind 60 y_Mind_crashBehind := Or.inl (tm_3 _ (List.mem_of_getElem? (i := 92) rfl))
theorem lk_Mind_63 : Lk zc_Mind 63 y_Mind_otherwiseIn := Or.inl (tm_3 _ (List.mem_of_getElem? (i := 97) rfl))
theorem lk_Law_105 : Lk zc_Law 105 y_Vol_safe := Or.inl (tm_3 _ (List.mem_of_getElem? (i := 106) rfl))
theorem lk_Mind_69 : Lk zc_Mind 69 y_Mind_stepsOf := Or.inl (tm_3 _ (List.mem_of_getElem? (i := 114) rfl))
theorem lk_Law_109 : Lk zc_Law 109 y_Vol_gather := Or.inl (tm_3 _ (List.mem_of_getElem? (i := 115) rfl))
theorem lk_Disk_76 : Lk zc_Disk 76 y_Disk_takenAmong := Or.inl (tm_3 _ (List.mem_of_getElem? (i := 123) rfl))
theorem lk_Law_113 : Lk zc_Law 113 y_Vol_first := Or.inl (tm_3 _ (List.mem_of_getElem? (i := 128) rfl))
theorem lk_Law_117 : Lk zc_Law 117 y_Vol_two := Or.inl (tm_3 _ (List.mem_of_getElem? (i := 136) rfl))
theorem lk_Mind_72 : Lk zc_Mind 72 y_Mind_playPair := Or.inl (tm_3 _ (List.mem_of_getElem? (i := 144) rfl))
theorem lk_Law_121 : Lk zc_Law 121 y_Vol_most := Or.inl (tm_3 _ (List.mem_of_getElem? (i := 148) rfl))
theorem lk_Law_125 : Lk zc_Law 125 y_Vol_larger := Or.inl (tm_3 _ (List.mem_of_getElem? (i := 157) rfl))
theorem lk_Law_129 : Lk zc_Law 129 y_Vol_lost := Or.inl (tm_3 _ (List.mem_of_getElem? (i := 171) rfl))
theorem lk_Vol_257 : Lk zc_Vol 257 y_Vol_partOf := Or.inl (tm_3 _ (List.mem_of_getElem? (i := 180) rfl))
theorem lk_Vol_297 : Lk zc_Vol 297 y_Vol_greatestDivisor := Or.inl (tm_3 _ (List.mem_of_getElem? (i := 183) rfl))
theorem lk_Law_134 : Lk zc_Law 134 y_Vol_sure := Or.inl (tm_3 _ (List.mem_of_getElem? (i := 186) rfl))
theorem lk_Law_139 : Lk zc_Law 139 y_Vol_mean := Or.inl (tm_3 _ (List.mem_of_getElem? (i := 194) rfl))
theorem lk_Law_144 : Lk zc_Law 144 y_Vol_which := Or.inl (tm_3 _ (List.mem_of_getElem? (i := 200) rfl))
theorem lk_Law_148 : Lk zc_Law 148 y_Vol_row := Or.inl (tm_3 _ (List.mem_of_getElem? (i := 211) rfl))
theorem lk_Law_152 : Lk zc_Law 152 y_Vol_judge := Or.inl (tm_3 _ (List.mem_of_getElem? (i := 215) rfl))
theorem lk_Vol_275 : Lk zc_Vol 275 y_Vol_firstWrongPlace := Or.inl (tm_3 _ (List.mem_of_getElem? (i := 219) rfl))
theorem lk_Law_156 : Lk zc_Law 156 y_Vol_forged := Or.inl (tm_3 _ (List.mem_of_getElem? (i := 224) rfl))
theorem lk_Vol_278 : Lk zc_Vol 278 y_Vol_firstWrongRun := Or.inl (tm_3 _ (List.mem_of_getElem? (i := 228) rfl))
theorem lk_Law_160 : Lk zc_Law 160 y_Vol_clear := Or.inl (tm_3 _ (List.mem_of_getElem? (i := 232) rfl))
theorem lk_Law_164 : Lk zc_Law 164 y_Vol_lots := Or.inl (tm_3 _ (List.mem_of_getElem? (i := 236) rfl))
theorem lk_Mind_97 : Lk zc_Mind 97 y_Mind_playLot := Or.inl (tm_4 _ (List.mem_of_getElem? (i := 4) rfl))
theorem lk_Mind_107 : Lk zc_Mind 107 y_Mind_drawBelow := Or.inl (tm_4 _ (List.mem_of_getElem? (i := 8) rfl))
theorem lk_Law_168 : Lk zc_Law 168 y_Vol_image := Or.inl (tm_4 _ (List.mem_of_getElem? (i := 17) rfl))
theorem lk_Law_172 : Lk zc_Law 172 y_Vol_on := Or.inl (tm_4 _ (List.mem_of_getElem? (i := 21) rfl))
theorem lk_Law_176 : Lk zc_Law 176 y_Vol_count := Or.inl (tm_4 _ (List.mem_of_getElem? (i := 25) rfl))
theorem lk_Law_12 : Lk zc_Law 12 y_Mod_init := Or.inl (tm_4 _ (List.mem_of_getElem? (i := 33) rfl))
theorem lk_Law_17 : Lk zc_Law 17 y_Mod_letter := Or.inl (tm_4 _ (List.mem_of_getElem? (i := 116) rfl))
theorem lk_Mod_166 : Lk zc_Mod 166 y_Mod_bound := Or.inl (tm_4 _ (List.mem_of_getElem? (i := 120) rfl))
theorem lk_Mod_172 : Lk zc_Mod 172 y_Mod_no := Or.inl (tm_4 _ (List.mem_of_getElem? (i := 123) rfl))
theorem lk_Law_22 : Lk zc_Law 22 y_Mod_volume := Or.inl (tm_4 _ (List.mem_of_getElem? (i := 127) rfl))
theorem lk_Mod_248 : Lk zc_Mod 248 y_Mod_statement := Or.inl (tm_4 _ (List.mem_of_getElem? (i := 131) rfl))
theorem lk_Mod_178 : Lk zc_Mod 178 y_Mod_letterNow := Or.inl (tm_4 _ (List.mem_of_getElem? (i := 135) rfl))
theorem lk_Mod_196 : Lk zc_Mod 196 y_Mod_readsAll := Or.inl (tm_4 _ (List.mem_of_getElem? (i := 139) rfl))
theorem lk_Mod_187 : Lk zc_Mod 187 y_Mod_readsDigits := Or.inl (tm_4 _ (List.mem_of_getElem? (i := 143) rfl))
theorem lk_Mod_58 : Lk zc_Mod 58 y_Mod_isIn := Or.inl (tm_4 _ (List.mem_of_getElem? (i := 147) rfl))
theorem lk_Mod_190 : Lk zc_Mod 190 y_Mod_readsKind := Or.inl (tm_4 _ (List.mem_of_getElem? (i := 150) rfl))
theorem lk_Mod_184 : Lk zc_Mod 184 y_Mod_kindTold := Or.inl (tm_4 _ (List.mem_of_getElem? (i := 154) rfl))
theorem lk_Mod_251 : Lk zc_Mod 251 y_Mod_passesAll := Or.inl (tm_4 _ (List.mem_of_getElem? (i := 157) rfl))
theorem lk_Mod_265 : Lk zc_Mod 265 y_Mod_passes := Or.inl (tm_4 _ (List.mem_of_getElem? (i := 161) rfl))
theorem lk_Mod_255 : Lk zc_Mod 255 y_Mod_comesTold := Or.inl (tm_4 _ (List.mem_of_getElem? (i := 165) rfl))
theorem lk_Mod_230 : Lk zc_Mod 230 y_Mod_isFile := Or.inl (tm_4 _ (List.mem_of_getElem? (i := 169) rfl))
theorem lk_Mod_233 : Lk zc_Mod 233 y_Mod_comesSaid := Or.inl (tm_4 _ (List.mem_of_getElem? (i := 172) rfl))
theorem lk_Mod_199 : Lk zc_Mod 199 y_Mod_isPage := Or.inl (tm_4 _ (List.mem_of_getElem? (i := 176) rfl))
theorem lk_Mod_202 : Lk zc_Mod 202 y_Mod_canSay := Or.inl (tm_4 _ (List.mem_of_getElem? (i := 179) rfl))
theorem lk_Mod_159 : Lk zc_Mod 159 y_Mod_isHole := Or.inl (tm_4 _ (List.mem_of_getElem? (i := 183) rfl))
theorem lk_Mod_62 : Lk zc_Mod 62 y_Mod_isPlaced := Or.inl (tm_4 _ (List.mem_of_getElem? (i := 187) rfl))
theorem lk_Mod_66 : Lk zc_Mod 66 y_Mod_isWaiting := Or.inl (tm_4 _ (List.mem_of_getElem? (i := 191) rfl))
theorem lk_Mod_162 : Lk zc_Mod 162 y_Mod_roomNow := Or.inl (tm_4 _ (List.mem_of_getElem? (i := 195) rfl))
theorem lk_Mod_72 : Lk zc_Mod 72 y_Mod_freeBlocks := Or.inl (tm_4 _ (List.mem_of_getElem? (i := 199) rfl))
theorem lk_Mod_76 : Lk zc_Mod 76 y_Mod_reserved := Or.inl (tm_4 _ (List.mem_of_getElem? (i := 203) rfl))
theorem lk_Mod_69 : Lk zc_Mod 69 y_Mod_isToPlace := Or.inl (tm_4 _ (List.mem_of_getElem? (i := 207) rfl))
theorem lk_Mod_205 : Lk zc_Mod 205 y_Mod_saysAt := Or.inl (tm_4 _ (List.mem_of_getElem? (i := 211) rfl))
theorem lk_Mod_236 : Lk zc_Mod 236 y_Mod_comesAhead := Or.inl (tm_4 _ (List.mem_of_getElem? (i := 215) rfl))
theorem lk_Mod_209 : Lk zc_Mod 209 y_Mod_isSeries := Or.inl (tm_4 _ (List.mem_of_getElem? (i := 219) rfl))
theorem lk_Mod_212 : Lk zc_Mod 212 y_Mod_holesAmong := Or.inl (tm_4 _ (List.mem_of_getElem? (i := 222) rfl))
theorem lk_Mod_215 : Lk zc_Mod 215 y_Mod_goesAhead := Or.inl (tm_4 _ (List.mem_of_getElem? (i := 226) rfl))
theorem lk_Mod_139 : Lk zc_Mod 139 y_Mod_puts := Or.inl (tm_4 _ (List.mem_of_getElem? (i := 231) rfl))
theorem lk_Mod_118 : Lk zc_Mod 118 y_Mod_steps_ := Or.inl (tm_4 _ (List.mem_of_getElem? (i := 235) rfl))
theorem lk_Mod_122 : Lk zc_Mod 122 y_Mod_greatestSize := Or.inl (tm_4 _ (List.mem_of_getElem? (i := 239) rfl))
theorem lk_Mod_92 : Lk zc_Mod 92 y_Mod_greatest := Or.inl (tm_5 _ (List.mem_of_getElem? (i := 3) rfl))
theorem lk_Mod_86 : Lk zc_Mod 86 y_Mod_beginsRun := Or.inl (tm_5 _ (List.mem_of_getElem? (i := 7) rfl))
theorem lk_Mod_89 : Lk zc_Mod 89 y_Mod_runSize := Or.inl (tm_5 _ (List.mem_of_getElem? (i := 11) rfl))
theorem lk_Mod_125 : Lk zc_Mod 125 y_Mod_goalOf := Or.inl (tm_5 _ (List.mem_of_getElem? (i := 15) rfl))
theorem lk_Mod_128 : Lk zc_Mod 128 y_Mod_placeBy := Or.inl (tm_5 _ (List.mem_of_getElem? (i := 19) rfl))
theorem lk_Mod_106 : Lk zc_Mod 106 y_Mod_fitOf := Or.inl (tm_5 _ (List.mem_of_getElem? (i := 23) rfl))
theorem lk_Mod_109 : Lk zc_Mod 109 y_Mod_nearPlace := Or.inl (tm_5 _ (List.mem_of_getElem? (i := 27) rfl))
theorem lk_Mod_112 : Lk zc_Mod 112 y_Mod_stripeOf := Or.inl (tm_5 _ (List.mem_of_getElem? (i := 31) rfl))
theorem lk_Mod_115 : Lk zc_Mod 115 y_Mod_nearestOf := Or.inl (tm_5 _ (List.mem_of_getElem? (i := 35) rfl))
theorem lk_Mod_95 : Lk zc_Mod 95 y_Mod_apart := Or.inl (tm_5 _ (List.mem_of_getElem? (i := 39) rfl))
theorem lk_Mod_132 : Lk zc_Mod 132 y_Mod_placesPiece := Or.inl (tm_5 _ (List.mem_of_getElem? (i := 42) rfl))
theorem lk_Mod_239 : Lk zc_Mod 239 y_Mod_comesPunch := Or.inl (tm_5 _ (List.mem_of_getElem? (i := 46) rfl))
theorem lk_Mod_218 : Lk zc_Mod 218 y_Mod_punches := Or.inl (tm_5 _ (List.mem_of_getElem? (i := 50) rfl))
theorem lk_Mod_242 : Lk zc_Mod 242 y_Mod_comesSettle := Or.inl (tm_5 _ (List.mem_of_getElem? (i := 54) rfl))
theorem lk_Mod_221 : Lk zc_Mod 221 y_Mod_canSettle := Or.inl (tm_5 _ (List.mem_of_getElem? (i := 58) rfl))
theorem lk_Mod_156 : Lk zc_Mod 156 y_Mod_placedOf := Or.inl (tm_5 _ (List.mem_of_getElem? (i := 62) rfl))
theorem lk_Mod_224 : Lk zc_Mod 224 y_Mod_settles := Or.inl (tm_5 _ (List.mem_of_getElem? (i := 66) rfl))
theorem lk_Mod_245 : Lk zc_Mod 245 y_Mod_comesPlain := Or.inl (tm_5 _ (List.mem_of_getElem? (i := 70) rfl))
theorem lk_Mod_150 : Lk zc_Mod 150 y_Mod_flushes := Or.inl (tm_5 _ (List.mem_of_getElem? (i := 74) rfl))
theorem lk_Mod_143 : Lk zc_Mod 143 y_Mod_placesAll := Or.inl (tm_5 _ (List.mem_of_getElem? (i := 78) rfl))
theorem lk_Mod_136 : Lk zc_Mod 136 y_Mod_seriesToPlace := Or.inl (tm_5 _ (List.mem_of_getElem? (i := 82) rfl))
theorem lk_Mod_146 : Lk zc_Mod 146 y_Mod_writesAll := Or.inl (tm_5 _ (List.mem_of_getElem? (i := 86) rfl))
theorem lk_Mod_227 : Lk zc_Mod 227 y_Mod_crashes := Or.inl (tm_5 _ (List.mem_of_getElem? (i := 90) rfl))
theorem lk_Mod_153 : Lk zc_Mod 153 y_Mod_allWaiting := Or.inl (tm_5 _ (List.mem_of_getElem? (i := 94) rfl))
theorem lk_Law_171 : Lk zc_Law 171 y_Mod_image := Or.inl (tm_5 _ (List.mem_of_getElem? (i := 98) rfl))
theorem lk_Law_175 : Lk zc_Law 175 y_Mod_on := Or.inl (tm_5 _ (List.mem_of_getElem? (i := 102) rfl))
theorem lk_Law_27 : Lk zc_Law 27 y_Mod_page := Or.inl (tm_5 _ (List.mem_of_getElem? (i := 106) rfl))
theorem lk_Law_32 : Lk zc_Law 32 y_Mod_file := Or.inl (tm_5 _ (List.mem_of_getElem? (i := 110) rfl))
theorem lk_Mod_272 : Lk zc_Mod 272 y_Mod_waitingOf := Or.inl (tm_5 _ (List.mem_of_getElem? (i := 114) rfl))
theorem lk_Mod_82 : Lk zc_Mod 82 y_Mod_extents := Or.inl (tm_5 _ (List.mem_of_getElem? (i := 118) rfl))
theorem lk_Mod_79 : Lk zc_Mod 79 y_Mod_beginsExtent := Or.inl (tm_5 _ (List.mem_of_getElem? (i := 122) rfl))
theorem lk_Mod_276 : Lk zc_Mod 276 y_Mod_depthOf := Or.inl (tm_5 _ (List.mem_of_getElem? (i := 126) rfl))
theorem lk_Mod_279 : Lk zc_Mod 279 y_Mod_writtenOf := Or.inl (tm_5 _ (List.mem_of_getElem? (i := 129) rfl))
theorem lk_Law_36 : Lk zc_Law 36 y_Mod_read := Or.inl (tm_5 _ (List.mem_of_getElem? (i := 133) rfl))
theorem lk_Mod_282 : Lk zc_Mod 282 y_Mod_readAt := Or.inl (tm_5 _ (List.mem_of_getElem? (i := 137) rfl))
theorem lk_Law_40 : Lk zc_Law 40 y_Mod_says := Or.inl (tm_5 _ (List.mem_of_getElem? (i := 141) rfl))
theorem lk_Law_44 : Lk zc_Law 44 y_Mod_ahead := Or.inl (tm_5 _ (List.mem_of_getElem? (i := 145) rfl))
theorem lk_Law_48 : Lk zc_Law 48 y_Mod_punch := Or.inl (tm_5 _ (List.mem_of_getElem? (i := 149) rfl))
theorem lk_Law_52 : Lk zc_Law 52 y_Mod_flush := Or.inl (tm_5 _ (List.mem_of_getElem? (i := 153) rfl))
theorem lk_Law_56 : Lk zc_Law 56 y_Mod_settle := Or.inl (tm_5 _ (List.mem_of_getElem? (i := 157) rfl))
theorem lk_Law_60 : Lk zc_Law 60 y_Mod_crash := Or.inl (tm_5 _ (List.mem_of_getElem? (i := 161) rfl))
theorem lk_Law_64 : Lk zc_Law 64 y_Mod_kind := Or.inl (tm_5 _ (List.mem_of_getElem? (i := 165) rfl))
theorem lk_Law_68 : Lk zc_Law 68 y_Mod_byPlace := Or.inl (tm_5 _ (List.mem_of_getElem? (i := 169) rfl))
theorem lk_Mod_285 : Lk zc_Mod 285 y_Mod_aheadOf := Or.inl (tm_5 _ (List.mem_of_getElem? (i := 173) rfl))
theorem lk_Law_72 : Lk zc_Law 72 y_Mod_fit := Or.inl (tm_5 _ (List.mem_of_getElem? (i := 177) rfl))
theorem lk_Law_76 : Lk zc_Law 76 y_Mod_nearest := Or.inl (tm_5 _ (List.mem_of_getElem? (i := 181) rfl))
theorem lk_Mod_288 : Lk zc_Mod 288 y_Mod_isBlock := Or.inl (tm_5 _ (List.mem_of_getElem? (i := 185) rfl))
theorem lk_Law_80 : Lk zc_Law 80 y_Mod_whose := Or.inl (tm_5 _ (List.mem_of_getElem? (i := 188) rfl))
theorem lk_Law_84 : Lk zc_Law 84 y_Mod_stale := Or.inl (tm_5 _ (List.mem_of_getElem? (i := 192) rfl))
theorem lk_Law_88 : Lk zc_Law 88 y_Mod_scatter := Or.inl (tm_5 _ (List.mem_of_getElem? (i := 196) rfl))
theorem lk_Mod_297 : Lk zc_Mod 297 y_Mod_scatterOf := Or.inl (tm_5 _ (List.mem_of_getElem? (i := 200) rfl))
theorem lk_Mod_291 : Lk zc_Mod 291 y_Mod_minds := Or.inl (tm_5 _ (List.mem_of_getElem? (i := 204) rfl))
theorem lk_Mod_294 : Lk zc_Mod 294 y_Mod_forgets := Or.inl (tm_5 _ (List.mem_of_getElem? (i := 208) rfl))
theorem lk_Law_92 : Lk zc_Law 92 y_Mod_kindBest := Or.inl (tm_5 _ (List.mem_of_getElem? (i := 212) rfl))
theorem lk_Law_96 : Lk zc_Law 96 y_Mod_order := Or.inl (tm_5 _ (List.mem_of_getElem? (i := 216) rfl))
theorem lk_Mod_303 : Lk zc_Mod 303 y_Mod_isOrder := Or.inl (tm_5 _ (List.mem_of_getElem? (i := 220) rfl))
theorem lk_Mod_306 : Lk zc_Mod 306 y_Mod_extentsIn := Or.inl (tm_5 _ (List.mem_of_getElem? (i := 223) rfl))
theorem lk_Mod_300 : Lk zc_Mod 300 y_Mod_allExtents := Or.inl (tm_5 _ (List.mem_of_getElem? (i := 227) rfl))
theorem lk_Law_100 : Lk zc_Law 100 y_Mod_steps := Or.inl (tm_5 _ (List.mem_of_getElem? (i := 231) rfl))
theorem lk_Mod_309 : Lk zc_Mod 309 y_Mod_stepsOf := Or.inl (tm_5 _ (List.mem_of_getElem? (i := 235) rfl))
theorem lk_Law_104 : Lk zc_Law 104 y_Mod_loses := Or.inl (tm_5 _ (List.mem_of_getElem? (i := 239) rfl))
theorem lk_Mod_315 : Lk zc_Mod 315 y_Mod_losesBy := Or.inl (tm_6 _ (List.mem_of_getElem? (i := 3) rfl))
theorem lk_Mod_312 : Lk zc_Mod 312 y_Mod_remembers := Or.inl (tm_6 _ (List.mem_of_getElem? (i := 7) rfl))
theorem lk_Law_108 : Lk zc_Law 108 y_Mod_safe := Or.inl (tm_6 _ (List.mem_of_getElem? (i := 11) rfl))
theorem lk_Law_112 : Lk zc_Law 112 y_Mod_gather := Or.inl (tm_6 _ (List.mem_of_getElem? (i := 15) rfl))
theorem lk_Mod_319 : Lk zc_Mod 319 y_Mod_notFreeIn := Or.inl (tm_6 _ (List.mem_of_getElem? (i := 19) rfl))
theorem lk_Law_116 : Lk zc_Law 116 y_Mod_first := Or.inl (tm_6 _ (List.mem_of_getElem? (i := 23) rfl))
theorem lk_Mod_322 : Lk zc_Mod 322 y_Mod_areTwo := Or.inl (tm_6 _ (List.mem_of_getElem? (i := 27) rfl))
theorem lk_Mod_325 : Lk zc_Mod 325 y_Mod_extentsOfBoth := Or.inl (tm_6 _ (List.mem_of_getElem? (i := 30) rfl))
theorem lk_Law_120 : Lk zc_Law 120 y_Mod_two := Or.inl (tm_6 _ (List.mem_of_getElem? (i := 34) rfl))
theorem lk_Mod_328 : Lk zc_Mod 328 y_Mod_findEnds := Or.inl (tm_6 _ (List.mem_of_getElem? (i := 38) rfl))
theorem lk_Law_124 : Lk zc_Law 124 y_Mod_most := Or.inl (tm_6 _ (List.mem_of_getElem? (i := 42) rfl))
theorem lk_Law_128 : Lk zc_Law 128 y_Mod_larger := Or.inl (tm_6 _ (List.mem_of_getElem? (i := 46) rfl))
theorem lk_Mod_331 : Lk zc_Mod 331 y_Mod_lower := Or.inl (tm_6 _ (List.mem_of_getElem? (i := 50) rfl))
theorem lk_Law_133 : Lk zc_Law 133 y_Mod_lost := Or.inl (tm_6 _ (List.mem_of_getElem? (i := 55) rfl))
theorem lk_Mod_338 : Lk zc_Mod 338 y_Mod_lowestOf := Or.inl (tm_6 _ (List.mem_of_getElem? (i := 59) rfl))
theorem lk_Mod_342 : Lk zc_Mod 342 y_Mod_partOf := Or.inl (tm_6 _ (List.mem_of_getElem? (i := 64) rfl))
theorem lk_Mod_334 : Lk zc_Mod 334 y_Mod_divisor := Or.inl (tm_6 _ (List.mem_of_getElem? (i := 67) rfl))
theorem lk_Law_138 : Lk zc_Law 138 y_Mod_sure := Or.inl (tm_6 _ (List.mem_of_getElem? (i := 70) rfl))
theorem lk_Mod_346 : Lk zc_Mod 346 y_Mod_isReadSo := Or.inl (tm_6 _ (List.mem_of_getElem? (i := 74) rfl))
theorem lk_Law_143 : Lk zc_Law 143 y_Mod_mean := Or.inl (tm_6 _ (List.mem_of_getElem? (i := 78) rfl))
theorem lk_Law_147 : Lk zc_Law 147 y_Mod_which := Or.inl (tm_6 _ (List.mem_of_getElem? (i := 82) rfl))
theorem lk_Mod_352 : Lk zc_Mod 352 y_Mod_isPlacedSo := Or.inl (tm_6 _ (List.mem_of_getElem? (i := 86) rfl))
theorem lk_Law_151 : Lk zc_Law 151 y_Mod_row := Or.inl (tm_6 _ (List.mem_of_getElem? (i := 90) rfl))
theorem lk_Law_155 : Lk zc_Law 155 y_Mod_judge := Or.inl (tm_6 _ (List.mem_of_getElem? (i := 94) rfl))
theorem lk_Law_159 : Lk zc_Law 159 y_Mod_forged := Or.inl (tm_6 _ (List.mem_of_getElem? (i := 98) rfl))
theorem lk_Law_163 : Lk zc_Law 163 y_Mod_clear := Or.inl (tm_6 _ (List.mem_of_getElem? (i := 102) rfl))
theorem lk_Law_167 : Lk zc_Law 167 y_Mod_lots := Or.inl (tm_6 _ (List.mem_of_getElem? (i := 106) rfl))
theorem lk_Mod_364 : Lk zc_Mod 364 y_Mod_saysByLot := Or.inl (tm_6 _ (List.mem_of_getElem? (i := 110) rfl))
theorem lk_Mod_361 : Lk zc_Mod 361 y_Mod_draw := Or.inl (tm_6 _ (List.mem_of_getElem? (i := 114) rfl))
theorem lk_Mod_367 : Lk zc_Mod 367 y_Mod_runs := Or.inl (tm_6 _ (List.mem_of_getElem? (i := 121) rfl))
theorem lk_Law_179 : Lk zc_Law 179 y_Mod_count := Or.inl (tm_6 _ (List.mem_of_getElem? (i := 125) rfl))
theorem lk_Vol_9 : Lk zc_Vol 9 y_Disk_init := Or.inr (tm_1 _ (List.mem_of_getElem? (i := 20) rfl))
theorem lk_Disk_33 : Lk zc_Disk 33 y_Runs_init := Or.inr (tm_1 _ (List.mem_of_getElem? (i := 26) rfl))
theorem lk_Vol_24 : Lk zc_Vol 24 y_Mind_init := Or.inr (tm_1 _ (List.mem_of_getElem? (i := 68) rfl))
theorem lk_Vol_33 : Lk zc_Vol 33 y_Text_init := Or.inr (tm_1 _ (List.mem_of_getElem? (i := 84) rfl))
theorem lk_Text_11 : Lk zc_Text 11 y_Row_init := Or.inr (tm_1 _ (List.mem_of_getElem? (i := 90) rfl))
theorem lk_Vol_40 : Lk zc_Vol 40 y_Row_init := Or.inr (tm_1 _ (List.mem_of_getElem? (i := 113) rfl))
theorem lk_Vol_62 : Lk zc_Vol 62 y_Row_isFull := Or.inr (tm_1 _ (List.mem_of_getElem? (i := 147) rfl))
theorem lk_Vol_66 : Lk zc_Vol 66 y_Row_add := Or.inr (tm_1 _ (List.mem_of_getElem? (i := 151) rfl))
theorem lk_Vol_69 : Lk zc_Vol 69 y_Text_faultOfForm := Or.inr (tm_1 _ (List.mem_of_getElem? (i := 159) rfl))
theorem lk_Text_28 : Lk zc_Text 28 y_Row_numberAt := Or.inr (tm_1 _ (List.mem_of_getElem? (i := 167) rfl))
theorem lk_Vol_73 : Lk zc_Vol 73 y_Disk_copyFrom := Or.inr (tm_1 _ (List.mem_of_getElem? (i := 177) rfl))
theorem lk_Vol_77 : Lk zc_Vol 77 y_Text_playOn := Or.inr (tm_1 _ (List.mem_of_getElem? (i := 184) rfl))
theorem lk_Text_45 : Lk zc_Text 45 y_Vol_isFile := Or.inr (tm_1 _ (List.mem_of_getElem? (i := 196) rfl))
theorem lk_Text_49 : Lk zc_Text 49 y_Disk_sayAt := Or.inr (tm_1 _ (List.mem_of_getElem? (i := 199) rfl))
theorem lk_Disk_99 : Lk zc_Disk 99 y_Vol_isFile := Or.inr (tm_1 _ (List.mem_of_getElem? (i := 203) rfl))
theorem lk_Disk_103 : Lk zc_Disk 103 y_Vol_isPage := Or.inr (tm_1 _ (List.mem_of_getElem? (i := 204) rfl))
theorem lk_Text_80 : Lk zc_Text 80 y_Vol_isPage := Or.inr (tm_1 _ (List.mem_of_getElem? (i := 235) rfl))
theorem lk_Text_58 : Lk zc_Text 58 y_Disk_putHoles := Or.inr (tm_1 _ (List.mem_of_getElem? (i := 236) rfl))
theorem lk_Disk_44 : Lk zc_Disk 44 y_Runs_lookAt := Or.inr (tm_2 _ (List.mem_of_getElem? (i := 12) rfl))
theorem lk_Disk_119 : Lk zc_Disk 119 y_Runs_leastFor := Or.inr (tm_2 _ (List.mem_of_getElem? (i := 20) rfl))
theorem lk_Disk_48 : Lk zc_Disk 48 y_Runs_greatest := Or.inr (tm_2 _ (List.mem_of_getElem? (i := 24) rfl))
theorem lk_Disk_52 : Lk zc_Disk 52 y_Runs_sizeAt := Or.inr (tm_2 _ (List.mem_of_getElem? (i := 28) rfl))
theorem lk_Disk_128 : Lk zc_Disk 128 y_Runs_beginOf := Or.inr (tm_2 _ (List.mem_of_getElem? (i := 40) rfl))
theorem lk_Disk_131 : Lk zc_Disk 131 y_Runs_startAt := Or.inr (tm_2 _ (List.mem_of_getElem? (i := 63) rfl))
theorem lk_Disk_138 : Lk zc_Disk 138 y_Vol_isBlock := Or.inr (tm_2 _ (List.mem_of_getElem? (i := 68) rfl))
theorem lk_Text_62 : Lk zc_Text 62 y_Disk_punchOut := Or.inr (tm_2 _ (List.mem_of_getElem? (i := 71) rfl))
theorem lk_Text_65 : Lk zc_Text 65 y_Disk_flushUpTo := Or.inr (tm_2 _ (List.mem_of_getElem? (i := 79) rfl))
theorem lk_Text_69 : Lk zc_Text 69 y_Disk_settleDown := Or.inr (tm_2 _ (List.mem_of_getElem? (i := 95) rfl))
theorem lk_Text_72 : Lk zc_Text 72 y_Disk_dropWaiting := Or.inr (tm_2 _ (List.mem_of_getElem? (i := 107) rfl))
theorem lk_Text_76 : Lk zc_Text 76 y_Disk_turnKind := Or.inr (tm_2 _ (List.mem_of_getElem? (i := 111) rfl))
theorem lk_Vol_81 : Lk zc_Vol 81 y_Row_empty := Or.inr (tm_2 _ (List.mem_of_getElem? (i := 115) rfl))
theorem lk_Vol_91 : Lk zc_Vol 91 y_Disk_blockAt := Or.inr (tm_2 _ (List.mem_of_getElem? (i := 125) rfl))
theorem lk_Vol_98 : Lk zc_Vol 98 y_Disk_isWritten := Or.inr (tm_2 _ (List.mem_of_getElem? (i := 129) rfl))
theorem lk_Vol_102 : Lk zc_Vol 102 y_Disk_valueAt := Or.inr (tm_2 _ (List.mem_of_getElem? (i := 133) rfl))
theorem lk_Vol_105 : Lk zc_Vol 105 y_Disk_kindAt := Or.inr (tm_2 _ (List.mem_of_getElem? (i := 138) rfl))
theorem lk_Vol_108 : Lk zc_Vol 108 y_Disk_placedIn := Or.inr (tm_2 _ (List.mem_of_getElem? (i := 139) rfl))
theorem lk_Vol_111 : Lk zc_Vol 111 y_Disk_waitingIn := Or.inr (tm_2 _ (List.mem_of_getElem? (i := 140) rfl))
theorem lk_Vol_114 : Lk zc_Vol 114 y_Disk_promisedIn := Or.inr (tm_2 _ (List.mem_of_getElem? (i := 144) rfl))
theorem lk_Vol_117 : Lk zc_Vol 117 y_Disk_extentsIn := Or.inr (tm_2 _ (List.mem_of_getElem? (i := 148) rfl))
theorem lk_Vol_123 : Lk zc_Vol 123 y_Disk_writtenIn := Or.inr (tm_2 _ (List.mem_of_getElem? (i := 160) rfl))
theorem lk_Vol_126 : Lk zc_Vol 126 y_Disk_readAt := Or.inr (tm_2 _ (List.mem_of_getElem? (i := 168) rfl))
theorem lk_Vol_129 : Lk zc_Vol 129 y_Disk_sayAt := Or.inr (tm_2 _ (List.mem_of_getElem? (i := 180) rfl))
theorem lk_Vol_133 : Lk zc_Vol 133 y_Disk_putHoles := Or.inr (tm_2 _ (List.mem_of_getElem? (i := 185) rfl))
theorem lk_Vol_137 : Lk zc_Vol 137 y_Disk_punchOut := Or.inr (tm_2 _ (List.mem_of_getElem? (i := 190) rfl))
theorem lk_Vol_140 : Lk zc_Vol 140 y_Disk_flushUpTo := Or.inr (tm_2 _ (List.mem_of_getElem? (i := 195) rfl))
theorem lk_Vol_143 : Lk zc_Vol 143 y_Disk_settleDown := Or.inr (tm_2 _ (List.mem_of_getElem? (i := 200) rfl))
theorem lk_Vol_146 : Lk zc_Vol 146 y_Disk_dropWaiting := Or.inr (tm_2 _ (List.mem_of_getElem? (i := 205) rfl))
theorem lk_Vol_149 : Lk zc_Vol 149 y_Disk_turnKind := Or.inr (tm_2 _ (List.mem_of_getElem? (i := 210) rfl))
theorem lk_Vol_156 : Lk zc_Vol 156 y_Disk_lookedAtRuns := Or.inr (tm_2 _ (List.mem_of_getElem? (i := 218) rfl))
theorem lk_Vol_166 : Lk zc_Vol 166 y_Runs_atRankOfSize := Or.inr (tm_2 _ (List.mem_of_getElem? (i := 222) rfl))
theorem lk_Vol_169 : Lk zc_Vol 169 y_Runs_startAt := Or.inr (tm_2 _ (List.mem_of_getElem? (i := 230) rfl))
theorem lk_Vol_172 : Lk zc_Vol 172 y_Runs_sizeAt := Or.inr (tm_2 _ (List.mem_of_getElem? (i := 231) rfl))
theorem lk_Vol_178 : Lk zc_Vol 178 y_Runs_leastFor := Or.inr (tm_2 _ (List.mem_of_getElem? (i := 239) rfl))
theorem lk_Vol_184 : Lk zc_Vol 184 y_Runs_closestTo := Or.inr (tm_3 _ (List.mem_of_getElem? (i := 5) rfl))
theorem lk_Vol_187 : Lk zc_Vol 187 y_Disk_byteAt := Or.inr (tm_3 _ (List.mem_of_getElem? (i := 10) rfl))
theorem lk_Vol_190 : Lk zc_Vol 190 y_Disk_ownerAt := Or.inr (tm_3 _ (List.mem_of_getElem? (i := 11) rfl))
theorem lk_Vol_193 : Lk zc_Vol 193 y_Disk_staleBlocks := Or.inr (tm_3 _ (List.mem_of_getElem? (i := 19) rfl))
theorem lk_Vol_197 : Lk zc_Vol 197 y_Mind_extentsByKind := Or.inr (tm_3 _ (List.mem_of_getElem? (i := 28) rfl))
theorem lk_Mind_22 : Lk zc_Mind 22 y_Disk_copyFrom := Or.inr (tm_3 _ (List.mem_of_getElem? (i := 36) rfl))
theorem lk_Mind_28 : Lk zc_Mind 28 y_Disk_turnKind := Or.inr (tm_3 _ (List.mem_of_getElem? (i := 37) rfl))
theorem lk_Mind_32 : Lk zc_Mind 32 y_Disk_flushUpTo := Or.inr (tm_3 _ (List.mem_of_getElem? (i := 38) rfl))
theorem lk_Mind_39 : Lk zc_Mind 39 y_Disk_extentsIn := Or.inr (tm_3 _ (List.mem_of_getElem? (i := 39) rfl))
theorem lk_Vol_200 : Lk zc_Vol 200 y_Mind_leastKind := Or.inr (tm_3 _ (List.mem_of_getElem? (i := 44) rfl))
theorem lk_Vol_203 : Lk zc_Vol 203 y_Mind_leastOrder := Or.inr (tm_3 _ (List.mem_of_getElem? (i := 52) rfl))
theorem lk_Mind_50 : Lk zc_Mind 50 y_Vol_fileOfOrder := Or.inr (tm_3 _ (List.mem_of_getElem? (i := 59) rfl))
theorem lk_Mind_53 : Lk zc_Mind 53 y_Disk_extentsInAll := Or.inr (tm_3 _ (List.mem_of_getElem? (i := 66) rfl))
theorem lk_Vol_209 : Lk zc_Vol 209 y_Mind_extentsByOrder := Or.inr (tm_3 _ (List.mem_of_getElem? (i := 75) rfl))
theorem lk_Vol_212 : Lk zc_Vol 212 y_Mind_stepsOf := Or.inr (tm_3 _ (List.mem_of_getElem? (i := 80) rfl))
theorem lk_Vol_215 : Lk zc_Vol 215 y_Mind_lossOfOwn := Or.inr (tm_3 _ (List.mem_of_getElem? (i := 88) rfl))
theorem lk_Mind_57 : Lk zc_Mind 57 y_Disk_dropWaiting := Or.inr (tm_3 _ (List.mem_of_getElem? (i := 96) rfl))
theorem lk_Mind_66 : Lk zc_Mind 66 y_Disk_readAt := Or.inr (tm_3 _ (List.mem_of_getElem? (i := 101) rfl))
theorem lk_Vol_218 : Lk zc_Vol 218 y_Mind_lossOfOthers := Or.inr (tm_3 _ (List.mem_of_getElem? (i := 102) rfl))
theorem lk_Vol_221 : Lk zc_Vol 221 y_Mind_leastSafe := Or.inr (tm_3 _ (List.mem_of_getElem? (i := 110) rfl))
theorem lk_Vol_224 : Lk zc_Vol 224 y_Disk_leastTakenWindow := Or.inr (tm_3 _ (List.mem_of_getElem? (i := 119) rfl))
theorem lk_Vol_227 : Lk zc_Vol 227 y_Disk_takenAmong := Or.inr (tm_3 _ (List.mem_of_getElem? (i := 127) rfl))
theorem lk_Vol_230 : Lk zc_Vol 230 y_Mind_extentsOfPair := Or.inr (tm_3 _ (List.mem_of_getElem? (i := 132) rfl))
theorem lk_Vol_233 : Lk zc_Vol 233 y_Mind_isSteady := Or.inr (tm_3 _ (List.mem_of_getElem? (i := 140) rfl))
theorem lk_Vol_237 : Lk zc_Vol 237 y_Disk_holesAmong := Or.inr (tm_3 _ (List.mem_of_getElem? (i := 152) rfl))
theorem lk_Vol_240 : Lk zc_Vol 240 y_Disk_roomLeft := Or.inr (tm_3 _ (List.mem_of_getElem? (i := 153) rfl))
theorem lk_Vol_249 : Lk zc_Vol 249 y_Mind_growthBySettling := Or.inr (tm_3 _ (List.mem_of_getElem? (i := 162) rfl))
theorem lk_Mind_76 : Lk zc_Mind 76 y_Disk_settleDown := Or.inr (tm_3 _ (List.mem_of_getElem? (i := 166) rfl))
theorem lk_Mind_79 : Lk zc_Mind 79 y_Disk_greatestSize := Or.inr (tm_3 _ (List.mem_of_getElem? (i := 167) rfl))
theorem lk_Vol_254 : Lk zc_Vol 254 y_Mind_lossOfAllCrashes := Or.inr (tm_3 _ (List.mem_of_getElem? (i := 176) rfl))
theorem lk_Vol_261 : Lk zc_Vol 261 y_Mind_crashesThatKeep := Or.inr (tm_3 _ (List.mem_of_getElem? (i := 190) rfl))
theorem lk_Vol_264 : Lk zc_Vol 264 y_Disk_freeBlocks := Or.inr (tm_3 _ (List.mem_of_getElem? (i := 198) rfl))
theorem lk_Vol_267 : Lk zc_Vol 267 y_Disk_extentsInAll := Or.inr (tm_3 _ (List.mem_of_getElem? (i := 199) rfl))
theorem lk_Vol_271 : Lk zc_Vol 271 y_Mind_comesAsTold := Or.inr (tm_3 _ (List.mem_of_getElem? (i := 204) rfl))
theorem lk_Mind_87 : Lk zc_Mind 87 y_Disk_isPromised := Or.inr (tm_3 _ (List.mem_of_getElem? (i := 208) rfl))
theorem lk_Mind_91 : Lk zc_Mind 91 y_Disk_blockAt := Or.inr (tm_3 _ (List.mem_of_getElem? (i := 209) rfl))
theorem lk_Mind_94 : Lk zc_Mind 94 y_Row_numberAt := Or.inr (tm_3 _ (List.mem_of_getElem? (i := 210) rfl))
theorem lk_Vol_291 : Lk zc_Vol 291 y_Row_numberAt := Or.inr (tm_3 _ (List.mem_of_getElem? (i := 223) rfl))
theorem lk_Vol_281 : Lk zc_Vol 281 y_Mind_sumOfLots := Or.inr (tm_4 _ (List.mem_of_getElem? (i := 0) rfl))
theorem lk_Mind_110 : Lk zc_Mind 110 y_Disk_sayAt := Or.inr (tm_4 _ (List.mem_of_getElem? (i := 15) rfl))
theorem lk_Mind_100 : Lk zc_Mind 100 y_Disk_lookedAtRuns := Or.inr (tm_4 _ (List.mem_of_getElem? (i := 16) rfl))
theorem lk_Vol_285 : Lk zc_Vol 285 y_Disk_promisedInAll := Or.inr (tm_4 _ (List.mem_of_getElem? (i := 29) rfl))
theorem lk_Vol_288 : Lk zc_Vol 288 y_Disk_greatestSize := Or.inr (tm_4 _ (List.mem_of_getElem? (i := 30) rfl))
theorem fl_Runs_9 : Fl zc_Runs 9 3 0 := ⟨zc_Runs, zt_Runs, 3, rfl, by decide, zv_Runs, Or.inl ⟨(tm_1 _ (List.mem_of_getElem? (i := 30) rfl)), by decide +kernel⟩⟩
theorem fl_Runs_15 : Fl zc_Runs 15 3 1 := ⟨zc_Runs, zt_Runs, 3, rfl, by decide, zv_Runs, Or.inl ⟨(tm_1 _ (List.mem_of_getElem? (i := 31) rfl)), by decide +kernel⟩⟩
theorem fl_Runs_18 : Fl zc_Runs 18 3 2 := ⟨zc_Runs, zt_Runs, 3, rfl, by decide, zv_Runs, Or.inl ⟨(tm_1 _ (List.mem_of_getElem? (i := 32) rfl)), by decide +kernel⟩⟩
theorem fp_Runs_18 (x : Int32) : Fp zc_Runs 18 3 2 (.int x) := ⟨zc_Runs, zt_Runs, 3, zy_Runs, .int, rfl, by decide, zv_Runs, zo_Runs, zn_Runs, by decide +kernel, by decide +kernel, rfl, rfl, (tm_1 _ (List.mem_of_getElem? (i := 32) rfl)), by decide +kernel⟩
theorem fl_Disk_9 : Fl zc_Disk 9 0 0 := ⟨zc_Disk, zt_Disk, 7, rfl, by decide, zv_Disk, Or.inl ⟨(tm_1 _ (List.mem_of_getElem? (i := 44) rfl)), by decide +kernel⟩⟩
theorem fl_Disk_15 : Fl zc_Disk 15 0 1 := ⟨zc_Disk, zt_Disk, 7, rfl, by decide, zv_Disk, Or.inl ⟨(tm_1 _ (List.mem_of_getElem? (i := 45) rfl)), by decide +kernel⟩⟩
theorem fl_Disk_18 : Fl zc_Disk 18 0 2 := ⟨zc_Disk, zt_Disk, 7, rfl, by decide, zv_Disk, Or.inl ⟨(tm_1 _ (List.mem_of_getElem? (i := 46) rfl)), by decide +kernel⟩⟩
theorem fl_Disk_21 : Fl zc_Disk 21 0 3 := ⟨zc_Disk, zt_Disk, 7, rfl, by decide, zv_Disk, Or.inl ⟨(tm_1 _ (List.mem_of_getElem? (i := 47) rfl)), by decide +kernel⟩⟩
theorem fl_Disk_24 : Fl zc_Disk 24 0 4 := ⟨zc_Disk, zt_Disk, 7, rfl, by decide, zv_Disk, Or.inl ⟨(tm_1 _ (List.mem_of_getElem? (i := 48) rfl)), by decide +kernel⟩⟩
theorem fl_Disk_27 : Fl zc_Disk 27 0 5 := ⟨zc_Disk, zt_Disk, 7, rfl, by decide, zv_Disk, Or.inl ⟨(tm_1 _ (List.mem_of_getElem? (i := 49) rfl)), by decide +kernel⟩⟩
theorem fl_Disk_34 : Fl zc_Disk 34 0 6 := ⟨zc_Disk, zt_Disk, 7, rfl, by decide, zv_Disk, Or.inl ⟨(tm_1 _ (List.mem_of_getElem? (i := 50) rfl)), by decide +kernel⟩⟩
theorem fl_Mind_9 : Fl zc_Mind 9 1 0 := ⟨zc_Mind, zt_Mind, 3, rfl, by decide, zv_Mind, Or.inl ⟨(tm_1 _ (List.mem_of_getElem? (i := 72) rfl)), by decide +kernel⟩⟩
theorem fl_Mind_15 : Fl zc_Mind 15 1 1 := ⟨zc_Mind, zt_Mind, 3, rfl, by decide, zv_Mind, Or.inl ⟨(tm_1 _ (List.mem_of_getElem? (i := 73) rfl)), by decide +kernel⟩⟩
theorem fl_Mind_18 : Fl zc_Mind 18 1 2 := ⟨zc_Mind, zt_Mind, 3, rfl, by decide, zv_Mind, Or.inl ⟨(tm_1 _ (List.mem_of_getElem? (i := 74) rfl)), by decide +kernel⟩⟩
theorem fp_Mind_18 (x : Int32) : Fp zc_Mind 18 1 2 (.int x) := ⟨zc_Mind, zt_Mind, 3, zy_Mind, .int, rfl, by decide, zv_Mind, zo_Mind, zn_Mind, by decide +kernel, by decide +kernel, rfl, rfl, (tm_1 _ (List.mem_of_getElem? (i := 74) rfl)), by decide +kernel⟩
theorem fl_Row_15 : Fl zc_Row 15 2 0 := ⟨zc_Row, zt_Row, 2, rfl, by decide, zv_Row, Or.inl ⟨(tm_1 _ (List.mem_of_getElem? (i := 97) rfl)), by decide +kernel⟩⟩
theorem fl_Row_21 : Fl zc_Row 21 2 1 := ⟨zc_Row, zt_Row, 2, rfl, by decide, zv_Row, Or.inl ⟨(tm_1 _ (List.mem_of_getElem? (i := 98) rfl)), by decide +kernel⟩⟩
theorem fp_Row_21 (x : Int32) : Fp zc_Row 21 2 1 (.int x) := ⟨zc_Row, zt_Row, 2, zy_Row, .int, rfl, by decide, zv_Row, zo_Row, zn_Row, by decide +kernel, by decide +kernel, rfl, rfl, (tm_1 _ (List.mem_of_getElem? (i := 98) rfl)), by decide +kernel⟩
theorem fl_Text_14 : Fl zc_Text 14 4 0 := ⟨zc_Text, zt_Text, 1, rfl, by decide, zv_Text, Or.inl ⟨(tm_1 _ (List.mem_of_getElem? (i := 107) rfl)), by decide +kernel⟩⟩
theorem fl_Vol_10 : Fl zc_Vol 10 5 0 := ⟨zc_Vol, zt_Vol, 8, rfl, by decide, zv_Vol, Or.inl ⟨(tm_1 _ (List.mem_of_getElem? (i := 114) rfl)), by decide +kernel⟩⟩
theorem fl_Vol_19 : Fl zc_Vol 19 5 1 := ⟨zc_Vol, zt_Vol, 8, rfl, by decide, zv_Vol, Or.inl ⟨(tm_1 _ (List.mem_of_getElem? (i := 115) rfl)), by decide +kernel⟩⟩
theorem fl_Vol_16 : Fl zc_Vol 16 5 2 := ⟨zc_Vol, zt_Vol, 8, rfl, by decide, zv_Vol, Or.inl ⟨(tm_1 _ (List.mem_of_getElem? (i := 116) rfl)), by decide +kernel⟩⟩
theorem fl_Vol_27 : Fl zc_Vol 27 5 3 := ⟨zc_Vol, zt_Vol, 8, rfl, by decide, zv_Vol, Or.inl ⟨(tm_1 _ (List.mem_of_getElem? (i := 117) rfl)), by decide +kernel⟩⟩
theorem fl_Vol_34 : Fl zc_Vol 34 5 4 := ⟨zc_Vol, zt_Vol, 8, rfl, by decide, zv_Vol, Or.inl ⟨(tm_1 _ (List.mem_of_getElem? (i := 118) rfl)), by decide +kernel⟩⟩
theorem fl_Vol_43 : Fl zc_Vol 43 5 5 := ⟨zc_Vol, zt_Vol, 8, rfl, by decide, zv_Vol, Or.inl ⟨(tm_1 _ (List.mem_of_getElem? (i := 119) rfl)), by decide +kernel⟩⟩
theorem fl_Vol_47 : Fl zc_Vol 47 5 6 := ⟨zc_Vol, zt_Vol, 8, rfl, by decide, zv_Vol, Or.inl ⟨(tm_1 _ (List.mem_of_getElem? (i := 120) rfl)), by decide +kernel⟩⟩
theorem fl_Vol_51 : Fl zc_Vol 51 5 7 := ⟨zc_Vol, zt_Vol, 8, rfl, by decide, zv_Vol, Or.inl ⟨(tm_1 _ (List.mem_of_getElem? (i := 121) rfl)), by decide +kernel⟩⟩
theorem fp_Vol_51 (x : Int) (hx : x = 0 ∨ x = 1) : Fp zc_Vol 51 5 7 (.int (zi x)) := ⟨zc_Vol, zt_Vol, 8, zy_Vol, .boolean, rfl, by decide, zv_Vol, zo_Vol, zn_Vol, by decide +kernel, by decide +kernel, fq_n hx, fq_f hx, (tm_1 _ (List.mem_of_getElem? (i := 121) rfl)), by decide +kernel⟩
theorem fl_Mod_7 : Fl zc_Mod 7 6 0 := ⟨zc_Mod, zt_Mod, 26, rfl, by decide, zv_Mod, Or.inl ⟨(tm_4 _ (List.mem_of_getElem? (i := 37) rfl)), by decide +kernel⟩⟩
theorem fl_Mod_13 : Fl zc_Mod 13 6 1 := ⟨zc_Mod, zt_Mod, 26, rfl, by decide, zv_Mod, Or.inl ⟨(tm_4 _ (List.mem_of_getElem? (i := 38) rfl)), by decide +kernel⟩⟩
theorem fl_Mod_16 : Fl zc_Mod 16 6 2 := ⟨zc_Mod, zt_Mod, 26, rfl, by decide, zv_Mod, Or.inl ⟨(tm_4 _ (List.mem_of_getElem? (i := 39) rfl)), by decide +kernel⟩⟩
theorem fl_Mod_19 : Fl zc_Mod 19 6 3 := ⟨zc_Mod, zt_Mod, 26, rfl, by decide, zv_Mod, Or.inl ⟨(tm_4 _ (List.mem_of_getElem? (i := 40) rfl)), by decide +kernel⟩⟩
theorem fl_Mod_22 : Fl zc_Mod 22 6 4 := ⟨zc_Mod, zt_Mod, 26, rfl, by decide, zv_Mod, Or.inl ⟨(tm_4 _ (List.mem_of_getElem? (i := 41) rfl)), by decide +kernel⟩⟩
theorem fl_Mod_25 : Fl zc_Mod 25 6 5 := ⟨zc_Mod, zt_Mod, 26, rfl, by decide, zv_Mod, Or.inl ⟨(tm_4 _ (List.mem_of_getElem? (i := 42) rfl)), by decide +kernel⟩⟩
theorem fl_Mod_28 : Fl zc_Mod 28 6 6 := ⟨zc_Mod, zt_Mod, 26, rfl, by decide, zv_Mod, Or.inl ⟨(tm_4 _ (List.mem_of_getElem? (i := 43) rfl)), by decide +kernel⟩⟩
theorem fl_Mod_99 : Fl zc_Mod 99 6 7 := ⟨zc_Mod, zt_Mod, 26, rfl, by decide, zv_Mod, Or.inl ⟨(tm_4 _ (List.mem_of_getElem? (i := 44) rfl)), by decide +kernel⟩⟩
theorem fp_Mod_99 (x : Int32) : Fp zc_Mod 99 6 7 (.int x) := ⟨zc_Mod, zt_Mod, 26, zy_Mod, .int, rfl, by decide, zv_Mod, zo_Mod, zn_Mod, by decide +kernel, by decide +kernel, rfl, rfl, (tm_4 _ (List.mem_of_getElem? (i := 44) rfl)), by decide +kernel⟩
theorem fl_Mod_103 : Fl zc_Mod 103 6 8 := ⟨zc_Mod, zt_Mod, 26, rfl, by decide, zv_Mod, Or.inl ⟨(tm_4 _ (List.mem_of_getElem? (i := 45) rfl)), by decide +kernel⟩⟩
theorem fp_Mod_103 (x : Int32) : Fp zc_Mod 103 6 8 (.int x) := ⟨zc_Mod, zt_Mod, 26, zy_Mod, .int, rfl, by decide, zv_Mod, zo_Mod, zn_Mod, by decide +kernel, by decide +kernel, rfl, rfl, (tm_4 _ (List.mem_of_getElem? (i := 45) rfl)), by decide +kernel⟩
theorem fl_Mod_31 : Fl zc_Mod 31 6 9 := ⟨zc_Mod, zt_Mod, 26, rfl, by decide, zv_Mod, Or.inl ⟨(tm_4 _ (List.mem_of_getElem? (i := 46) rfl)), by decide +kernel⟩⟩
theorem fl_Mod_34 : Fl zc_Mod 34 6 10 := ⟨zc_Mod, zt_Mod, 26, rfl, by decide, zv_Mod, Or.inl ⟨(tm_4 _ (List.mem_of_getElem? (i := 47) rfl)), by decide +kernel⟩⟩
theorem fl_Mod_37 : Fl zc_Mod 37 6 11 := ⟨zc_Mod, zt_Mod, 26, rfl, by decide, zv_Mod, Or.inl ⟨(tm_4 _ (List.mem_of_getElem? (i := 48) rfl)), by decide +kernel⟩⟩
theorem fl_Mod_40 : Fl zc_Mod 40 6 12 := ⟨zc_Mod, zt_Mod, 26, rfl, by decide, zv_Mod, Or.inl ⟨(tm_4 _ (List.mem_of_getElem? (i := 49) rfl)), by decide +kernel⟩⟩
theorem fl_Mod_169 : Fl zc_Mod 169 6 13 := ⟨zc_Mod, zt_Mod, 26, rfl, by decide, zv_Mod, Or.inl ⟨(tm_4 _ (List.mem_of_getElem? (i := 50) rfl)), by decide +kernel⟩⟩
theorem fp_Mod_169 (x : Int32) : Fp zc_Mod 169 6 13 (.int x) := ⟨zc_Mod, zt_Mod, 26, zy_Mod, .int, rfl, by decide, zv_Mod, zo_Mod, zn_Mod, by decide +kernel, by decide +kernel, rfl, rfl, (tm_4 _ (List.mem_of_getElem? (i := 50) rfl)), by decide +kernel⟩
theorem fl_Mod_175 : Fl zc_Mod 175 6 14 := ⟨zc_Mod, zt_Mod, 26, rfl, by decide, zv_Mod, Or.inl ⟨(tm_4 _ (List.mem_of_getElem? (i := 51) rfl)), by decide +kernel⟩⟩
theorem fp_Mod_175 (x : Int32) : Fp zc_Mod 175 6 14 (.int x) := ⟨zc_Mod, zt_Mod, 26, zy_Mod, .int, rfl, by decide, zv_Mod, zo_Mod, zn_Mod, by decide +kernel, by decide +kernel, rfl, rfl, (tm_4 _ (List.mem_of_getElem? (i := 51) rfl)), by decide +kernel⟩
theorem fl_Mod_193 : Fl zc_Mod 193 6 15 := ⟨zc_Mod, zt_Mod, 26, rfl, by decide, zv_Mod, Or.inl ⟨(tm_4 _ (List.mem_of_getElem? (i := 52) rfl)), by decide +kernel⟩⟩
theorem fp_Mod_193 (x : Int32) : Fp zc_Mod 193 6 15 (.int x) := ⟨zc_Mod, zt_Mod, 26, zy_Mod, .int, rfl, by decide, zv_Mod, zo_Mod, zn_Mod, by decide +kernel, by decide +kernel, rfl, rfl, (tm_4 _ (List.mem_of_getElem? (i := 52) rfl)), by decide +kernel⟩
theorem fl_Mod_181 : Fl zc_Mod 181 6 16 := ⟨zc_Mod, zt_Mod, 26, rfl, by decide, zv_Mod, Or.inl ⟨(tm_4 _ (List.mem_of_getElem? (i := 53) rfl)), by decide +kernel⟩⟩
theorem fp_Mod_181 (x : Int32) : Fp zc_Mod 181 6 16 (.int x) := ⟨zc_Mod, zt_Mod, 26, zy_Mod, .int, rfl, by decide, zv_Mod, zo_Mod, zn_Mod, by decide +kernel, by decide +kernel, rfl, rfl, (tm_4 _ (List.mem_of_getElem? (i := 53) rfl)), by decide +kernel⟩
theorem fl_Mod_43 : Fl zc_Mod 43 6 17 := ⟨zc_Mod, zt_Mod, 26, rfl, by decide, zv_Mod, Or.inl ⟨(tm_4 _ (List.mem_of_getElem? (i := 54) rfl)), by decide +kernel⟩⟩
theorem fl_Mod_269 : Fl zc_Mod 269 6 18 := ⟨zc_Mod, zt_Mod, 26, rfl, by decide, zv_Mod, Or.inl ⟨(tm_4 _ (List.mem_of_getElem? (i := 55) rfl)), by decide +kernel⟩⟩
theorem fp_Mod_269 (x : Int) (hx : x = 0 ∨ x = 1) : Fp zc_Mod 269 6 18 (.int (zi x)) := ⟨zc_Mod, zt_Mod, 26, zy_Mod, .boolean, rfl, by decide, zv_Mod, zo_Mod, zn_Mod, by decide +kernel, by decide +kernel, fq_n hx, fq_f hx, (tm_4 _ (List.mem_of_getElem? (i := 55) rfl)), by decide +kernel⟩
theorem fl_Mod_258 : Fl zc_Mod 258 6 19 := ⟨zc_Mod, zt_Mod, 26, rfl, by decide, zv_Mod, Or.inl ⟨(tm_4 _ (List.mem_of_getElem? (i := 56) rfl)), by decide +kernel⟩⟩
theorem fp_Mod_258 (x : Int) (hx : x = 0 ∨ x = 1) : Fp zc_Mod 258 6 19 (.int (zi x)) := ⟨zc_Mod, zt_Mod, 26, zy_Mod, .boolean, rfl, by decide, zv_Mod, zo_Mod, zn_Mod, by decide +kernel, by decide +kernel, fq_n hx, fq_f hx, (tm_4 _ (List.mem_of_getElem? (i := 56) rfl)), by decide +kernel⟩
theorem fl_Mod_262 : Fl zc_Mod 262 6 20 := ⟨zc_Mod, zt_Mod, 26, rfl, by decide, zv_Mod, Or.inl ⟨(tm_4 _ (List.mem_of_getElem? (i := 57) rfl)), by decide +kernel⟩⟩
theorem fp_Mod_262 (x : Int32) : Fp zc_Mod 262 6 20 (.int x) := ⟨zc_Mod, zt_Mod, 26, zy_Mod, .int, rfl, by decide, zv_Mod, zo_Mod, zn_Mod, by decide +kernel, by decide +kernel, rfl, rfl, (tm_4 _ (List.mem_of_getElem? (i := 57) rfl)), by decide +kernel⟩
theorem fl_Mod_46 : Fl zc_Mod 46 6 21 := ⟨zc_Mod, zt_Mod, 26, rfl, by decide, zv_Mod, Or.inl ⟨(tm_4 _ (List.mem_of_getElem? (i := 58) rfl)), by decide +kernel⟩⟩
theorem fl_Mod_49 : Fl zc_Mod 49 6 22 := ⟨zc_Mod, zt_Mod, 26, rfl, by decide, zv_Mod, Or.inl ⟨(tm_4 _ (List.mem_of_getElem? (i := 59) rfl)), by decide +kernel⟩⟩
theorem fl_Mod_52 : Fl zc_Mod 52 6 23 := ⟨zc_Mod, zt_Mod, 26, rfl, by decide, zv_Mod, Or.inl ⟨(tm_4 _ (List.mem_of_getElem? (i := 60) rfl)), by decide +kernel⟩⟩
theorem fl_Mod_349 : Fl zc_Mod 349 6 24 := ⟨zc_Mod, zt_Mod, 26, rfl, by decide, zv_Mod, Or.inl ⟨(tm_4 _ (List.mem_of_getElem? (i := 61) rfl)), by decide +kernel⟩⟩
theorem fp_Mod_349 (x : Int32) : Fp zc_Mod 349 6 24 (.int x) := ⟨zc_Mod, zt_Mod, 26, zy_Mod, .int, rfl, by decide, zv_Mod, zo_Mod, zn_Mod, by decide +kernel, by decide +kernel, rfl, rfl, (tm_4 _ (List.mem_of_getElem? (i := 61) rfl)), by decide +kernel⟩
theorem fl_Mod_355 : Fl zc_Mod 355 6 25 := ⟨zc_Mod, zt_Mod, 26, rfl, by decide, zv_Mod, Or.inl ⟨(tm_4 _ (List.mem_of_getElem? (i := 62) rfl)), by decide +kernel⟩⟩
theorem fp_Mod_355 (x : Int32) : Fp zc_Mod 355 6 25 (.int x) := ⟨zc_Mod, zt_Mod, 26, zy_Mod, .int, rfl, by decide, zv_Mod, zo_Mod, zn_Mod, by decide +kernel, by decide +kernel, rfl, rfl, (tm_4 _ (List.mem_of_getElem? (i := 62) rfl)), by decide +kernel⟩
theorem fl_Vol_160 : Fl zc_Vol 160 3 2 := ⟨zc_Runs, zt_Runs, 3, rfl, by decide, zv_Runs, Or.inr ⟨trivial, (tm_1 _ (List.mem_of_getElem? (i := 33) rfl))⟩⟩
theorem fl_Mind_104 : Fl zc_Mind 104 3 2 := ⟨zc_Runs, zt_Runs, 3, rfl, by decide, zv_Runs, Or.inr ⟨trivial, (tm_1 _ (List.mem_of_getElem? (i := 34) rfl))⟩⟩
theorem fl_Text_20 : Fl zc_Text 20 2 1 := ⟨zc_Row, zt_Row, 2, rfl, by decide, zv_Row, Or.inr ⟨trivial, (tm_1 _ (List.mem_of_getElem? (i := 99) rfl))⟩⟩
theorem fl_Mind_82 : Fl zc_Mind 82 2 1 := ⟨zc_Row, zt_Row, 2, rfl, by decide, zv_Row, Or.inr ⟨trivial, (tm_1 _ (List.mem_of_getElem? (i := 100) rfl))⟩⟩
theorem fl_Vol_270 : Fl zc_Vol 270 2 1 := ⟨zc_Row, zt_Row, 2, rfl, by decide, zv_Row, Or.inr ⟨trivial, (tm_1 _ (List.mem_of_getElem? (i := 101) rfl))⟩⟩
theorem fl_Vol_59 : Fl zc_Vol 59 4 0 := ⟨zc_Text, zt_Text, 1, rfl, by decide, zv_Text, Or.inr ⟨trivial, (tm_1 _ (List.mem_of_getElem? (i := 108) rfl))⟩⟩
theorem cw_Vol_248 : Cond.constant zc_Vol 248 (Int32.ofInt 1000000000) ∈ lw_tbl := (tm_3 _ (List.mem_of_getElem? (i := 161) (by decide +kernel)))
theorem cg_Vol_248 : goodWord (Cond.constant zc_Vol 248 (Int32.ofInt 1000000000)) = true := by decide +kernel
theorem cw_Mind_114 : Cond.constant zc_Mind 114 (Int32.ofInt 1664525) ∈ lw_tbl := (tm_4 _ (List.mem_of_getElem? (i := 12) (by decide +kernel)))
theorem cg_Mind_114 : goodWord (Cond.constant zc_Mind 114 (Int32.ofInt 1664525)) = true := by decide +kernel
theorem cw_Mind_115 : Cond.constant zc_Mind 115 (Int32.ofInt 1013904223) ∈ lw_tbl := (tm_4 _ (List.mem_of_getElem? (i := 13) (by decide +kernel)))
theorem cg_Mind_115 : goodWord (Cond.constant zc_Mind 115 (Int32.ofInt 1013904223)) = true := by decide +kernel
theorem cw_Mind_116 : Cond.constant zc_Mind 116 (Int32.ofInt 2147483647) ∈ lw_tbl := (tm_4 _ (List.mem_of_getElem? (i := 14) (by decide +kernel)))
theorem cg_Mind_116 : goodWord (Cond.constant zc_Mind 116 (Int32.ofInt 2147483647)) = true := by decide +kernel
theorem cw_Mod_165 : Cond.constant zc_Mod 165 (Int32.ofInt 1000000) ∈ lw_tbl := (tm_4 _ (List.mem_of_getElem? (i := 230) (by decide +kernel)))
theorem cg_Mod_165 : goodWord (Cond.constant zc_Mod 165 (Int32.ofInt 1000000)) = true := by decide +kernel
theorem cw_Mod_55 : Cond.constant zc_Mod 55 (Int32.ofInt 1000000000) ∈ lw_tbl := (tm_6 _ (List.mem_of_getElem? (i := 54) (by decide +kernel)))
theorem cg_Mod_55 : goodWord (Cond.constant zc_Mod 55 (Int32.ofInt 1000000000)) = true := by decide +kernel
theorem cw_Mod_358 : Cond.constant zc_Mod 358 (Int32.ofInt 1664525) ∈ lw_tbl := (tm_6 _ (List.mem_of_getElem? (i := 118) (by decide +kernel)))
theorem cg_Mod_358 : goodWord (Cond.constant zc_Mod 358 (Int32.ofInt 1664525)) = true := by decide +kernel
theorem cw_Mod_359 : Cond.constant zc_Mod 359 (Int32.ofInt 1013904223) ∈ lw_tbl := (tm_6 _ (List.mem_of_getElem? (i := 119) (by decide +kernel)))
theorem cg_Mod_359 : goodWord (Cond.constant zc_Mod 359 (Int32.ofInt 1013904223)) = true := by decide +kernel
theorem cw_Mod_360 : Cond.constant zc_Mod 360 (Int32.ofInt 2147483647) ∈ lw_tbl := (tm_6 _ (List.mem_of_getElem? (i := 120) (by decide +kernel)))
theorem cg_Mod_360 : goodWord (Cond.constant zc_Mod 360 (Int32.ofInt 2147483647)) = true := by decide +kernel
theorem cw_Vol_252 : Cond.constantLong zc_Vol 252 (Int64.ofInt 4000000000000000000) ∈ lw_tbl := (tm_3 _ (List.mem_of_getElem? (i := 175) (by decide +kernel)))
theorem cg_Vol_252 : goodWord (Cond.constantLong zc_Vol 252 (Int64.ofInt 4000000000000000000)) = true := by decide +kernel
theorem cw_Mod_56 : Cond.constantLong zc_Mod 56 (Int64.ofInt 4000000000000000000) ∈ lw_tbl := (tm_6 _ (List.mem_of_getElem? (i := 63) (by decide +kernel)))
theorem cg_Mod_56 : goodWord (Cond.constantLong zc_Mod 56 (Int64.ofInt 4000000000000000000)) = true := by decide +kernel
