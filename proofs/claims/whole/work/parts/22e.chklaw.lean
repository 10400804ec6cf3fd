def pm_seg (m a k : Nat) : Bool := ((pm_cd' m).drop a |>.take k).all (pm_chkE m)
theorem ckl_0 : pm_seg 282 0 60 = true := by decide +kernel
theorem ckl_60 : pm_seg 282 60 60 = true := by decide +kernel
theorem ckl_120 : pm_seg 282 120 60 = true := by decide +kernel
theorem ckl_180 : pm_seg 282 180 60 = true := by decide +kernel
theorem ckl_240 : pm_seg 282 240 60 = true := by decide +kernel
theorem ckl_300 : pm_seg 282 300 60 = true := by decide +kernel
theorem ckl_360 : pm_seg 282 360 60 = true := by decide +kernel
theorem ckl_420 : pm_seg 282 420 60 = true := by decide +kernel
theorem ckl_480 : pm_seg 282 480 60 = true := by decide +kernel
theorem ckl_540 : pm_seg 282 540 60 = true := by decide +kernel
theorem ckl_600 : pm_seg 282 600 60 = true := by decide +kernel
theorem ckl_660 : pm_seg 282 660 60 = true := by decide +kernel
theorem ckl_720 : pm_seg 282 720 60 = true := by decide +kernel
theorem ckl_780 : pm_seg 282 780 60 = true := by decide +kernel
theorem ckl_840 : pm_seg 282 840 60 = true := by decide +kernel
theorem ckl_900 : pm_seg 282 900 60 = true := by decide +kernel
theorem ckl_960 : pm_seg 282 960 60 = true := by decide +kernel
theorem ckl_1020 : pm_seg 282 1020 60 = true := by decide +kernel
theorem ckl_1080 : pm_seg 282 1080 60 = true := by decide +kernel
theorem ckl_1140 : pm_seg 282 1140 60 = true := by decide +kernel
theorem ckl_1200 : pm_seg 282 1200 60 = true := by decide +kernel
theorem ckl_1260 : pm_seg 282 1260 60 = true := by decide +kernel
theorem ckl_1320 : pm_seg 282 1320 60 = true := by decide +kernel
theorem ckl_1380 : pm_seg 282 1380 60 = true := by decide +kernel
theorem ckl_1440 : pm_seg 282 1440 60 = true := by decide +kernel
theorem ckl_1500 : pm_seg 282 1500 60 = true := by decide +kernel
theorem ckl_1560 : pm_seg 282 1560 60 = true := by decide +kernel
theorem pm_seg_at {m a k : Nat} (h : pm_seg m a k = true) {i : Nat} {e : pm_E} (he : (pm_cd' m)[i]? = some e) (h1 : a ≤ i) (h2 : i < a + k) : pm_eok 283 pm_st9 pm_nc9 m e := by
  refine pm_chkE_ok (List.all_eq_true.mp h e (List.mem_of_getElem? (i := i - a) ?_))
  rw [List.getElem?_take, if_pos (by omega), List.getElem?_drop, show a + (i - a) = i by omega]
  exact he
theorem ck_law (k : Nat) (e : pm_E) (he : (pm_cd' 282)[k]? = some e) : pm_eok 283 pm_st9 pm_nc9 282 e := by
  have hk : k < 1572 := by
    have h := (List.getElem?_eq_some_iff.mp he).1
    have h2 : (pm_cd' 282).length = 1572 := by decide +kernel
    omega
  by_cases h0 : k < 60
  · exact pm_seg_at ckl_0 he (by omega) (by omega)
  by_cases h60 : k < 120
  · exact pm_seg_at ckl_60 he (by omega) (by omega)
  by_cases h120 : k < 180
  · exact pm_seg_at ckl_120 he (by omega) (by omega)
  by_cases h180 : k < 240
  · exact pm_seg_at ckl_180 he (by omega) (by omega)
  by_cases h240 : k < 300
  · exact pm_seg_at ckl_240 he (by omega) (by omega)
  by_cases h300 : k < 360
  · exact pm_seg_at ckl_300 he (by omega) (by omega)
  by_cases h360 : k < 420
  · exact pm_seg_at ckl_360 he (by omega) (by omega)
  by_cases h420 : k < 480
  · exact pm_seg_at ckl_420 he (by omega) (by omega)
  by_cases h480 : k < 540
  · exact pm_seg_at ckl_480 he (by omega) (by omega)
  by_cases h540 : k < 600
  · exact pm_seg_at ckl_540 he (by omega) (by omega)
  by_cases h600 : k < 660
  · exact pm_seg_at ckl_600 he (by omega) (by omega)
  by_cases h660 : k < 720
  · exact pm_seg_at ckl_660 he (by omega) (by omega)
  by_cases h720 : k < 780
  · exact pm_seg_at ckl_720 he (by omega) (by omega)
  by_cases h780 : k < 840
  · exact pm_seg_at ckl_780 he (by omega) (by omega)
  by_cases h840 : k < 900
  · exact pm_seg_at ckl_840 he (by omega) (by omega)
  by_cases h900 : k < 960
  · exact pm_seg_at ckl_900 he (by omega) (by omega)
  by_cases h960 : k < 1020
  · exact pm_seg_at ckl_960 he (by omega) (by omega)
  by_cases h1020 : k < 1080
  · exact pm_seg_at ckl_1020 he (by omega) (by omega)
  by_cases h1080 : k < 1140
  · exact pm_seg_at ckl_1080 he (by omega) (by omega)
  by_cases h1140 : k < 1200
  · exact pm_seg_at ckl_1140 he (by omega) (by omega)
  by_cases h1200 : k < 1260
  · exact pm_seg_at ckl_1200 he (by omega) (by omega)
  by_cases h1260 : k < 1320
  · exact pm_seg_at ckl_1260 he (by omega) (by omega)
  by_cases h1320 : k < 1380
  · exact pm_seg_at ckl_1320 he (by omega) (by omega)
  by_cases h1380 : k < 1440
  · exact pm_seg_at ckl_1380 he (by omega) (by omega)
  by_cases h1440 : k < 1500
  · exact pm_seg_at ckl_1440 he (by omega) (by omega)
  by_cases h1500 : k < 1560
  · exact pm_seg_at ckl_1500 he (by omega) (by omega)
  by_cases h1560 : k < 1620
  · exact pm_seg_at ckl_1560 he (by omega) (by omega)
  omega
