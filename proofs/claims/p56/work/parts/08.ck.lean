theorem zmem {w : Cond} (i : Nat) (h : lw_tbl[i]? = some w) (hg : goodWord w = true) : w ∈ zGL := List.mem_filter.mpr ⟨List.mem_of_getElem? h, hg⟩
theorem zmemN {w : Cond} (i : Nat) (h : lw_tbl[i]? = some w) (hg : zNest w = true) : w ∈ zNL := List.mem_filter.mpr ⟨List.mem_of_getElem? h, hg⟩
theorem zmems {ws : List Cond} (is : List Nat) (h : ws = is.filterMap (fun i => lw_tbl[i]?)) (hg : ws.all goodWord = true) : ∀ w ∈ ws, w ∈ zGL := by
  intro w hw
  have h1 := List.all_eq_true.mp hg w hw
  rw [h] at hw
  obtain ⟨i, -, hi⟩ := List.mem_filterMap.mp hw
  exact zmem i hi h1
theorem ck_0 : zck 0 RX0 TX0 4 tyX0 := ⟨rfl, by decide, zmems [196, 198, 200, 202] (by decide +kernel) (by decide +kernel), tyX0_ok, nmX0, rfl⟩
theorem ck_1 : zck 1 RX1 TX1 3 tyX1 := ⟨rfl, by decide, zmems [463, 465, 467] (by decide +kernel) (by decide +kernel), tyX1_ok, nmX1, rfl⟩
theorem ck_2 : zck 2 RX2 TX2 2 tyX2 := ⟨rfl, by decide, zmems [180, 182] (by decide +kernel) (by decide +kernel), tyX2_ok, nmX2, rfl⟩
theorem ck_3 : zck 3 RX3 TX3 17 tyX3 := ⟨rfl, by decide, zmems [416, 418, 420, 422, 424, 426, 428, 430, 432, 434, 436, 438, 440, 442, 444, 446, 448] (by decide +kernel) (by decide +kernel), tyX3_ok, nmX3, rfl⟩
theorem ck_4 : zck 4 RX4 TX4 8 tyX4 := ⟨rfl, by decide, zmems [295, 297, 299, 301, 303, 305, 307, 309] (by decide +kernel) (by decide +kernel), tyX4_ok, nmX4, rfl⟩
theorem ck_5 : zck 5 RX5 TX5 3 tyX5 := ⟨rfl, by decide, zmems [111, 113, 115] (by decide +kernel) (by decide +kernel), tyX5_ok, nmX5, rfl⟩
theorem ck_6 : zck 6 RX6 TX6 8 tyX6 := ⟨rfl, by decide, zmems [245, 247, 249, 251, 253, 255, 257, 259] (by decide +kernel) (by decide +kernel), tyX6_ok, nmX6, rfl⟩
theorem ck_7 : zck 7 RX7 TX7 4 tyX7 := ⟨rfl, by decide, zmems [328, 330, 332, 334] (by decide +kernel) (by decide +kernel), tyX7_ok, nmX7, rfl⟩
theorem ck_8 : zck 8 RX8 TX8 4 tyX8 := ⟨rfl, by decide, zmems [348, 350, 352, 354] (by decide +kernel) (by decide +kernel), tyX8_ok, nmX8, rfl⟩
theorem ck_9 : zck 9 RX9 TX9 2 tyX9 := ⟨rfl, by decide, zmems [75, 77] (by decide +kernel) (by decide +kernel), tyX9_ok, nmX9, rfl⟩
theorem ck_10 : zck 10 RX10 TX10 4 tyX10 := ⟨rfl, by decide, zmems [99, 101, 103, 105] (by decide +kernel) (by decide +kernel), tyX10_ok, nmX10, rfl⟩
theorem ck_11 : zck 11 RX11 TX11 9 tyX11 := ⟨rfl, by decide, zmems [479, 481, 483, 485, 487, 489, 491, 493, 495] (by decide +kernel) (by decide +kernel), tyX11_ok, nmX11, rfl⟩
theorem ck_12 : zck 12 RJ0 TJ0 4 tyJ0 := ⟨rfl, by decide, zmems [1125, 1127, 1129, 1131] (by decide +kernel) (by decide +kernel), tyJ0_ok, nmJ0, rfl⟩
theorem ck_13 : zck 13 RJ4 TJ4 4 tyJ4 := ⟨rfl, by decide, zmems [140, 142, 144, 146] (by decide +kernel) (by decide +kernel), tyJ4_ok, nmJ4, rfl⟩
