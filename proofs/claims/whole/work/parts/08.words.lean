theorem uwX0 : ∀ q ∈ u_ws RX0 TX0 5, q ∈ tw := by
  intro q hq
  obtain ⟨k, hk, rfl⟩ := List.mem_map.mp hq
  have hk := List.mem_range.mp hk
  rcases (show k = 0 ∨ k = 1 ∨ k = 2 ∨ k = 3 ∨ k = 4 by omega) with rfl | rfl | rfl | rfl | rfl
  · exact tw_in (List.mem_of_getElem? (i := 113) (by decide +kernel)) rfl
  · exact tw_in (List.mem_of_getElem? (i := 115) (by decide +kernel)) rfl
  · exact tw_in (List.mem_of_getElem? (i := 117) (by decide +kernel)) rfl
  · exact tw_in (List.mem_of_getElem? (i := 119) (by decide +kernel)) rfl
  · exact tw_in (List.mem_of_getElem? (i := 121) (by decide +kernel)) rfl
theorem uwX1 : ∀ q ∈ u_ws RX1 TX1 3, q ∈ tw := by
  intro q hq
  obtain ⟨k, hk, rfl⟩ := List.mem_map.mp hq
  have hk := List.mem_range.mp hk
  rcases (show k = 0 ∨ k = 1 ∨ k = 2 by omega) with rfl | rfl | rfl
  · exact tw_in (List.mem_of_getElem? (i := 204) (by decide +kernel)) rfl
  · exact tw_in (List.mem_of_getElem? (i := 206) (by decide +kernel)) rfl
  · exact tw_in (List.mem_of_getElem? (i := 208) (by decide +kernel)) rfl
theorem uwX2 : ∀ q ∈ u_ws RX2 TX2 4, q ∈ tw := by
  intro q hq
  obtain ⟨k, hk, rfl⟩ := List.mem_map.mp hq
  have hk := List.mem_range.mp hk
  rcases (show k = 0 ∨ k = 1 ∨ k = 2 ∨ k = 3 by omega) with rfl | rfl | rfl | rfl
  · exact tw_in (List.mem_of_getElem? (i := 171) (by decide +kernel)) rfl
  · exact tw_in (List.mem_of_getElem? (i := 173) (by decide +kernel)) rfl
  · exact tw_in (List.mem_of_getElem? (i := 175) (by decide +kernel)) rfl
  · exact tw_in (List.mem_of_getElem? (i := 177) (by decide +kernel)) rfl
theorem uwX3 : ∀ q ∈ u_ws RX3 TX3 3, q ∈ tw := by
  intro q hq
  obtain ⟨k, hk, rfl⟩ := List.mem_map.mp hq
  have hk := List.mem_range.mp hk
  rcases (show k = 0 ∨ k = 1 ∨ k = 2 by omega) with rfl | rfl | rfl
  · exact tw_in (List.mem_of_getElem? (i := 136) (by decide +kernel)) rfl
  · exact tw_in (List.mem_of_getElem? (i := 138) (by decide +kernel)) rfl
  · exact tw_in (List.mem_of_getElem? (i := 140) (by decide +kernel)) rfl
theorem uwX4 : ∀ q ∈ u_ws RX4 TX4 2, q ∈ tw := by
  intro q hq
  obtain ⟨k, hk, rfl⟩ := List.mem_map.mp hq
  have hk := List.mem_range.mp hk
  rcases (show k = 0 ∨ k = 1 by omega) with rfl | rfl
  · exact tw_in (List.mem_of_getElem? (i := 190) (by decide +kernel)) rfl
  · exact tw_in (List.mem_of_getElem? (i := 192) (by decide +kernel)) rfl
theorem uwX5 : ∀ q ∈ u_ws RX5 TX5 3, q ∈ tw := by
  intro q hq
  obtain ⟨k, hk, rfl⟩ := List.mem_map.mp hq
  have hk := List.mem_range.mp hk
  rcases (show k = 0 ∨ k = 1 ∨ k = 2 by omega) with rfl | rfl | rfl
  · exact tw_in (List.mem_of_getElem? (i := 153) (by decide +kernel)) rfl
  · exact tw_in (List.mem_of_getElem? (i := 155) (by decide +kernel)) rfl
  · exact tw_in (List.mem_of_getElem? (i := 157) (by decide +kernel)) rfl
theorem uwX6 : ∀ q ∈ u_ws RX6 TX6 3, q ∈ tw := by
  intro q hq
  obtain ⟨k, hk, rfl⟩ := List.mem_map.mp hq
  have hk := List.mem_range.mp hk
  rcases (show k = 0 ∨ k = 1 ∨ k = 2 by omega) with rfl | rfl | rfl
  · exact tw_in (List.mem_of_getElem? (i := 94) (by decide +kernel)) rfl
  · exact tw_in (List.mem_of_getElem? (i := 96) (by decide +kernel)) rfl
  · exact tw_in (List.mem_of_getElem? (i := 98) (by decide +kernel)) rfl
theorem uwX7 : ∀ q ∈ u_ws RX7 TX7 9, q ∈ tw := by
  intro q hq
  obtain ⟨k, hk, rfl⟩ := List.mem_map.mp hq
  have hk := List.mem_range.mp hk
  rcases (show k = 0 ∨ k = 1 ∨ k = 2 ∨ k = 3 ∨ k = 4 ∨ k = 5 ∨ k = 6 ∨ k = 7 ∨ k = 8 by omega) with rfl | rfl | rfl | rfl | rfl | rfl | rfl | rfl | rfl
  · exact tw_in (List.mem_of_getElem? (i := 220) (by decide +kernel)) rfl
  · exact tw_in (List.mem_of_getElem? (i := 222) (by decide +kernel)) rfl
  · exact tw_in (List.mem_of_getElem? (i := 224) (by decide +kernel)) rfl
  · exact tw_in (List.mem_of_getElem? (i := 226) (by decide +kernel)) rfl
  · exact tw_in (List.mem_of_getElem? (i := 228) (by decide +kernel)) rfl
  · exact tw_in (List.mem_of_getElem? (i := 230) (by decide +kernel)) rfl
  · exact tw_in (List.mem_of_getElem? (i := 232) (by decide +kernel)) rfl
  · exact tw_in (List.mem_of_getElem? (i := 234) (by decide +kernel)) rfl
  · exact tw_in (List.mem_of_getElem? (i := 236) (by decide +kernel)) rfl
theorem uwX8 : ∀ q ∈ u_ws RX8 TX8 19, q ∈ tw := by
  intro q hq
  obtain ⟨k, hk, rfl⟩ := List.mem_map.mp hq
  have hk := List.mem_range.mp hk
  rcases (show k = 0 ∨ k = 1 ∨ k = 2 ∨ k = 3 ∨ k = 4 ∨ k = 5 ∨ k = 6 ∨ k = 7 ∨ k = 8 ∨ k = 9 ∨ k = 10 ∨ k = 11 ∨ k = 12 ∨ k = 13 ∨ k = 14 ∨ k = 15 ∨ k = 16 ∨ k = 17 ∨ k = 18 by omega) with rfl | rfl | rfl | rfl | rfl | rfl | rfl | rfl | rfl | rfl | rfl | rfl | rfl | rfl | rfl | rfl | rfl | rfl | rfl
  · exact tw_in (List.mem_of_getElem? (i := 842) (by decide +kernel)) rfl
  · exact tw_in (List.mem_of_getElem? (i := 844) (by decide +kernel)) rfl
  · exact tw_in (List.mem_of_getElem? (i := 846) (by decide +kernel)) rfl
  · exact tw_in (List.mem_of_getElem? (i := 848) (by decide +kernel)) rfl
  · exact tw_in (List.mem_of_getElem? (i := 850) (by decide +kernel)) rfl
  · exact tw_in (List.mem_of_getElem? (i := 852) (by decide +kernel)) rfl
  · exact tw_in (List.mem_of_getElem? (i := 854) (by decide +kernel)) rfl
  · exact tw_in (List.mem_of_getElem? (i := 856) (by decide +kernel)) rfl
  · exact tw_in (List.mem_of_getElem? (i := 858) (by decide +kernel)) rfl
  · exact tw_in (List.mem_of_getElem? (i := 860) (by decide +kernel)) rfl
  · exact tw_in (List.mem_of_getElem? (i := 862) (by decide +kernel)) rfl
  · exact tw_in (List.mem_of_getElem? (i := 864) (by decide +kernel)) rfl
  · exact tw_in (List.mem_of_getElem? (i := 866) (by decide +kernel)) rfl
  · exact tw_in (List.mem_of_getElem? (i := 868) (by decide +kernel)) rfl
  · exact tw_in (List.mem_of_getElem? (i := 870) (by decide +kernel)) rfl
  · exact tw_in (List.mem_of_getElem? (i := 872) (by decide +kernel)) rfl
  · exact tw_in (List.mem_of_getElem? (i := 874) (by decide +kernel)) rfl
  · exact tw_in (List.mem_of_getElem? (i := 876) (by decide +kernel)) rfl
  · exact tw_in (List.mem_of_getElem? (i := 878) (by decide +kernel)) rfl
theorem kK0 : kd 0 = 7 := by decide +kernel
theorem kK1 : kd 1 = 6 := by decide +kernel
theorem kK2 : kd 2 = 9 := by decide +kernel
theorem lK2 : ln 2 = 130 := by decide +kernel
theorem kK3 : kd 3 = 0 := by decide +kernel
theorem kK6 : kd 6 = 0 := by decide +kernel
theorem kK9 : kd 9 = 3 := by decide +kernel
theorem kK10 : kd 10 = 12 := by decide +kernel
theorem lK10 : ln 10 = 24 := by decide +kernel
theorem kK83 : kd 83 = 12 := by decide +kernel
theorem lK83 : ln 83 = 2 := by decide +kernel
theorem kK90 : kd 90 = 13 := by decide +kernel
theorem lK90 : ln 90 = 4 := by decide +kernel
theorem kK99 : kd 99 = 2 := by decide +kernel
theorem kK100 : kd 100 = 9 := by decide +kernel
theorem lK100 : ln 100 = 48 := by decide +kernel
theorem kK101 : kd 101 = 9 := by decide +kernel
theorem lK101 : ln 101 = 576 := by decide +kernel
theorem kK102 : kd 102 = 9 := by decide +kernel
theorem lK102 : ln 102 = 8 := by decide +kernel
theorem kK103 : kd 103 = 4 := by decide +kernel
theorem kK104 : kd 104 = 12 := by decide +kernel
theorem lK104 : ln 104 = 3 := by decide +kernel
theorem kK114 : kd 114 = 9 := by decide +kernel
theorem lK114 : ln 114 = 12 := by decide +kernel
theorem kK115 : kd 115 = 1 := by decide +kernel
theorem kK116 : kd 116 = 9 := by decide +kernel
theorem lK116 : ln 116 = 100 := by decide +kernel
theorem kK117 : kd 117 = 8 := by decide +kernel
theorem kK118 : kd 118 = 9 := by decide +kernel
theorem lK118 : ln 118 = 4 := by decide +kernel
theorem kK119 : kd 119 = 9 := by decide +kernel
theorem lK119 : ln 119 = 4 := by decide +kernel
theorem kK120 : kd 120 = 10 := by decide +kernel
theorem lK120 : ln 120 = 96 := by decide +kernel
theorem kK121 : kd 121 = 9 := by decide +kernel
theorem lK121 : ln 121 = 130 := by decide +kernel
theorem kK122 : kd 122 = 9 := by decide +kernel
theorem lK122 : ln 122 = 83 := by decide +kernel
theorem kK123 : kd 123 = 9 := by decide +kernel
theorem lK123 : ln 123 = 83 := by decide +kernel
theorem kK124 : kd 124 = 9 := by decide +kernel
theorem lK124 : ln 124 = 83 := by decide +kernel
theorem kK125 : kd 125 = 9 := by decide +kernel
theorem lK125 : ln 125 = 166 := by decide +kernel
theorem kK126 : kd 126 = 11 := by decide +kernel
theorem lK126 : ln 126 = 2 := by decide +kernel
theorem kK127 : kd 127 = 9 := by decide +kernel
theorem lK127 : ln 127 = 1992 := by decide +kernel
theorem kK128 : kd 128 = 9 := by decide +kernel
theorem lK128 : ln 128 = 576 := by decide +kernel
theorem kK129 : kd 129 = 9 := by decide +kernel
theorem lK129 : ln 129 = 10 := by decide +kernel
theorem kK130 : kd 130 = 9 := by decide +kernel
theorem lK130 : ln 130 = 10 := by decide +kernel
theorem kK131 : kd 131 = 9 := by decide +kernel
theorem lK131 : ln 131 = 3 := by decide +kernel
theorem kK132 : kd 132 = 9 := by decide +kernel
theorem lK132 : ln 132 = 10 := by decide +kernel
theorem pK0_0 : Pst 0 0 = some 1 := by decide +kernel
theorem pK0_1 : Pst 0 1 = some 3 := by decide +kernel
theorem pK0_2 : Pst 0 2 = some 6 := by decide +kernel
theorem pK0_3 : Pst 0 3 = some 9 := by decide +kernel
theorem pK0_4 : Pst 0 4 = some 83 := by decide +kernel
theorem pK0_5 : Pst 0 5 = some 90 := by decide +kernel
theorem pK0_6 : Pst 0 6 = some 99 := by decide +kernel
theorem pK0_7 : Pst 0 7 = some 103 := by decide +kernel
theorem pK0_8 : Pst 0 8 = some 115 := by decide +kernel
theorem pK1_0 : Pst 1 0 = some 2 := by decide +kernel
theorem pK9_0 : Pst 9 0 = some 10 := by decide +kernel
theorem pK99_0 : Pst 99 0 = some 100 := by decide +kernel
theorem pK99_1 : Pst 99 1 = some 101 := by decide +kernel
theorem pK99_2 : Pst 99 2 = some 102 := by decide +kernel
theorem pK103_0 : Pst 103 0 = some 104 := by decide +kernel
theorem pK103_1 : Pst 103 1 = some 114 := by decide +kernel
theorem pK115_0 : Pst 115 0 = some 116 := by decide +kernel
theorem pK117_0 : Pst 117 0 = some 118 := by decide +kernel
theorem pK117_1 : Pst 117 1 = some 119 := by decide +kernel
theorem pK117_2 : Pst 117 2 = some 120 := by decide +kernel
theorem pK117_4 : Pst 117 4 = some 121 := by decide +kernel
theorem pK117_6 : Pst 117 6 = some 122 := by decide +kernel
theorem pK117_7 : Pst 117 7 = some 123 := by decide +kernel
theorem pK117_8 : Pst 117 8 = some 124 := by decide +kernel
theorem pK117_9 : Pst 117 9 = some 125 := by decide +kernel
theorem pK117_10 : Pst 117 10 = some 126 := by decide +kernel
theorem pK117_11 : Pst 117 11 = some 127 := by decide +kernel
theorem pK117_13 : Pst 117 13 = some 128 := by decide +kernel
theorem pK117_14 : Pst 117 14 = some 129 := by decide +kernel
theorem pK117_15 : Pst 117 15 = some 130 := by decide +kernel
theorem pK117_16 : Pst 117 16 = some 131 := by decide +kernel
theorem pK117_18 : Pst 117 18 = some 132 := by decide +kernel
theorem pnJ10 : plainName RJ10 = true := by decide +kernel
theorem pnJ6 : plainName RJ6 = true := by decide +kernel
theorem pnJ7 : plainName RJ7 = true := by decide +kernel
theorem pnX0 : plainName RX0 = true := by decide +kernel
theorem pnX1 : plainName RX1 = true := by decide +kernel
theorem pnX2 : plainName RX2 = true := by decide +kernel
theorem pnX3 : plainName RX3 = true := by decide +kernel
theorem pnX4 : plainName RX4 = true := by decide +kernel
theorem pnX5 : plainName RX5 = true := by decide +kernel
theorem pnX6 : plainName RX6 = true := by decide +kernel
theorem pnX7 : plainName RX7 = true := by decide +kernel
theorem pnX8 : plainName RX8 = true := by decide +kernel
theorem wC_J6_265 : Cond.constant RJ6 265 (1431655765) ∈ tw := tw_in (List.mem_of_getElem? (i := 670) (by decide +kernel)) rfl
theorem wC_J6_266 : Cond.constant RJ6 266 (858993459) ∈ tw := tw_in (List.mem_of_getElem? (i := 671) (by decide +kernel)) rfl
theorem wC_J6_267 : Cond.constant RJ6 267 (252645135) ∈ tw := tw_in (List.mem_of_getElem? (i := 672) (by decide +kernel)) rfl
theorem wC_X7_193 : Cond.constant RX7 193 (999999) ∈ tw := tw_in (List.mem_of_getElem? (i := 651) (by decide +kernel)) rfl
theorem wC_X8_199 : Cond.constant RX8 199 (999999) ∈ tw := tw_in (List.mem_of_getElem? (i := 1104) (by decide +kernel)) rfl
theorem wF_X7_97 : Cond.fieldLink RX7 97 RX7 "KIND_OVER" "[I" ∈ tw := tw_in (List.mem_of_getElem? (i := 365) (by decide +kernel)) rfl
theorem wJ_X7_225 : Cond.constantLong RX7 225 (-13) ∈ tw := tw_in (List.mem_of_getElem? (i := 723) (by decide +kernel)) rfl
theorem wJ_X7_275 : Cond.constantLong RX7 275 (9) ∈ tw := tw_in (List.mem_of_getElem? (i := 758) (by decide +kernel)) rfl
theorem wJ_X7_292 : Cond.constantLong RX7 292 (16807) ∈ tw := tw_in (List.mem_of_getElem? (i := 656) (by decide +kernel)) rfl
theorem wJ_X7_294 : Cond.constantLong RX7 294 (2147483647) ∈ tw := tw_in (List.mem_of_getElem? (i := 657) (by decide +kernel)) rfl
theorem wJ_X7_296 : Cond.constantLong RX7 296 (16) ∈ tw := tw_in (List.mem_of_getElem? (i := 658) (by decide +kernel)) rfl
theorem wJ_X8_200 : Cond.constantLong RX8 200 (16807) ∈ tw := tw_in (List.mem_of_getElem? (i := 1105) (by decide +kernel)) rfl
theorem wJ_X8_202 : Cond.constantLong RX8 202 (2147483647) ∈ tw := tw_in (List.mem_of_getElem? (i := 1106) (by decide +kernel)) rfl
theorem wJ_X8_204 : Cond.constantLong RX8 204 (16) ∈ tw := tw_in (List.mem_of_getElem? (i := 1107) (by decide +kernel)) rfl
theorem wJ_X8_219 : Cond.constantLong RX8 219 (-1) ∈ tw := tw_in (List.mem_of_getElem? (i := 1129) (by decide +kernel)) rfl
theorem wJ_X8_232 : Cond.constantLong RX8 232 (9) ∈ tw := tw_in (List.mem_of_getElem? (i := 1160) (by decide +kernel)) rfl
theorem flX0_15 : FL RX0 15 0 1 := ⟨RX0, TX0, 5, rfl, by decide, tw_in (List.mem_of_getElem? (i := 109) (by decide +kernel)) rfl, uwX0⟩
theorem flX0_18 : FL RX0 18 0 2 := ⟨RX0, TX0, 5, rfl, by decide, tw_in (List.mem_of_getElem? (i := 110) (by decide +kernel)) rfl, uwX0⟩
theorem flX0_22 : FL RX0 22 0 3 := ⟨RX0, TX0, 5, rfl, by decide, tw_in (List.mem_of_getElem? (i := 111) (by decide +kernel)) rfl, uwX0⟩
theorem flX0_25 : FL RX0 25 0 4 := ⟨RX0, TX0, 5, rfl, by decide, tw_in (List.mem_of_getElem? (i := 112) (by decide +kernel)) rfl, uwX0⟩
theorem flX0_9 : FL RX0 9 0 0 := ⟨RX0, TX0, 5, rfl, by decide, tw_in (List.mem_of_getElem? (i := 108) (by decide +kernel)) rfl, uwX0⟩
theorem flX1_11 : FL RX1 11 1 0 := ⟨RX1, TX1, 3, rfl, by decide, tw_in (List.mem_of_getElem? (i := 201) (by decide +kernel)) rfl, uwX1⟩
theorem flX1_15 : FL RX1 15 1 1 := ⟨RX1, TX1, 3, rfl, by decide, tw_in (List.mem_of_getElem? (i := 202) (by decide +kernel)) rfl, uwX1⟩
theorem flX1_19 : FL RX1 19 1 2 := ⟨RX1, TX1, 3, rfl, by decide, tw_in (List.mem_of_getElem? (i := 203) (by decide +kernel)) rfl, uwX1⟩
theorem flX2_15 : FL RX2 15 2 1 := ⟨RX2, TX2, 4, rfl, by decide, tw_in (List.mem_of_getElem? (i := 168) (by decide +kernel)) rfl, uwX2⟩
theorem flX2_18 : FL RX2 18 2 2 := ⟨RX2, TX2, 4, rfl, by decide, tw_in (List.mem_of_getElem? (i := 169) (by decide +kernel)) rfl, uwX2⟩
theorem flX2_21 : FL RX2 21 2 3 := ⟨RX2, TX2, 4, rfl, by decide, tw_in (List.mem_of_getElem? (i := 170) (by decide +kernel)) rfl, uwX2⟩
theorem flX2_9 : FL RX2 9 2 0 := ⟨RX2, TX2, 4, rfl, by decide, tw_in (List.mem_of_getElem? (i := 167) (by decide +kernel)) rfl, uwX2⟩
theorem flX3_11 : FL RX3 11 3 0 := ⟨RX3, TX3, 3, rfl, by decide, tw_in (List.mem_of_getElem? (i := 133) (by decide +kernel)) rfl, uwX3⟩
theorem flX3_18 : FL RX3 18 3 2 := ⟨RX3, TX3, 3, rfl, by decide, tw_in (List.mem_of_getElem? (i := 135) (by decide +kernel)) rfl, uwX3⟩
theorem flX3_22 : FL RX3 22 3 1 := ⟨RX3, TX3, 3, rfl, by decide, tw_in (List.mem_of_getElem? (i := 134) (by decide +kernel)) rfl, uwX3⟩
theorem flX4_12 : FL RX4 12 4 0 := ⟨RX4, TX4, 2, rfl, by decide, tw_in (List.mem_of_getElem? (i := 188) (by decide +kernel)) rfl, uwX4⟩
theorem flX4_18 : FL RX4 18 4 1 := ⟨RX4, TX4, 2, rfl, by decide, tw_in (List.mem_of_getElem? (i := 189) (by decide +kernel)) rfl, uwX4⟩
theorem flX5_15 : FL RX5 15 5 1 := ⟨RX5, TX5, 3, rfl, by decide, tw_in (List.mem_of_getElem? (i := 151) (by decide +kernel)) rfl, uwX5⟩
theorem flX5_25 : FL RX5 25 5 2 := ⟨RX5, TX5, 3, rfl, by decide, tw_in (List.mem_of_getElem? (i := 152) (by decide +kernel)) rfl, uwX5⟩
theorem flX5_9 : FL RX5 9 5 0 := ⟨RX5, TX5, 3, rfl, by decide, tw_in (List.mem_of_getElem? (i := 150) (by decide +kernel)) rfl, uwX5⟩
theorem flX6_15 : FL RX6 15 6 1 := ⟨RX6, TX6, 3, rfl, by decide, tw_in (List.mem_of_getElem? (i := 92) (by decide +kernel)) rfl, uwX6⟩
theorem flX6_19 : FL RX6 19 6 2 := ⟨RX6, TX6, 3, rfl, by decide, tw_in (List.mem_of_getElem? (i := 93) (by decide +kernel)) rfl, uwX6⟩
theorem flX6_9 : FL RX6 9 6 0 := ⟨RX6, TX6, 3, rfl, by decide, tw_in (List.mem_of_getElem? (i := 91) (by decide +kernel)) rfl, uwX6⟩
theorem flX7_10 : FL RX7 10 7 0 := ⟨RX7, TX7, 9, rfl, by decide, tw_in (List.mem_of_getElem? (i := 211) (by decide +kernel)) rfl, uwX7⟩
theorem flX7_19 : FL RX7 19 7 1 := ⟨RX7, TX7, 9, rfl, by decide, tw_in (List.mem_of_getElem? (i := 212) (by decide +kernel)) rfl, uwX7⟩
theorem flX7_23 : FL RX7 23 7 2 := ⟨RX7, TX7, 9, rfl, by decide, tw_in (List.mem_of_getElem? (i := 213) (by decide +kernel)) rfl, uwX7⟩
theorem flX7_29 : FL RX7 29 7 3 := ⟨RX7, TX7, 9, rfl, by decide, tw_in (List.mem_of_getElem? (i := 214) (by decide +kernel)) rfl, uwX7⟩
theorem flX7_33 : FL RX7 33 7 4 := ⟨RX7, TX7, 9, rfl, by decide, tw_in (List.mem_of_getElem? (i := 215) (by decide +kernel)) rfl, uwX7⟩
theorem flX7_40 : FL RX7 40 7 5 := ⟨RX7, TX7, 9, rfl, by decide, tw_in (List.mem_of_getElem? (i := 216) (by decide +kernel)) rfl, uwX7⟩
theorem flX7_47 : FL RX7 47 7 6 := ⟨RX7, TX7, 9, rfl, by decide, tw_in (List.mem_of_getElem? (i := 217) (by decide +kernel)) rfl, uwX7⟩
theorem flX7_54 : FL RX7 54 7 7 := ⟨RX7, TX7, 9, rfl, by decide, tw_in (List.mem_of_getElem? (i := 218) (by decide +kernel)) rfl, uwX7⟩
theorem flX7_61 : FL RX7 61 7 8 := ⟨RX7, TX7, 9, rfl, by decide, tw_in (List.mem_of_getElem? (i := 219) (by decide +kernel)) rfl, uwX7⟩
theorem flX8_102 : FL RX8 102 8 12 := ⟨RX8, TX8, 19, rfl, by decide, tw_in (List.mem_of_getElem? (i := 835) (by decide +kernel)) rfl, uwX8⟩
theorem flX8_13 : FL RX8 13 8 1 := ⟨RX8, TX8, 19, rfl, by decide, tw_in (List.mem_of_getElem? (i := 824) (by decide +kernel)) rfl, uwX8⟩
theorem flX8_16 : FL RX8 16 8 2 := ⟨RX8, TX8, 19, rfl, by decide, tw_in (List.mem_of_getElem? (i := 825) (by decide +kernel)) rfl, uwX8⟩
theorem flX8_174 : FL RX8 174 8 17 := ⟨RX8, TX8, 19, rfl, by decide, tw_in (List.mem_of_getElem? (i := 840) (by decide +kernel)) rfl, uwX8⟩
theorem flX8_20 : FL RX8 20 8 4 := ⟨RX8, TX8, 19, rfl, by decide, tw_in (List.mem_of_getElem? (i := 827) (by decide +kernel)) rfl, uwX8⟩
theorem flX8_23 : FL RX8 23 8 6 := ⟨RX8, TX8, 19, rfl, by decide, tw_in (List.mem_of_getElem? (i := 829) (by decide +kernel)) rfl, uwX8⟩
theorem flX8_26 : FL RX8 26 8 7 := ⟨RX8, TX8, 19, rfl, by decide, tw_in (List.mem_of_getElem? (i := 830) (by decide +kernel)) rfl, uwX8⟩
theorem flX8_29 : FL RX8 29 8 8 := ⟨RX8, TX8, 19, rfl, by decide, tw_in (List.mem_of_getElem? (i := 831) (by decide +kernel)) rfl, uwX8⟩
theorem flX8_32 : FL RX8 32 8 9 := ⟨RX8, TX8, 19, rfl, by decide, tw_in (List.mem_of_getElem? (i := 832) (by decide +kernel)) rfl, uwX8⟩
theorem flX8_35 : FL RX8 35 8 10 := ⟨RX8, TX8, 19, rfl, by decide, tw_in (List.mem_of_getElem? (i := 833) (by decide +kernel)) rfl, uwX8⟩
theorem flX8_39 : FL RX8 39 8 11 := ⟨RX8, TX8, 19, rfl, by decide, tw_in (List.mem_of_getElem? (i := 834) (by decide +kernel)) rfl, uwX8⟩
theorem flX8_42 : FL RX8 42 8 13 := ⟨RX8, TX8, 19, rfl, by decide, tw_in (List.mem_of_getElem? (i := 836) (by decide +kernel)) rfl, uwX8⟩
theorem flX8_45 : FL RX8 45 8 14 := ⟨RX8, TX8, 19, rfl, by decide, tw_in (List.mem_of_getElem? (i := 837) (by decide +kernel)) rfl, uwX8⟩
theorem flX8_48 : FL RX8 48 8 15 := ⟨RX8, TX8, 19, rfl, by decide, tw_in (List.mem_of_getElem? (i := 838) (by decide +kernel)) rfl, uwX8⟩
theorem flX8_51 : FL RX8 51 8 16 := ⟨RX8, TX8, 19, rfl, by decide, tw_in (List.mem_of_getElem? (i := 839) (by decide +kernel)) rfl, uwX8⟩
theorem flX8_54 : FL RX8 54 8 18 := ⟨RX8, TX8, 19, rfl, by decide, tw_in (List.mem_of_getElem? (i := 841) (by decide +kernel)) rfl, uwX8⟩
theorem flX8_61 : FL RX8 61 8 3 := ⟨RX8, TX8, 19, rfl, by decide, tw_in (List.mem_of_getElem? (i := 826) (by decide +kernel)) rfl, uwX8⟩
theorem flX8_65 : FL RX8 65 8 5 := ⟨RX8, TX8, 19, rfl, by decide, tw_in (List.mem_of_getElem? (i := 828) (by decide +kernel)) rfl, uwX8⟩
theorem flX8_7 : FL RX8 7 8 0 := ⟨RX8, TX8, 19, rfl, by decide, tw_in (List.mem_of_getElem? (i := 823) (by decide +kernel)) rfl, uwX8⟩
theorem fwX0_2 : FW 0 2 := ⟨RX0, TX0, 5, tyX0, rfl, tyX0_ok, nmX0, rfl, by decide +kernel⟩
theorem fwX0_3 : FW 0 3 := ⟨RX0, TX0, 5, tyX0, rfl, tyX0_ok, nmX0, rfl, by decide +kernel⟩
theorem fwX0_4 : FW 0 4 := ⟨RX0, TX0, 5, tyX0, rfl, tyX0_ok, nmX0, rfl, by decide +kernel⟩
theorem fwX1_1 : FW 1 1 := ⟨RX1, TX1, 3, tyX1, rfl, tyX1_ok, nmX1, rfl, by decide +kernel⟩
theorem fwX1_2 : FW 1 2 := ⟨RX1, TX1, 3, tyX1, rfl, tyX1_ok, nmX1, rfl, by decide +kernel⟩
theorem fwX2_3 : FW 2 3 := ⟨RX2, TX2, 4, tyX2, rfl, tyX2_ok, nmX2, rfl, by decide +kernel⟩
theorem fwX3_1 : FW 3 1 := ⟨RX3, TX3, 3, tyX3, rfl, tyX3_ok, nmX3, rfl, by decide +kernel⟩
theorem fwX3_2 : FW 3 2 := ⟨RX3, TX3, 3, tyX3, rfl, tyX3_ok, nmX3, rfl, by decide +kernel⟩
theorem fwX5_1 : FW 5 1 := ⟨RX5, TX5, 3, tyX5, rfl, tyX5_ok, nmX5, rfl, by decide +kernel⟩
theorem fwX5_2 : FW 5 2 := ⟨RX5, TX5, 3, tyX5, rfl, tyX5_ok, nmX5, rfl, by decide +kernel⟩
theorem fwX6_1 : FW 6 1 := ⟨RX6, TX6, 3, tyX6, rfl, tyX6_ok, nmX6, rfl, by decide +kernel⟩
theorem fwX6_2 : FW 6 2 := ⟨RX6, TX6, 3, tyX6, rfl, tyX6_ok, nmX6, rfl, by decide +kernel⟩
theorem fwX8_3 : FW 8 3 := ⟨RX8, TX8, 19, tyX8, rfl, tyX8_ok, nmX8, rfl, by decide +kernel⟩
theorem fwX8_5 : FW 8 5 := ⟨RX8, TX8, 19, tyX8, rfl, tyX8_ok, nmX8, rfl, by decide +kernel⟩
theorem fwX8_12 : FW 8 12 := ⟨RX8, TX8, 19, tyX8, rfl, tyX8_ok, nmX8, rfl, by decide +kernel⟩
theorem fwX8_17 : FW 8 17 := ⟨RX8, TX8, 19, tyX8, rfl, tyX8_ok, nmX8, rfl, by decide +kernel⟩
abbrev qX0_setTrait : MI := (yX0_setTrait, cX0_setTrait, 5, none)
theorem cqX0_setTrait : CQ qX0_setTrait 3 := ⟨tw_in (List.mem_of_getElem? (i := 66) (by decide +kernel)) rfl, tw_in (List.mem_of_getElem? (i := 301) (by decide +kernel)) rfl, by decide +kernel, by decide⟩
theorem cvX0_34 : CV RX0 34 qX0_setTrait 0 3 := ⟨tw_in (List.mem_of_getElem? (i := 298) (by decide +kernel)) rfl, tw_in (List.mem_of_getElem? (i := 299) (by decide +kernel)) rfl, tw_in (List.mem_of_getElem? (i := 300) (by decide +kernel)) rfl, ⟨(RX0, TX0, 5), rfl, rfl⟩, cqX0_setTrait⟩
abbrev qX0_setPart : MI := (yX0_setPart, cX0_setPart, 5, none)
theorem cqX0_setPart : CQ qX0_setPart 3 := ⟨tw_in (List.mem_of_getElem? (i := 66) (by decide +kernel)) rfl, tw_in (List.mem_of_getElem? (i := 321) (by decide +kernel)) rfl, by decide +kernel, by decide⟩
theorem cvX0_38 : CV RX0 38 qX0_setPart 0 3 := ⟨tw_in (List.mem_of_getElem? (i := 318) (by decide +kernel)) rfl, tw_in (List.mem_of_getElem? (i := 319) (by decide +kernel)) rfl, tw_in (List.mem_of_getElem? (i := 320) (by decide +kernel)) rfl, ⟨(RX0, TX0, 5), rfl, rfl⟩, cqX0_setPart⟩
abbrev qX0_part : MI := (yX0_part, cX0_part, 4, (some .int))
theorem cqX0_part : CQ qX0_part 2 := ⟨tw_in (List.mem_of_getElem? (i := 66) (by decide +kernel)) rfl, tw_in (List.mem_of_getElem? (i := 385) (by decide +kernel)) rfl, by decide +kernel, by decide⟩
theorem cvX0_41 : CV RX0 41 qX0_part 0 2 := ⟨tw_in (List.mem_of_getElem? (i := 382) (by decide +kernel)) rfl, tw_in (List.mem_of_getElem? (i := 383) (by decide +kernel)) rfl, tw_in (List.mem_of_getElem? (i := 384) (by decide +kernel)) rfl, ⟨(RX0, TX0, 5), rfl, rfl⟩, cqX0_part⟩
abbrev qX0_trait : MI := (yX0_trait, cX0_trait, 4, (some .int))
theorem cqX0_trait : CQ qX0_trait 2 := ⟨tw_in (List.mem_of_getElem? (i := 66) (by decide +kernel)) rfl, tw_in (List.mem_of_getElem? (i := 360) (by decide +kernel)) rfl, by decide +kernel, by decide⟩
theorem cvX0_45 : CV RX0 45 qX0_trait 0 2 := ⟨tw_in (List.mem_of_getElem? (i := 386) (by decide +kernel)) rfl, tw_in (List.mem_of_getElem? (i := 358) (by decide +kernel)) rfl, tw_in (List.mem_of_getElem? (i := 359) (by decide +kernel)) rfl, ⟨(RX0, TX0, 5), rfl, rfl⟩, cqX0_trait⟩
abbrev qX0_milesOf : MI := (yX0_milesOf, cX0_milesOf, 3, (some .int))
theorem cqX0_milesOf : CQ qX0_milesOf 2 := ⟨tw_in (List.mem_of_getElem? (i := 66) (by decide +kernel)) rfl, tw_in (List.mem_of_getElem? (i := 440) (by decide +kernel)) rfl, by decide +kernel, by decide⟩
theorem cvX0_54 : CV RX0 54 qX0_milesOf 0 2 := ⟨tw_in (List.mem_of_getElem? (i := 437) (by decide +kernel)) rfl, tw_in (List.mem_of_getElem? (i := 439) (by decide +kernel)) rfl, tw_in (List.mem_of_getElem? (i := 12) (by decide +kernel)) rfl, ⟨(RX0, TX0, 5), rfl, rfl⟩, cqX0_milesOf⟩
abbrev qX0_hasWrong : MI := (yX0_hasWrong, cX0_hasWrong, 2, (some .boolean))
theorem cqX0_hasWrong : CQ qX0_hasWrong 1 := ⟨tw_in (List.mem_of_getElem? (i := 66) (by decide +kernel)) rfl, tw_in (List.mem_of_getElem? (i := 377) (by decide +kernel)) rfl, by decide +kernel, by decide⟩
theorem cvX0_61 : CV RX0 61 qX0_hasWrong 0 1 := ⟨tw_in (List.mem_of_getElem? (i := 400) (by decide +kernel)) rfl, tw_in (List.mem_of_getElem? (i := 375) (by decide +kernel)) rfl, tw_in (List.mem_of_getElem? (i := 376) (by decide +kernel)) rfl, ⟨(RX0, TX0, 5), rfl, rfl⟩, cqX0_hasWrong⟩
abbrev qX0_hasPerson : MI := (yX0_hasPerson, cX0_hasPerson, 2, (some .boolean))
theorem cqX0_hasPerson : CQ qX0_hasPerson 1 := ⟨tw_in (List.mem_of_getElem? (i := 66) (by decide +kernel)) rfl, tw_in (List.mem_of_getElem? (i := 356) (by decide +kernel)) rfl, by decide +kernel, by decide⟩
theorem cvX0_65 : CV RX0 65 qX0_hasPerson 0 1 := ⟨tw_in (List.mem_of_getElem? (i := 401) (by decide +kernel)) rfl, tw_in (List.mem_of_getElem? (i := 354) (by decide +kernel)) rfl, tw_in (List.mem_of_getElem? (i := 355) (by decide +kernel)) rfl, ⟨(RX0, TX0, 5), rfl, rfl⟩, cqX0_hasPerson⟩
abbrev qX0_isOpen : MI := (yX0_isOpen, cX0_isOpen, 2, (some .boolean))
theorem cqX0_isOpen : CQ qX0_isOpen 1 := ⟨tw_in (List.mem_of_getElem? (i := 66) (by decide +kernel)) rfl, tw_in (List.mem_of_getElem? (i := 405) (by decide +kernel)) rfl, by decide +kernel, by decide⟩
theorem cvX0_68 : CV RX0 68 qX0_isOpen 0 1 := ⟨tw_in (List.mem_of_getElem? (i := 402) (by decide +kernel)) rfl, tw_in (List.mem_of_getElem? (i := 403) (by decide +kernel)) rfl, tw_in (List.mem_of_getElem? (i := 404) (by decide +kernel)) rfl, ⟨(RX0, TX0, 5), rfl, rfl⟩, cqX0_isOpen⟩
abbrev qX0_saying : MI := (yX0_saying, cX0_saying, 3, (some .int))
theorem cqX0_saying : CQ qX0_saying 2 := ⟨tw_in (List.mem_of_getElem? (i := 66) (by decide +kernel)) rfl, tw_in (List.mem_of_getElem? (i := 436) (by decide +kernel)) rfl, by decide +kernel, by decide⟩
theorem cvX0_75 : CV RX0 75 qX0_saying 0 2 := ⟨tw_in (List.mem_of_getElem? (i := 433) (by decide +kernel)) rfl, tw_in (List.mem_of_getElem? (i := 434) (by decide +kernel)) rfl, tw_in (List.mem_of_getElem? (i := 435) (by decide +kernel)) rfl, ⟨(RX0, TX0, 5), rfl, rfl⟩, cqX0_saying⟩
abbrev qX0_need : MI := (yX0_need, cX0_need, 2, (some .int))
theorem cqX0_need : CQ qX0_need 1 := ⟨tw_in (List.mem_of_getElem? (i := 66) (by decide +kernel)) rfl, tw_in (List.mem_of_getElem? (i := 381) (by decide +kernel)) rfl, by decide +kernel, by decide⟩
theorem cvX0_78 : CV RX0 78 qX0_need 0 1 := ⟨tw_in (List.mem_of_getElem? (i := 447) (by decide +kernel)) rfl, tw_in (List.mem_of_getElem? (i := 379) (by decide +kernel)) rfl, tw_in (List.mem_of_getElem? (i := 380) (by decide +kernel)) rfl, ⟨(RX0, TX0, 5), rfl, rfl⟩, cqX0_need⟩
abbrev qX0_outcome : MI := (yX0_outcome, cX0_outcome, 4, (some .int))
theorem cqX0_outcome : CQ qX0_outcome 2 := ⟨tw_in (List.mem_of_getElem? (i := 66) (by decide +kernel)) rfl, tw_in (List.mem_of_getElem? (i := 432) (by decide +kernel)) rfl, by decide +kernel, by decide⟩
theorem cvX0_81 : CV RX0 81 qX0_outcome 0 2 := ⟨tw_in (List.mem_of_getElem? (i := 429) (by decide +kernel)) rfl, tw_in (List.mem_of_getElem? (i := 430) (by decide +kernel)) rfl, tw_in (List.mem_of_getElem? (i := 431) (by decide +kernel)) rfl, ⟨(RX0, TX0, 5), rfl, rfl⟩, cqX0_outcome⟩
abbrev qX0_nextDay : MI := (yX0_nextDay, cX0_nextDay, 1, none)
theorem cqX0_nextDay : CQ qX0_nextDay 0 := ⟨tw_in (List.mem_of_getElem? (i := 66) (by decide +kernel)) rfl, tw_in (List.mem_of_getElem? (i := 455) (by decide +kernel)) rfl, by decide +kernel, by decide⟩
theorem cvX0_90 : CV RX0 90 qX0_nextDay 0 0 := ⟨tw_in (List.mem_of_getElem? (i := 452) (by decide +kernel)) rfl, tw_in (List.mem_of_getElem? (i := 453) (by decide +kernel)) rfl, tw_in (List.mem_of_getElem? (i := 454) (by decide +kernel)) rfl, ⟨(RX0, TX0, 5), rfl, rfl⟩, cqX0_nextDay⟩
abbrev qX0_wantedAfter : MI := (yX0_wantedAfter, cX0_wantedAfter, 5, (some .int))
theorem cqX0_wantedAfter : CQ qX0_wantedAfter 2 := ⟨tw_in (List.mem_of_getElem? (i := 66) (by decide +kernel)) rfl, tw_in (List.mem_of_getElem? (i := 590) (by decide +kernel)) rfl, by decide +kernel, by decide⟩
theorem cvX0_93 : CV RX0 93 qX0_wantedAfter 0 2 := ⟨tw_in (List.mem_of_getElem? (i := 587) (by decide +kernel)) rfl, tw_in (List.mem_of_getElem? (i := 589) (by decide +kernel)) rfl, tw_in (List.mem_of_getElem? (i := 22) (by decide +kernel)) rfl, ⟨(RX0, TX0, 5), rfl, rfl⟩, cqX0_wantedAfter⟩
abbrev qX0_chainRound : MI := (yX0_chainRound, cX0_chainRound, 4, (some .int))
theorem cqX0_chainRound : CQ qX0_chainRound 1 := ⟨tw_in (List.mem_of_getElem? (i := 66) (by decide +kernel)) rfl, tw_in (List.mem_of_getElem? (i := 586) (by decide +kernel)) rfl, by decide +kernel, by decide⟩
theorem cvX0_96 : CV RX0 96 qX0_chainRound 0 1 := ⟨tw_in (List.mem_of_getElem? (i := 583) (by decide +kernel)) rfl, tw_in (List.mem_of_getElem? (i := 584) (by decide +kernel)) rfl, tw_in (List.mem_of_getElem? (i := 585) (by decide +kernel)) rfl, ⟨(RX0, TX0, 5), rfl, rfl⟩, cqX0_chainRound⟩
abbrev qX0_openSet : MI := (yX0_openSet, cX0_openSet, 3, (some .int))
theorem cqX0_openSet : CQ qX0_openSet 0 := ⟨tw_in (List.mem_of_getElem? (i := 66) (by decide +kernel)) rfl, tw_in (List.mem_of_getElem? (i := 666) (by decide +kernel)) rfl, by decide +kernel, by decide⟩
theorem cvX0_99 : CV RX0 99 qX0_openSet 0 0 := ⟨tw_in (List.mem_of_getElem? (i := 663) (by decide +kernel)) rfl, tw_in (List.mem_of_getElem? (i := 664) (by decide +kernel)) rfl, tw_in (List.mem_of_getElem? (i := 665) (by decide +kernel)) rfl, ⟨(RX0, TX0, 5), rfl, rfl⟩, cqX0_openSet⟩
theorem cvX1_22 : CV RX1 22 qX0_trait 0 2 := ⟨tw_in (List.mem_of_getElem? (i := 763) (by decide +kernel)) rfl, tw_in (List.mem_of_getElem? (i := 358) (by decide +kernel)) rfl, tw_in (List.mem_of_getElem? (i := 359) (by decide +kernel)) rfl, ⟨(RX0, TX0, 5), rfl, rfl⟩, cqX0_trait⟩
abbrev qX1_fitting : MI := (yX1_fitting, cX1_fitting, 6, (some .int))
theorem cqX1_fitting : CQ qX1_fitting 3 := ⟨tw_in (List.mem_of_getElem? (i := 71) (by decide +kernel)) rfl, tw_in (List.mem_of_getElem? (i := 772) (by decide +kernel)) rfl, by decide +kernel, by decide⟩
theorem cvX1_32 : CV RX1 32 qX1_fitting 1 3 := ⟨tw_in (List.mem_of_getElem? (i := 769) (by decide +kernel)) rfl, tw_in (List.mem_of_getElem? (i := 771) (by decide +kernel)) rfl, tw_in (List.mem_of_getElem? (i := 28) (by decide +kernel)) rfl, ⟨(RX1, TX1, 3), rfl, rfl⟩, cqX1_fitting⟩
abbrev qX1_bestTry : MI := (yX1_bestTry, cX1_bestTry, 6, (some .int))
theorem cqX1_bestTry : CQ qX1_bestTry 1 := ⟨tw_in (List.mem_of_getElem? (i := 71) (by decide +kernel)) rfl, tw_in (List.mem_of_getElem? (i := 785) (by decide +kernel)) rfl, by decide +kernel, by decide⟩
theorem cvX1_36 : CV RX1 36 qX1_bestTry 1 1 := ⟨tw_in (List.mem_of_getElem? (i := 782) (by decide +kernel)) rfl, tw_in (List.mem_of_getElem? (i := 784) (by decide +kernel)) rfl, tw_in (List.mem_of_getElem? (i := 31) (by decide +kernel)) rfl, ⟨(RX1, TX1, 3), rfl, rfl⟩, cqX1_bestTry⟩
abbrev qX1_fits : MI := (yX1_fits, cX1_fits, 7, (some .boolean))
theorem cqX1_fits : CQ qX1_fits 4 := ⟨tw_in (List.mem_of_getElem? (i := 71) (by decide +kernel)) rfl, tw_in (List.mem_of_getElem? (i := 776) (by decide +kernel)) rfl, by decide +kernel, by decide⟩
theorem cvX1_40 : CV RX1 40 qX1_fits 1 4 := ⟨tw_in (List.mem_of_getElem? (i := 773) (by decide +kernel)) rfl, tw_in (List.mem_of_getElem? (i := 775) (by decide +kernel)) rfl, tw_in (List.mem_of_getElem? (i := 29) (by decide +kernel)) rfl, ⟨(RX1, TX1, 3), rfl, rfl⟩, cqX1_fits⟩
abbrev qX5_get : MI := (yX5_get, cX5_get, 2, (some .long))
theorem cqX5_get : CQ qX5_get 1 := ⟨tw_in (List.mem_of_getElem? (i := 68) (by decide +kernel)) rfl, tw_in (List.mem_of_getElem? (i := 735) (by decide +kernel)) rfl, by decide +kernel, by decide⟩
theorem cvX1_44 : CV RX1 44 qX5_get 5 1 := ⟨tw_in (List.mem_of_getElem? (i := 777) (by decide +kernel)) rfl, tw_in (List.mem_of_getElem? (i := 733) (by decide +kernel)) rfl, tw_in (List.mem_of_getElem? (i := 734) (by decide +kernel)) rfl, ⟨(RX5, TX5, 3), rfl, rfl⟩, cqX5_get⟩
abbrev qX1_sayingAt : MI := (yX1_sayingAt, cX1_sayingAt, 4, (some .int))
theorem cqX1_sayingAt : CQ qX1_sayingAt 2 := ⟨tw_in (List.mem_of_getElem? (i := 71) (by decide +kernel)) rfl, tw_in (List.mem_of_getElem? (i := 781) (by decide +kernel)) rfl, by decide +kernel, by decide⟩
theorem cvX1_50 : CV RX1 50 qX1_sayingAt 1 2 := ⟨tw_in (List.mem_of_getElem? (i := 778) (by decide +kernel)) rfl, tw_in (List.mem_of_getElem? (i := 780) (by decide +kernel)) rfl, tw_in (List.mem_of_getElem? (i := 30) (by decide +kernel)) rfl, ⟨(RX1, TX1, 3), rfl, rfl⟩, cqX1_sayingAt⟩
abbrev qX1_greatestPart : MI := (yX1_greatestPart, cX1_greatestPart, 5, (some .int))
theorem cqX1_greatestPart : CQ qX1_greatestPart 2 := ⟨tw_in (List.mem_of_getElem? (i := 71) (by decide +kernel)) rfl, tw_in (List.mem_of_getElem? (i := 790) (by decide +kernel)) rfl, by decide +kernel, by decide⟩
theorem cvX1_58 : CV RX1 58 qX1_greatestPart 1 2 := ⟨tw_in (List.mem_of_getElem? (i := 787) (by decide +kernel)) rfl, tw_in (List.mem_of_getElem? (i := 789) (by decide +kernel)) rfl, tw_in (List.mem_of_getElem? (i := 32) (by decide +kernel)) rfl, ⟨(RX1, TX1, 3), rfl, rfl⟩, cqX1_greatestPart⟩
abbrev qX1_partLike : MI := (yX1_partLike, cX1_partLike, 6, (some .int))
theorem cqX1_partLike : CQ qX1_partLike 3 := ⟨tw_in (List.mem_of_getElem? (i := 71) (by decide +kernel)) rfl, tw_in (List.mem_of_getElem? (i := 794) (by decide +kernel)) rfl, by decide +kernel, by decide⟩
theorem cvX1_61 : CV RX1 61 qX1_partLike 1 3 := ⟨tw_in (List.mem_of_getElem? (i := 791) (by decide +kernel)) rfl, tw_in (List.mem_of_getElem? (i := 793) (by decide +kernel)) rfl, tw_in (List.mem_of_getElem? (i := 33) (by decide +kernel)) rfl, ⟨(RX1, TX1, 3), rfl, rfl⟩, cqX1_partLike⟩
abbrev qX2_weigh : MI := (yX2_weigh, cX2_weigh, 6, none)
theorem cqX2_weigh : CQ qX2_weigh 1 := ⟨tw_in (List.mem_of_getElem? (i := 69) (by decide +kernel)) rfl, tw_in (List.mem_of_getElem? (i := 536) (by decide +kernel)) rfl, by decide +kernel, by decide⟩
theorem cvX2_25 : CV RX2 25 qX2_weigh 2 1 := ⟨tw_in (List.mem_of_getElem? (i := 533) (by decide +kernel)) rfl, tw_in (List.mem_of_getElem? (i := 535) (by decide +kernel)) rfl, tw_in (List.mem_of_getElem? (i := 15) (by decide +kernel)) rfl, ⟨(RX2, TX2, 4), rfl, rfl⟩, cqX2_weigh⟩
abbrev qX0_wrongs : MI := (yX0_wrongs, cX0_wrongs, 1, (some .int))
theorem cqX0_wrongs : CQ qX0_wrongs 0 := ⟨tw_in (List.mem_of_getElem? (i := 66) (by decide +kernel)) rfl, tw_in (List.mem_of_getElem? (i := 348) (by decide +kernel)) rfl, by decide +kernel, by decide⟩
theorem cvX2_35 : CV RX2 35 qX0_wrongs 0 0 := ⟨tw_in (List.mem_of_getElem? (i := 542) (by decide +kernel)) rfl, tw_in (List.mem_of_getElem? (i := 346) (by decide +kernel)) rfl, tw_in (List.mem_of_getElem? (i := 347) (by decide +kernel)) rfl, ⟨(RX0, TX0, 5), rfl, rfl⟩, cqX0_wrongs⟩
abbrev qX2_firstCarrier : MI := (yX2_firstCarrier, cX2_firstCarrier, 6, (some .int))
theorem cqX2_firstCarrier : CQ qX2_firstCarrier 2 := ⟨tw_in (List.mem_of_getElem? (i := 69) (by decide +kernel)) rfl, tw_in (List.mem_of_getElem? (i := 546) (by decide +kernel)) rfl, by decide +kernel, by decide⟩
theorem cvX2_41 : CV RX2 41 qX2_firstCarrier 2 2 := ⟨tw_in (List.mem_of_getElem? (i := 543) (by decide +kernel)) rfl, tw_in (List.mem_of_getElem? (i := 545) (by decide +kernel)) rfl, tw_in (List.mem_of_getElem? (i := 16) (by decide +kernel)) rfl, ⟨(RX2, TX2, 4), rfl, rfl⟩, cqX2_firstCarrier⟩
abbrev qX2_worthOf : MI := (yX2_worthOf, cX2_worthOf, 4, (some .int))
theorem cqX2_worthOf : CQ qX2_worthOf 3 := ⟨tw_in (List.mem_of_getElem? (i := 69) (by decide +kernel)) rfl, tw_in (List.mem_of_getElem? (i := 554) (by decide +kernel)) rfl, by decide +kernel, by decide⟩
theorem cvX2_45 : CV RX2 45 qX2_worthOf 2 3 := ⟨tw_in (List.mem_of_getElem? (i := 551) (by decide +kernel)) rfl, tw_in (List.mem_of_getElem? (i := 553) (by decide +kernel)) rfl, tw_in (List.mem_of_getElem? (i := 18) (by decide +kernel)) rfl, ⟨(RX2, TX2, 4), rfl, rfl⟩, cqX2_worthOf⟩
abbrev qX2_setBest : MI := (yX2_setBest, cX2_setBest, 5, none)
theorem cqX2_setBest : CQ qX2_setBest 3 := ⟨tw_in (List.mem_of_getElem? (i := 69) (by decide +kernel)) rfl, tw_in (List.mem_of_getElem? (i := 562) (by decide +kernel)) rfl, by decide +kernel, by decide⟩
theorem cvX2_49 : CV RX2 49 qX2_setBest 2 3 := ⟨tw_in (List.mem_of_getElem? (i := 559) (by decide +kernel)) rfl, tw_in (List.mem_of_getElem? (i := 561) (by decide +kernel)) rfl, tw_in (List.mem_of_getElem? (i := 20) (by decide +kernel)) rfl, ⟨(RX2, TX2, 4), rfl, rfl⟩, cqX2_setBest⟩
abbrev qX2_choose : MI := (yX2_choose, cX2_choose, 5, none)
theorem cqX2_choose : CQ qX2_choose 1 := ⟨tw_in (List.mem_of_getElem? (i := 69) (by decide +kernel)) rfl, tw_in (List.mem_of_getElem? (i := 566) (by decide +kernel)) rfl, by decide +kernel, by decide⟩
theorem cvX2_53 : CV RX2 53 qX2_choose 2 1 := ⟨tw_in (List.mem_of_getElem? (i := 563) (by decide +kernel)) rfl, tw_in (List.mem_of_getElem? (i := 565) (by decide +kernel)) rfl, tw_in (List.mem_of_getElem? (i := 21) (by decide +kernel)) rfl, ⟨(RX2, TX2, 4), rfl, rfl⟩, cqX2_choose⟩
abbrev qX0_mayCarry : MI := (yX0_mayCarry, cX0_mayCarry, 4, (some .boolean))
theorem cqX0_mayCarry : CQ qX0_mayCarry 2 := ⟨tw_in (List.mem_of_getElem? (i := 66) (by decide +kernel)) rfl, tw_in (List.mem_of_getElem? (i := 399) (by decide +kernel)) rfl, by decide +kernel, by decide⟩
theorem cvX2_57 : CV RX2 57 qX0_mayCarry 0 2 := ⟨tw_in (List.mem_of_getElem? (i := 537) (by decide +kernel)) rfl, tw_in (List.mem_of_getElem? (i := 397) (by decide +kernel)) rfl, tw_in (List.mem_of_getElem? (i := 398) (by decide +kernel)) rfl, ⟨(RX0, TX0, 5), rfl, rfl⟩, cqX0_mayCarry⟩
theorem cvX2_61 : CV RX2 61 qX0_outcome 0 2 := ⟨tw_in (List.mem_of_getElem? (i := 538) (by decide +kernel)) rfl, tw_in (List.mem_of_getElem? (i := 430) (by decide +kernel)) rfl, tw_in (List.mem_of_getElem? (i := 431) (by decide +kernel)) rfl, ⟨(RX0, TX0, 5), rfl, rfl⟩, cqX0_outcome⟩
abbrev qX2_pairWorth : MI := (yX2_pairWorth, cX2_pairWorth, 4, (some .int))
theorem cqX2_pairWorth : CQ qX2_pairWorth 2 := ⟨tw_in (List.mem_of_getElem? (i := 69) (by decide +kernel)) rfl, tw_in (List.mem_of_getElem? (i := 550) (by decide +kernel)) rfl, by decide +kernel, by decide⟩
theorem cvX2_64 : CV RX2 64 qX2_pairWorth 2 2 := ⟨tw_in (List.mem_of_getElem? (i := 547) (by decide +kernel)) rfl, tw_in (List.mem_of_getElem? (i := 549) (by decide +kernel)) rfl, tw_in (List.mem_of_getElem? (i := 17) (by decide +kernel)) rfl, ⟨(RX2, TX2, 4), rfl, rfl⟩, cqX2_pairWorth⟩
abbrev qX2_bestAt : MI := (yX2_bestAt, cX2_bestAt, 4, (some .int))
theorem cqX2_bestAt : CQ qX2_bestAt 2 := ⟨tw_in (List.mem_of_getElem? (i := 69) (by decide +kernel)) rfl, tw_in (List.mem_of_getElem? (i := 558) (by decide +kernel)) rfl, by decide +kernel, by decide⟩
theorem cvX2_67 : CV RX2 67 qX2_bestAt 2 2 := ⟨tw_in (List.mem_of_getElem? (i := 555) (by decide +kernel)) rfl, tw_in (List.mem_of_getElem? (i := 557) (by decide +kernel)) rfl, tw_in (List.mem_of_getElem? (i := 19) (by decide +kernel)) rfl, ⟨(RX2, TX2, 4), rfl, rfl⟩, cqX2_bestAt⟩
abbrev qX3_at : MI := (yX3_at, cX3_at, 2, (some (.object "RivalSorry$Coast")))
theorem cqX3_at : CQ qX3_at 1 := ⟨tw_in (List.mem_of_getElem? (i := 67) (by decide +kernel)) rfl, tw_in (List.mem_of_getElem? (i := 420) (by decide +kernel)) rfl, by decide +kernel, by decide⟩
theorem cvX3_25 : CV RX3 25 qX3_at 3 1 := ⟨tw_in (List.mem_of_getElem? (i := 417) (by decide +kernel)) rfl, tw_in (List.mem_of_getElem? (i := 419) (by decide +kernel)) rfl, tw_in (List.mem_of_getElem? (i := 11) (by decide +kernel)) rfl, ⟨(RX3, TX3, 3), rfl, rfl⟩, cqX3_at⟩
abbrev qX0_copyFrom : MI := (yX0_copyFrom, cX0_copyFrom, 2, none)
theorem cqX0_copyFrom : CQ qX0_copyFrom 1 := ⟨tw_in (List.mem_of_getElem? (i := 66) (by decide +kernel)) rfl, tw_in (List.mem_of_getElem? (i := 337) (by decide +kernel)) rfl, by decide +kernel, by decide⟩
theorem cvX3_29 : CV RX3 29 qX0_copyFrom 0 1 := ⟨tw_in (List.mem_of_getElem? (i := 421) (by decide +kernel)) rfl, tw_in (List.mem_of_getElem? (i := 335) (by decide +kernel)) rfl, tw_in (List.mem_of_getElem? (i := 336) (by decide +kernel)) rfl, ⟨(RX0, TX0, 5), rfl, rfl⟩, cqX0_copyFrom⟩
abbrev qX4_bestBehind : MI := (yX4_bestBehind, cX4_bestBehind, 6, (some .int))
theorem cqX4_bestBehind : CQ qX4_bestBehind 4 := ⟨tw_in (List.mem_of_getElem? (i := 70) (by decide +kernel)) rfl, tw_in (List.mem_of_getElem? (i := 623) (by decide +kernel)) rfl, by decide +kernel, by decide⟩
theorem cvX4_26 : CV RX4 26 qX4_bestBehind 4 4 := ⟨tw_in (List.mem_of_getElem? (i := 620) (by decide +kernel)) rfl, tw_in (List.mem_of_getElem? (i := 622) (by decide +kernel)) rfl, tw_in (List.mem_of_getElem? (i := 23) (by decide +kernel)) rfl, ⟨(RX4, TX4, 2), rfl, rfl⟩, cqX4_bestBehind⟩
abbrev qX4_keep : MI := (yX4_keep, cX4_keep, 5, none)
theorem cqX4_keep : CQ qX4_keep 2 := ⟨tw_in (List.mem_of_getElem? (i := 70) (by decide +kernel)) rfl, tw_in (List.mem_of_getElem? (i := 631) (by decide +kernel)) rfl, by decide +kernel, by decide⟩
theorem cvX4_30 : CV RX4 30 qX4_keep 4 2 := ⟨tw_in (List.mem_of_getElem? (i := 628) (by decide +kernel)) rfl, tw_in (List.mem_of_getElem? (i := 630) (by decide +kernel)) rfl, tw_in (List.mem_of_getElem? (i := 24) (by decide +kernel)) rfl, ⟨(RX4, TX4, 2), rfl, rfl⟩, cqX4_keep⟩
theorem cvX4_34 : CV RX4 34 qX0_copyFrom 0 1 := ⟨tw_in (List.mem_of_getElem? (i := 624) (by decide +kernel)) rfl, tw_in (List.mem_of_getElem? (i := 335) (by decide +kernel)) rfl, tw_in (List.mem_of_getElem? (i := 336) (by decide +kernel)) rfl, ⟨(RX0, TX0, 5), rfl, rfl⟩, cqX0_copyFrom⟩
theorem cvX4_38 : CV RX4 38 qX0_nextDay 0 0 := ⟨tw_in (List.mem_of_getElem? (i := 625) (by decide +kernel)) rfl, tw_in (List.mem_of_getElem? (i := 453) (by decide +kernel)) rfl, tw_in (List.mem_of_getElem? (i := 454) (by decide +kernel)) rfl, ⟨(RX0, TX0, 5), rfl, rfl⟩, cqX0_nextDay⟩
abbrev qX0_deliver : MI := (yX0_deliver, cX0_deliver, 6, (some .int))
theorem cqX0_deliver : CQ qX0_deliver 2 := ⟨tw_in (List.mem_of_getElem? (i := 66) (by decide +kernel)) rfl, tw_in (List.mem_of_getElem? (i := 428) (by decide +kernel)) rfl, by decide +kernel, by decide⟩
theorem cvX4_41 : CV RX4 41 qX0_deliver 0 2 := ⟨tw_in (List.mem_of_getElem? (i := 626) (by decide +kernel)) rfl, tw_in (List.mem_of_getElem? (i := 426) (by decide +kernel)) rfl, tw_in (List.mem_of_getElem? (i := 427) (by decide +kernel)) rfl, ⟨(RX0, TX0, 5), rfl, rfl⟩, cqX0_deliver⟩
abbrev qX4_bestFrom : MI := (yX4_bestFrom, cX4_bestFrom, 8, (some .int))
theorem cqX4_bestFrom : CQ qX4_bestFrom 3 := ⟨tw_in (List.mem_of_getElem? (i := 70) (by decide +kernel)) rfl, tw_in (List.mem_of_getElem? (i := 614) (by decide +kernel)) rfl, by decide +kernel, by decide⟩
theorem cvX4_45 : CV RX4 45 qX4_bestFrom 4 3 := ⟨tw_in (List.mem_of_getElem? (i := 627) (by decide +kernel)) rfl, tw_in (List.mem_of_getElem? (i := 612) (by decide +kernel)) rfl, tw_in (List.mem_of_getElem? (i := 613) (by decide +kernel)) rfl, ⟨(RX4, TX4, 2), rfl, rfl⟩, cqX4_bestFrom⟩
theorem cvX4_49 : CV RX4 49 qX0_mayCarry 0 2 := ⟨tw_in (List.mem_of_getElem? (i := 618) (by decide +kernel)) rfl, tw_in (List.mem_of_getElem? (i := 397) (by decide +kernel)) rfl, tw_in (List.mem_of_getElem? (i := 398) (by decide +kernel)) rfl, ⟨(RX0, TX0, 5), rfl, rfl⟩, cqX0_mayCarry⟩
theorem cvX4_53 : CV RX4 53 qX0_outcome 0 2 := ⟨tw_in (List.mem_of_getElem? (i := 619) (by decide +kernel)) rfl, tw_in (List.mem_of_getElem? (i := 430) (by decide +kernel)) rfl, tw_in (List.mem_of_getElem? (i := 431) (by decide +kernel)) rfl, ⟨(RX0, TX0, 5), rfl, rfl⟩, cqX0_outcome⟩
abbrev qX5_lay : MI := (yX5_lay, cX5_lay, 3, none)
theorem cqX5_lay : CQ qX5_lay 2 := ⟨tw_in (List.mem_of_getElem? (i := 68) (by decide +kernel)) rfl, tw_in (List.mem_of_getElem? (i := 691) (by decide +kernel)) rfl, by decide +kernel, by decide⟩
theorem cvX5_28 : CV RX5 28 qX5_lay 5 2 := ⟨tw_in (List.mem_of_getElem? (i := 707) (by decide +kernel)) rfl, tw_in (List.mem_of_getElem? (i := 689) (by decide +kernel)) rfl, tw_in (List.mem_of_getElem? (i := 690) (by decide +kernel)) rfl, ⟨(RX5, TX5, 3), rfl, rfl⟩, cqX5_lay⟩
abbrev qX5_lowestBits : MI := (yX5_lowestBits, cX5_lowestBits, 3, (some .long))
theorem cqX5_lowestBits : CQ qX5_lowestBits 1 := ⟨tw_in (List.mem_of_getElem? (i := 68) (by decide +kernel)) rfl, tw_in (List.mem_of_getElem? (i := 731) (by decide +kernel)) rfl, by decide +kernel, by decide⟩
theorem cvX5_32 : CV RX5 32 qX5_lowestBits 5 1 := ⟨tw_in (List.mem_of_getElem? (i := 728) (by decide +kernel)) rfl, tw_in (List.mem_of_getElem? (i := 730) (by decide +kernel)) rfl, tw_in (List.mem_of_getElem? (i := 26) (by decide +kernel)) rfl, ⟨(RX5, TX5, 3), rfl, rfl⟩, cqX5_lowestBits⟩
abbrev qX5_holds : MI := (yX5_holds, cX5_holds, 3, (some .boolean))
theorem cqX5_holds : CQ qX5_holds 2 := ⟨tw_in (List.mem_of_getElem? (i := 68) (by decide +kernel)) rfl, tw_in (List.mem_of_getElem? (i := 722) (by decide +kernel)) rfl, by decide +kernel, by decide⟩
theorem cvX5_36 : CV RX5 36 qX5_holds 5 2 := ⟨tw_in (List.mem_of_getElem? (i := 744) (by decide +kernel)) rfl, tw_in (List.mem_of_getElem? (i := 720) (by decide +kernel)) rfl, tw_in (List.mem_of_getElem? (i := 721) (by decide +kernel)) rfl, ⟨(RX5, TX5, 3), rfl, rfl⟩, cqX5_holds⟩
abbrev qX0_clear : MI := (yX0_clear, cX0_clear, 1, none)
theorem cqX0_clear : CQ qX0_clear 0 := ⟨tw_in (List.mem_of_getElem? (i := 66) (by decide +kernel)) rfl, tw_in (List.mem_of_getElem? (i := 262) (by decide +kernel)) rfl, by decide +kernel, by decide⟩
theorem cvX6_22 : CV RX6 22 qX0_clear 0 0 := ⟨tw_in (List.mem_of_getElem? (i := 259) (by decide +kernel)) rfl, tw_in (List.mem_of_getElem? (i := 260) (by decide +kernel)) rfl, tw_in (List.mem_of_getElem? (i := 261) (by decide +kernel)) rfl, ⟨(RX0, TX0, 5), rfl, rfl⟩, cqX0_clear⟩
abbrev qX6_takeSign : MI := (yX6_takeSign, cX6_takeSign, 2, (some .boolean))
theorem cqX6_takeSign : CQ qX6_takeSign 1 := ⟨tw_in (List.mem_of_getElem? (i := 65) (by decide +kernel)) rfl, tw_in (List.mem_of_getElem? (i := 266) (by decide +kernel)) rfl, by decide +kernel, by decide⟩
theorem cvX6_27 : CV RX6 27 qX6_takeSign 6 1 := ⟨tw_in (List.mem_of_getElem? (i := 263) (by decide +kernel)) rfl, tw_in (List.mem_of_getElem? (i := 265) (by decide +kernel)) rfl, tw_in (List.mem_of_getElem? (i := 0) (by decide +kernel)) rfl, ⟨(RX6, TX6, 3), rfl, rfl⟩, cqX6_takeSign⟩
abbrev qX6_takePeople : MI := (yX6_takePeople, cX6_takePeople, 4, (some .boolean))
theorem cqX6_takePeople : CQ qX6_takePeople 1 := ⟨tw_in (List.mem_of_getElem? (i := 65) (by decide +kernel)) rfl, tw_in (List.mem_of_getElem? (i := 274) (by decide +kernel)) rfl, by decide +kernel, by decide⟩
theorem cvX6_31 : CV RX6 31 qX6_takePeople 6 1 := ⟨tw_in (List.mem_of_getElem? (i := 271) (by decide +kernel)) rfl, tw_in (List.mem_of_getElem? (i := 273) (by decide +kernel)) rfl, tw_in (List.mem_of_getElem? (i := 2) (by decide +kernel)) rfl, ⟨(RX6, TX6, 3), rfl, rfl⟩, cqX6_takePeople⟩
abbrev qX6_takeWrongs : MI := (yX6_takeWrongs, cX6_takeWrongs, 4, (some .boolean))
theorem cqX6_takeWrongs : CQ qX6_takeWrongs 1 := ⟨tw_in (List.mem_of_getElem? (i := 65) (by decide +kernel)) rfl, tw_in (List.mem_of_getElem? (i := 305) (by decide +kernel)) rfl, by decide +kernel, by decide⟩
theorem cvX6_35 : CV RX6 35 qX6_takeWrongs 6 1 := ⟨tw_in (List.mem_of_getElem? (i := 302) (by decide +kernel)) rfl, tw_in (List.mem_of_getElem? (i := 304) (by decide +kernel)) rfl, tw_in (List.mem_of_getElem? (i := 7) (by decide +kernel)) rfl, ⟨(RX6, TX6, 3), rfl, rfl⟩, cqX6_takeWrongs⟩
abbrev qX6_takeDay : MI := (yX6_takeDay, cX6_takeDay, 3, (some .boolean))
theorem cqX6_takeDay : CQ qX6_takeDay 1 := ⟨tw_in (List.mem_of_getElem? (i := 65) (by decide +kernel)) rfl, tw_in (List.mem_of_getElem? (i := 325) (by decide +kernel)) rfl, by decide +kernel, by decide⟩
theorem cvX6_38 : CV RX6 38 qX6_takeDay 6 1 := ⟨tw_in (List.mem_of_getElem? (i := 322) (by decide +kernel)) rfl, tw_in (List.mem_of_getElem? (i := 324) (by decide +kernel)) rfl, tw_in (List.mem_of_getElem? (i := 9) (by decide +kernel)) rfl, ⟨(RX6, TX6, 3), rfl, rfl⟩, cqX6_takeDay⟩
abbrev qX6_peek : MI := (yX6_peek, cX6_peek, 1, (some .int))
theorem cqX6_peek : CQ qX6_peek 0 := ⟨tw_in (List.mem_of_getElem? (i := 65) (by decide +kernel)) rfl, tw_in (List.mem_of_getElem? (i := 270) (by decide +kernel)) rfl, by decide +kernel, by decide⟩
theorem cvX6_41 : CV RX6 41 qX6_peek 6 0 := ⟨tw_in (List.mem_of_getElem? (i := 267) (by decide +kernel)) rfl, tw_in (List.mem_of_getElem? (i := 269) (by decide +kernel)) rfl, tw_in (List.mem_of_getElem? (i := 1) (by decide +kernel)) rfl, ⟨(RX6, TX6, 3), rfl, rfl⟩, cqX6_peek⟩
abbrev qX6_takeFigure : MI := (yX6_takeFigure, cX6_takeFigure, 4, (some .int))
theorem cqX6_takeFigure : CQ qX6_takeFigure 2 := ⟨tw_in (List.mem_of_getElem? (i := 65) (by decide +kernel)) rfl, tw_in (List.mem_of_getElem? (i := 278) (by decide +kernel)) rfl, by decide +kernel, by decide⟩
theorem cvX6_45 : CV RX6 45 qX6_takeFigure 6 2 := ⟨tw_in (List.mem_of_getElem? (i := 275) (by decide +kernel)) rfl, tw_in (List.mem_of_getElem? (i := 277) (by decide +kernel)) rfl, tw_in (List.mem_of_getElem? (i := 3) (by decide +kernel)) rfl, ⟨(RX6, TX6, 3), rfl, rfl⟩, cqX6_takeFigure⟩
abbrev qX6_takePerson : MI := (yX6_takePerson, cX6_takePerson, 9, (some .boolean))
theorem cqX6_takePerson : CQ qX6_takePerson 3 := ⟨tw_in (List.mem_of_getElem? (i := 65) (by decide +kernel)) rfl, tw_in (List.mem_of_getElem? (i := 282) (by decide +kernel)) rfl, by decide +kernel, by decide⟩
theorem cvX6_49 : CV RX6 49 qX6_takePerson 6 3 := ⟨tw_in (List.mem_of_getElem? (i := 279) (by decide +kernel)) rfl, tw_in (List.mem_of_getElem? (i := 281) (by decide +kernel)) rfl, tw_in (List.mem_of_getElem? (i := 4) (by decide +kernel)) rfl, ⟨(RX6, TX6, 3), rfl, rfl⟩, cqX6_takePerson⟩
abbrev qX6_takeKind : MI := (yX6_takeKind, cX6_takeKind, 2, (some .int))
theorem cqX6_takeKind : CQ qX6_takeKind 0 := ⟨tw_in (List.mem_of_getElem? (i := 65) (by decide +kernel)) rfl, tw_in (List.mem_of_getElem? (i := 286) (by decide +kernel)) rfl, by decide +kernel, by decide⟩
theorem cvX6_53 : CV RX6 53 qX6_takeKind 6 0 := ⟨tw_in (List.mem_of_getElem? (i := 283) (by decide +kernel)) rfl, tw_in (List.mem_of_getElem? (i := 285) (by decide +kernel)) rfl, tw_in (List.mem_of_getElem? (i := 5) (by decide +kernel)) rfl, ⟨(RX6, TX6, 3), rfl, rfl⟩, cqX6_takeKind⟩
abbrev qX6_takeOther : MI := (yX6_takeOther, cX6_takeOther, 3, (some .int))
theorem cqX6_takeOther : CQ qX6_takeOther 2 := ⟨tw_in (List.mem_of_getElem? (i := 65) (by decide +kernel)) rfl, tw_in (List.mem_of_getElem? (i := 293) (by decide +kernel)) rfl, by decide +kernel, by decide⟩
theorem cvX6_56 : CV RX6 56 qX6_takeOther 6 2 := ⟨tw_in (List.mem_of_getElem? (i := 290) (by decide +kernel)) rfl, tw_in (List.mem_of_getElem? (i := 292) (by decide +kernel)) rfl, tw_in (List.mem_of_getElem? (i := 6) (by decide +kernel)) rfl, ⟨(RX6, TX6, 3), rfl, rfl⟩, cqX6_takeOther⟩
abbrev qX0_addPerson : MI := (yX0_addPerson, cX0_addPerson, 6, none)
theorem cqX0_addPerson : CQ qX0_addPerson 5 := ⟨tw_in (List.mem_of_getElem? (i := 66) (by decide +kernel)) rfl, tw_in (List.mem_of_getElem? (i := 297) (by decide +kernel)) rfl, by decide +kernel, by decide⟩
theorem cvX6_59 : CV RX6 59 qX0_addPerson 0 5 := ⟨tw_in (List.mem_of_getElem? (i := 294) (by decide +kernel)) rfl, tw_in (List.mem_of_getElem? (i := 295) (by decide +kernel)) rfl, tw_in (List.mem_of_getElem? (i := 296) (by decide +kernel)) rfl, ⟨(RX0, TX0, 5), rfl, rfl⟩, cqX0_addPerson⟩
abbrev qX6_takeWrong : MI := (yX6_takeWrong, cX6_takeWrong, 5, (some .boolean))
theorem cqX6_takeWrong : CQ qX6_takeWrong 1 := ⟨tw_in (List.mem_of_getElem? (i := 65) (by decide +kernel)) rfl, tw_in (List.mem_of_getElem? (i := 309) (by decide +kernel)) rfl, by decide +kernel, by decide⟩
theorem cvX6_67 : CV RX6 67 qX6_takeWrong 6 1 := ⟨tw_in (List.mem_of_getElem? (i := 306) (by decide +kernel)) rfl, tw_in (List.mem_of_getElem? (i := 308) (by decide +kernel)) rfl, tw_in (List.mem_of_getElem? (i := 8) (by decide +kernel)) rfl, ⟨(RX6, TX6, 3), rfl, rfl⟩, cqX6_takeWrong⟩
abbrev qX0_people : MI := (yX0_people, cX0_people, 1, (some .int))
theorem cqX0_people : CQ qX0_people 0 := ⟨tw_in (List.mem_of_getElem? (i := 66) (by decide +kernel)) rfl, tw_in (List.mem_of_getElem? (i := 313) (by decide +kernel)) rfl, by decide +kernel, by decide⟩
theorem cvX6_70 : CV RX6 70 qX0_people 0 0 := ⟨tw_in (List.mem_of_getElem? (i := 310) (by decide +kernel)) rfl, tw_in (List.mem_of_getElem? (i := 311) (by decide +kernel)) rfl, tw_in (List.mem_of_getElem? (i := 312) (by decide +kernel)) rfl, ⟨(RX0, TX0, 5), rfl, rfl⟩, cqX0_people⟩
abbrev qX0_addWrong : MI := (yX0_addWrong, cX0_addWrong, 4, none)
theorem cqX0_addWrong : CQ qX0_addWrong 3 := ⟨tw_in (List.mem_of_getElem? (i := 66) (by decide +kernel)) rfl, tw_in (List.mem_of_getElem? (i := 317) (by decide +kernel)) rfl, by decide +kernel, by decide⟩
theorem cvX6_73 : CV RX6 73 qX0_addWrong 0 3 := ⟨tw_in (List.mem_of_getElem? (i := 314) (by decide +kernel)) rfl, tw_in (List.mem_of_getElem? (i := 315) (by decide +kernel)) rfl, tw_in (List.mem_of_getElem? (i := 316) (by decide +kernel)) rfl, ⟨(RX0, TX0, 5), rfl, rfl⟩, cqX0_addWrong⟩
abbrev qX0_setDay : MI := (yX0_setDay, cX0_setDay, 2, none)
theorem cqX0_setDay : CQ qX0_setDay 1 := ⟨tw_in (List.mem_of_getElem? (i := 66) (by decide +kernel)) rfl, tw_in (List.mem_of_getElem? (i := 329) (by decide +kernel)) rfl, by decide +kernel, by decide⟩
theorem cvX6_77 : CV RX6 77 qX0_setDay 0 1 := ⟨tw_in (List.mem_of_getElem? (i := 326) (by decide +kernel)) rfl, tw_in (List.mem_of_getElem? (i := 327) (by decide +kernel)) rfl, tw_in (List.mem_of_getElem? (i := 328) (by decide +kernel)) rfl, ⟨(RX0, TX0, 5), rfl, rfl⟩, cqX0_setDay⟩
theorem cvX7_105 : CV RX7 105 qX0_hasWrong 0 1 := ⟨tw_in (List.mem_of_getElem? (i := 374) (by decide +kernel)) rfl, tw_in (List.mem_of_getElem? (i := 375) (by decide +kernel)) rfl, tw_in (List.mem_of_getElem? (i := 376) (by decide +kernel)) rfl, ⟨(RX0, TX0, 5), rfl, rfl⟩, cqX0_hasWrong⟩
theorem cvX7_108 : CV RX7 108 qX0_need 0 1 := ⟨tw_in (List.mem_of_getElem? (i := 378) (by decide +kernel)) rfl, tw_in (List.mem_of_getElem? (i := 379) (by decide +kernel)) rfl, tw_in (List.mem_of_getElem? (i := 380) (by decide +kernel)) rfl, ⟨(RX0, TX0, 5), rfl, rfl⟩, cqX0_need⟩
theorem cvX7_112 : CV RX7 112 qX0_part 0 2 := ⟨tw_in (List.mem_of_getElem? (i := 387) (by decide +kernel)) rfl, tw_in (List.mem_of_getElem? (i := 383) (by decide +kernel)) rfl, tw_in (List.mem_of_getElem? (i := 384) (by decide +kernel)) rfl, ⟨(RX0, TX0, 5), rfl, rfl⟩, cqX0_part⟩
abbrev qX7_refuseCarrying : MI := (yX7_refuseCarrying, cX7_refuseCarrying, 3, (some .int))
theorem cqX7_refuseCarrying : CQ qX7_refuseCarrying 2 := ⟨tw_in (List.mem_of_getElem? (i := 64) (by decide +kernel)) rfl, tw_in (List.mem_of_getElem? (i := 395) (by decide +kernel)) rfl, by decide +kernel, by decide⟩
theorem cvX7_115 : CV RX7 115 qX7_refuseCarrying 7 2 := ⟨tw_in (List.mem_of_getElem? (i := 392) (by decide +kernel)) rfl, tw_in (List.mem_of_getElem? (i := 394) (by decide +kernel)) rfl, tw_in (List.mem_of_getElem? (i := 10) (by decide +kernel)) rfl, ⟨(RX7, TX7, 9), rfl, rfl⟩, cqX7_refuseCarrying⟩
abbrev qX0_day : MI := (yX0_day, cX0_day, 1, (some .int))
theorem cqX0_day : CQ qX0_day 0 := ⟨tw_in (List.mem_of_getElem? (i := 66) (by decide +kernel)) rfl, tw_in (List.mem_of_getElem? (i := 412) (by decide +kernel)) rfl, by decide +kernel, by decide⟩
theorem cvX7_118 : CV RX7 118 qX0_day 0 0 := ⟨tw_in (List.mem_of_getElem? (i := 409) (by decide +kernel)) rfl, tw_in (List.mem_of_getElem? (i := 410) (by decide +kernel)) rfl, tw_in (List.mem_of_getElem? (i := 411) (by decide +kernel)) rfl, ⟨(RX0, TX0, 5), rfl, rfl⟩, cqX0_day⟩
abbrev qX3_keep : MI := (yX3_keep, cX3_keep, 3, none)
theorem cqX3_keep : CQ qX3_keep 1 := ⟨tw_in (List.mem_of_getElem? (i := 67) (by decide +kernel)) rfl, tw_in (List.mem_of_getElem? (i := 416) (by decide +kernel)) rfl, by decide +kernel, by decide⟩
theorem cvX7_121 : CV RX7 121 qX3_keep 3 1 := ⟨tw_in (List.mem_of_getElem? (i := 413) (by decide +kernel)) rfl, tw_in (List.mem_of_getElem? (i := 414) (by decide +kernel)) rfl, tw_in (List.mem_of_getElem? (i := 415) (by decide +kernel)) rfl, ⟨(RX3, TX3, 3), rfl, rfl⟩, cqX3_keep⟩
theorem cvX7_124 : CV RX7 124 qX0_deliver 0 2 := ⟨tw_in (List.mem_of_getElem? (i := 425) (by decide +kernel)) rfl, tw_in (List.mem_of_getElem? (i := 426) (by decide +kernel)) rfl, tw_in (List.mem_of_getElem? (i := 427) (by decide +kernel)) rfl, ⟨(RX0, TX0, 5), rfl, rfl⟩, cqX0_deliver⟩
abbrev qX7_change : MI := (yX7_change, cX7_change, 5, (some .int))
theorem cqX7_change : CQ qX7_change 3 := ⟨tw_in (List.mem_of_getElem? (i := 64) (by decide +kernel)) rfl, tw_in (List.mem_of_getElem? (i := 463) (by decide +kernel)) rfl, by decide +kernel, by decide⟩
theorem cvX7_127 : CV RX7 127 qX7_change 7 3 := ⟨tw_in (List.mem_of_getElem? (i := 460) (by decide +kernel)) rfl, tw_in (List.mem_of_getElem? (i := 462) (by decide +kernel)) rfl, tw_in (List.mem_of_getElem? (i := 13) (by decide +kernel)) rfl, ⟨(RX7, TX7, 9), rfl, rfl⟩, cqX7_change⟩
theorem cvX7_131 : CV RX7 131 qX0_addWrong 0 3 := ⟨tw_in (List.mem_of_getElem? (i := 469) (by decide +kernel)) rfl, tw_in (List.mem_of_getElem? (i := 315) (by decide +kernel)) rfl, tw_in (List.mem_of_getElem? (i := 316) (by decide +kernel)) rfl, ⟨(RX0, TX0, 5), rfl, rfl⟩, cqX0_addWrong⟩
abbrev qX0_stands : MI := (yX0_stands, cX0_stands, 1, (some .boolean))
theorem cqX0_stands : CQ qX0_stands 0 := ⟨tw_in (List.mem_of_getElem? (i := 66) (by decide +kernel)) rfl, tw_in (List.mem_of_getElem? (i := 481) (by decide +kernel)) rfl, by decide +kernel, by decide⟩
theorem cvX7_135 : CV RX7 135 qX0_stands 0 0 := ⟨tw_in (List.mem_of_getElem? (i := 478) (by decide +kernel)) rfl, tw_in (List.mem_of_getElem? (i := 479) (by decide +kernel)) rfl, tw_in (List.mem_of_getElem? (i := 480) (by decide +kernel)) rfl, ⟨(RX0, TX0, 5), rfl, rfl⟩, cqX0_stands⟩
theorem cvX7_139 : CV RX7 139 qX0_nextDay 0 0 := ⟨tw_in (List.mem_of_getElem? (i := 482) (by decide +kernel)) rfl, tw_in (List.mem_of_getElem? (i := 453) (by decide +kernel)) rfl, tw_in (List.mem_of_getElem? (i := 454) (by decide +kernel)) rfl, ⟨(RX0, TX0, 5), rfl, rfl⟩, cqX0_nextDay⟩
abbrev qX3_takeBack : MI := (yX3_takeBack, cX3_takeBack, 4, (some .boolean))
theorem cqX3_takeBack : CQ qX3_takeBack 1 := ⟨tw_in (List.mem_of_getElem? (i := 67) (by decide +kernel)) rfl, tw_in (List.mem_of_getElem? (i := 490) (by decide +kernel)) rfl, by decide +kernel, by decide⟩
theorem cvX7_142 : CV RX7 142 qX3_takeBack 3 1 := ⟨tw_in (List.mem_of_getElem? (i := 487) (by decide +kernel)) rfl, tw_in (List.mem_of_getElem? (i := 488) (by decide +kernel)) rfl, tw_in (List.mem_of_getElem? (i := 489) (by decide +kernel)) rfl, ⟨(RX3, TX3, 3), rfl, rfl⟩, cqX3_takeBack⟩
abbrev qX3_acts : MI := (yX3_acts, cX3_acts, 1, (some .int))
theorem cqX3_acts : CQ qX3_acts 0 := ⟨tw_in (List.mem_of_getElem? (i := 67) (by decide +kernel)) rfl, tw_in (List.mem_of_getElem? (i := 494) (by decide +kernel)) rfl, by decide +kernel, by decide⟩
theorem cvX7_146 : CV RX7 146 qX3_acts 3 0 := ⟨tw_in (List.mem_of_getElem? (i := 491) (by decide +kernel)) rfl, tw_in (List.mem_of_getElem? (i := 492) (by decide +kernel)) rfl, tw_in (List.mem_of_getElem? (i := 493) (by decide +kernel)) rfl, ⟨(RX3, TX3, 3), rfl, rfl⟩, cqX3_acts⟩
abbrev qX7_imageAt : MI := (yX7_imageAt, cX7_imageAt, 2, (some (.object "RivalSorry$Coast")))
theorem cqX7_imageAt : CQ qX7_imageAt 1 := ⟨tw_in (List.mem_of_getElem? (i := 64) (by decide +kernel)) rfl, tw_in (List.mem_of_getElem? (i := 502) (by decide +kernel)) rfl, by decide +kernel, by decide⟩
theorem cvX7_149 : CV RX7 149 qX7_imageAt 7 1 := ⟨tw_in (List.mem_of_getElem? (i := 499) (by decide +kernel)) rfl, tw_in (List.mem_of_getElem? (i := 501) (by decide +kernel)) rfl, tw_in (List.mem_of_getElem? (i := 14) (by decide +kernel)) rfl, ⟨(RX7, TX7, 9), rfl, rfl⟩, cqX7_imageAt⟩
theorem cvX7_153 : CV RX7 153 qX0_saying 0 2 := ⟨tw_in (List.mem_of_getElem? (i := 511) (by decide +kernel)) rfl, tw_in (List.mem_of_getElem? (i := 434) (by decide +kernel)) rfl, tw_in (List.mem_of_getElem? (i := 435) (by decide +kernel)) rfl, ⟨(RX0, TX0, 5), rfl, rfl⟩, cqX0_saying⟩
theorem cvX7_156 : CV RX7 156 qX0_outcome 0 2 := ⟨tw_in (List.mem_of_getElem? (i := 516) (by decide +kernel)) rfl, tw_in (List.mem_of_getElem? (i := 430) (by decide +kernel)) rfl, tw_in (List.mem_of_getElem? (i := 431) (by decide +kernel)) rfl, ⟨(RX0, TX0, 5), rfl, rfl⟩, cqX0_outcome⟩
abbrev qX0_leastSkill : MI := (yX0_leastSkill, cX0_leastSkill, 4, (some .int))
theorem cqX0_leastSkill : CQ qX0_leastSkill 2 := ⟨tw_in (List.mem_of_getElem? (i := 66) (by decide +kernel)) rfl, tw_in (List.mem_of_getElem? (i := 524) (by decide +kernel)) rfl, by decide +kernel, by decide⟩
theorem cvX7_159 : CV RX7 159 qX0_leastSkill 0 2 := ⟨tw_in (List.mem_of_getElem? (i := 521) (by decide +kernel)) rfl, tw_in (List.mem_of_getElem? (i := 522) (by decide +kernel)) rfl, tw_in (List.mem_of_getElem? (i := 523) (by decide +kernel)) rfl, ⟨(RX0, TX0, 5), rfl, rfl⟩, cqX0_leastSkill⟩
abbrev qX2_settle : MI := (yX2_settle, cX2_settle, 4, none)
theorem cqX2_settle : CQ qX2_settle 1 := ⟨tw_in (List.mem_of_getElem? (i := 69) (by decide +kernel)) rfl, tw_in (List.mem_of_getElem? (i := 532) (by decide +kernel)) rfl, by decide +kernel, by decide⟩
theorem cvX7_162 : CV RX7 162 qX2_settle 2 1 := ⟨tw_in (List.mem_of_getElem? (i := 529) (by decide +kernel)) rfl, tw_in (List.mem_of_getElem? (i := 530) (by decide +kernel)) rfl, tw_in (List.mem_of_getElem? (i := 531) (by decide +kernel)) rfl, ⟨(RX2, TX2, 4), rfl, rfl⟩, cqX2_settle⟩
abbrev qX2_forgiven : MI := (yX2_forgiven, cX2_forgiven, 1, (some .int))
theorem cqX2_forgiven : CQ qX2_forgiven 0 := ⟨tw_in (List.mem_of_getElem? (i := 69) (by decide +kernel)) rfl, tw_in (List.mem_of_getElem? (i := 570) (by decide +kernel)) rfl, by decide +kernel, by decide⟩
theorem cvX7_165 : CV RX7 165 qX2_forgiven 2 0 := ⟨tw_in (List.mem_of_getElem? (i := 567) (by decide +kernel)) rfl, tw_in (List.mem_of_getElem? (i := 568) (by decide +kernel)) rfl, tw_in (List.mem_of_getElem? (i := 569) (by decide +kernel)) rfl, ⟨(RX2, TX2, 4), rfl, rfl⟩, cqX2_forgiven⟩
abbrev qX2_carrierOf : MI := (yX2_carrierOf, cX2_carrierOf, 2, (some .int))
theorem cqX2_carrierOf : CQ qX2_carrierOf 1 := ⟨tw_in (List.mem_of_getElem? (i := 69) (by decide +kernel)) rfl, tw_in (List.mem_of_getElem? (i := 574) (by decide +kernel)) rfl, by decide +kernel, by decide⟩
theorem cvX7_168 : CV RX7 168 qX2_carrierOf 2 1 := ⟨tw_in (List.mem_of_getElem? (i := 571) (by decide +kernel)) rfl, tw_in (List.mem_of_getElem? (i := 572) (by decide +kernel)) rfl, tw_in (List.mem_of_getElem? (i := 573) (by decide +kernel)) rfl, ⟨(RX2, TX2, 4), rfl, rfl⟩, cqX2_carrierOf⟩
abbrev qX0_chainAhead : MI := (yX0_chainAhead, cX0_chainAhead, 4, (some .int))
theorem cqX0_chainAhead : CQ qX0_chainAhead 1 := ⟨tw_in (List.mem_of_getElem? (i := 66) (by decide +kernel)) rfl, tw_in (List.mem_of_getElem? (i := 582) (by decide +kernel)) rfl, by decide +kernel, by decide⟩
theorem cvX7_171 : CV RX7 171 qX0_chainAhead 0 1 := ⟨tw_in (List.mem_of_getElem? (i := 579) (by decide +kernel)) rfl, tw_in (List.mem_of_getElem? (i := 580) (by decide +kernel)) rfl, tw_in (List.mem_of_getElem? (i := 581) (by decide +kernel)) rfl, ⟨(RX0, TX0, 5), rfl, rfl⟩, cqX0_chainAhead⟩
theorem cvX7_174 : CV RX7 174 qX0_chainRound 0 1 := ⟨tw_in (List.mem_of_getElem? (i := 591) (by decide +kernel)) rfl, tw_in (List.mem_of_getElem? (i := 584) (by decide +kernel)) rfl, tw_in (List.mem_of_getElem? (i := 585) (by decide +kernel)) rfl, ⟨(RX0, TX0, 5), rfl, rfl⟩, cqX0_chainRound⟩
theorem cvX7_180 : CV RX7 180 qX4_bestFrom 4 3 := ⟨tw_in (List.mem_of_getElem? (i := 611) (by decide +kernel)) rfl, tw_in (List.mem_of_getElem? (i := 612) (by decide +kernel)) rfl, tw_in (List.mem_of_getElem? (i := 613) (by decide +kernel)) rfl, ⟨(RX4, TX4, 2), rfl, rfl⟩, cqX4_bestFrom⟩
abbrev qX4_step : MI := (yX4_step, cX4_step, 2, (some .int))
theorem cqX4_step : CQ qX4_step 1 := ⟨tw_in (List.mem_of_getElem? (i := 70) (by decide +kernel)) rfl, tw_in (List.mem_of_getElem? (i := 636) (by decide +kernel)) rfl, by decide +kernel, by decide⟩
theorem cvX7_184 : CV RX7 184 qX4_step 4 1 := ⟨tw_in (List.mem_of_getElem? (i := 633) (by decide +kernel)) rfl, tw_in (List.mem_of_getElem? (i := 634) (by decide +kernel)) rfl, tw_in (List.mem_of_getElem? (i := 635) (by decide +kernel)) rfl, ⟨(RX4, TX4, 2), rfl, rfl⟩, cqX4_step⟩
abbrev qX0_forgiven : MI := (yX0_forgiven, cX0_forgiven, 1, (some .int))
theorem cqX0_forgiven : CQ qX0_forgiven 0 := ⟨tw_in (List.mem_of_getElem? (i := 66) (by decide +kernel)) rfl, tw_in (List.mem_of_getElem? (i := 662) (by decide +kernel)) rfl, by decide +kernel, by decide⟩
theorem cvX7_198 : CV RX7 198 qX0_forgiven 0 0 := ⟨tw_in (List.mem_of_getElem? (i := 659) (by decide +kernel)) rfl, tw_in (List.mem_of_getElem? (i := 660) (by decide +kernel)) rfl, tw_in (List.mem_of_getElem? (i := 661) (by decide +kernel)) rfl, ⟨(RX0, TX0, 5), rfl, rfl⟩, cqX0_forgiven⟩
abbrev qX0_wonSet : MI := (yX0_wonSet, cX0_wonSet, 3, (some .int))
theorem cqX0_wonSet : CQ qX0_wonSet 0 := ⟨tw_in (List.mem_of_getElem? (i := 66) (by decide +kernel)) rfl, tw_in (List.mem_of_getElem? (i := 676) (by decide +kernel)) rfl, by decide +kernel, by decide⟩
theorem cvX7_199 : CV RX7 199 qX0_wonSet 0 0 := ⟨tw_in (List.mem_of_getElem? (i := 673) (by decide +kernel)) rfl, tw_in (List.mem_of_getElem? (i := 674) (by decide +kernel)) rfl, tw_in (List.mem_of_getElem? (i := 675) (by decide +kernel)) rfl, ⟨(RX0, TX0, 5), rfl, rfl⟩, cqX0_wonSet⟩
abbrev qX7_sheetAt : MI := (yX7_sheetAt, cX7_sheetAt, 2, (some (.object "RivalSorry$Sheet")))
theorem cqX7_sheetAt : CQ qX7_sheetAt 1 := ⟨tw_in (List.mem_of_getElem? (i := 64) (by decide +kernel)) rfl, tw_in (List.mem_of_getElem? (i := 684) (by decide +kernel)) rfl, by decide +kernel, by decide⟩
theorem cvX7_202 : CV RX7 202 qX7_sheetAt 7 1 := ⟨tw_in (List.mem_of_getElem? (i := 681) (by decide +kernel)) rfl, tw_in (List.mem_of_getElem? (i := 683) (by decide +kernel)) rfl, tw_in (List.mem_of_getElem? (i := 25) (by decide +kernel)) rfl, ⟨(RX7, TX7, 9), rfl, rfl⟩, cqX7_sheetAt⟩
theorem cvX7_209 : CV RX7 209 qX5_lay 5 2 := ⟨tw_in (List.mem_of_getElem? (i := 688) (by decide +kernel)) rfl, tw_in (List.mem_of_getElem? (i := 689) (by decide +kernel)) rfl, tw_in (List.mem_of_getElem? (i := 690) (by decide +kernel)) rfl, ⟨(RX5, TX5, 3), rfl, rfl⟩, cqX5_lay⟩
abbrev qX5_isNothing : MI := (yX5_isNothing, cX5_isNothing, 1, (some .boolean))
theorem cqX5_isNothing : CQ qX5_isNothing 0 := ⟨tw_in (List.mem_of_getElem? (i := 68) (by decide +kernel)) rfl, tw_in (List.mem_of_getElem? (i := 702) (by decide +kernel)) rfl, by decide +kernel, by decide⟩
theorem cvX7_213 : CV RX7 213 qX5_isNothing 5 0 := ⟨tw_in (List.mem_of_getElem? (i := 699) (by decide +kernel)) rfl, tw_in (List.mem_of_getElem? (i := 700) (by decide +kernel)) rfl, tw_in (List.mem_of_getElem? (i := 701) (by decide +kernel)) rfl, ⟨(RX5, TX5, 3), rfl, rfl⟩, cqX5_isNothing⟩
abbrev qX5_clear : MI := (yX5_clear, cX5_clear, 2, (some .int))
theorem cqX5_clear : CQ qX5_clear 0 := ⟨tw_in (List.mem_of_getElem? (i := 68) (by decide +kernel)) rfl, tw_in (List.mem_of_getElem? (i := 706) (by decide +kernel)) rfl, by decide +kernel, by decide⟩
theorem cvX7_216 : CV RX7 216 qX5_clear 5 0 := ⟨tw_in (List.mem_of_getElem? (i := 703) (by decide +kernel)) rfl, tw_in (List.mem_of_getElem? (i := 704) (by decide +kernel)) rfl, tw_in (List.mem_of_getElem? (i := 705) (by decide +kernel)) rfl, ⟨(RX5, TX5, 3), rfl, rfl⟩, cqX5_clear⟩
theorem cvX7_222 : CV RX7 222 qX5_holds 5 2 := ⟨tw_in (List.mem_of_getElem? (i := 719) (by decide +kernel)) rfl, tw_in (List.mem_of_getElem? (i := 720) (by decide +kernel)) rfl, tw_in (List.mem_of_getElem? (i := 721) (by decide +kernel)) rfl, ⟨(RX5, TX5, 3), rfl, rfl⟩, cqX5_holds⟩
abbrev qX5_put : MI := (yX5_put, cX5_put, 4, none)
theorem cqX5_put : CQ qX5_put 2 := ⟨tw_in (List.mem_of_getElem? (i := 68) (by decide +kernel)) rfl, tw_in (List.mem_of_getElem? (i := 727) (by decide +kernel)) rfl, by decide +kernel, by decide⟩
theorem cvX7_227 : CV RX7 227 qX5_put 5 2 := ⟨tw_in (List.mem_of_getElem? (i := 724) (by decide +kernel)) rfl, tw_in (List.mem_of_getElem? (i := 725) (by decide +kernel)) rfl, tw_in (List.mem_of_getElem? (i := 726) (by decide +kernel)) rfl, ⟨(RX5, TX5, 3), rfl, rfl⟩, cqX5_put⟩
theorem cvX7_231 : CV RX7 231 qX5_get 5 1 := ⟨tw_in (List.mem_of_getElem? (i := 732) (by decide +kernel)) rfl, tw_in (List.mem_of_getElem? (i := 733) (by decide +kernel)) rfl, tw_in (List.mem_of_getElem? (i := 734) (by decide +kernel)) rfl, ⟨(RX5, TX5, 3), rfl, rfl⟩, cqX5_get⟩
abbrev qX5_lane : MI := (yX5_lane, cX5_lane, 1, (some .int))
theorem cqX5_lane : CQ qX5_lane 0 := ⟨tw_in (List.mem_of_getElem? (i := 68) (by decide +kernel)) rfl, tw_in (List.mem_of_getElem? (i := 718) (by decide +kernel)) rfl, by decide +kernel, by decide⟩
theorem cvX7_235 : CV RX7 235 qX5_lane 5 0 := ⟨tw_in (List.mem_of_getElem? (i := 715) (by decide +kernel)) rfl, tw_in (List.mem_of_getElem? (i := 716) (by decide +kernel)) rfl, tw_in (List.mem_of_getElem? (i := 717) (by decide +kernel)) rfl, ⟨(RX5, TX5, 3), rfl, rfl⟩, cqX5_lane⟩
abbrev qX5_take : MI := (yX5_take, cX5_take, 5, none)
theorem cqX5_take : CQ qX5_take 4 := ⟨tw_in (List.mem_of_getElem? (i := 68) (by decide +kernel)) rfl, tw_in (List.mem_of_getElem? (i := 743) (by decide +kernel)) rfl, by decide +kernel, by decide⟩
theorem cvX7_238 : CV RX7 238 qX5_take 5 4 := ⟨tw_in (List.mem_of_getElem? (i := 740) (by decide +kernel)) rfl, tw_in (List.mem_of_getElem? (i := 741) (by decide +kernel)) rfl, tw_in (List.mem_of_getElem? (i := 742) (by decide +kernel)) rfl, ⟨(RX5, TX5, 3), rfl, rfl⟩, cqX5_take⟩
abbrev qX7_refusePairs : MI := (yX7_refusePairs, cX7_refusePairs, 12, (some .int))
theorem cqX7_refusePairs : CQ qX7_refusePairs 6 := ⟨tw_in (List.mem_of_getElem? (i := 64) (by decide +kernel)) rfl, tw_in (List.mem_of_getElem? (i := 757) (by decide +kernel)) rfl, by decide +kernel, by decide⟩
theorem cvX7_242 : CV RX7 242 qX7_refusePairs 7 6 := ⟨tw_in (List.mem_of_getElem? (i := 754) (by decide +kernel)) rfl, tw_in (List.mem_of_getElem? (i := 756) (by decide +kernel)) rfl, tw_in (List.mem_of_getElem? (i := 27) (by decide +kernel)) rfl, ⟨(RX7, TX7, 9), rfl, rfl⟩, cqX7_refusePairs⟩
abbrev qX1_amongSkills : MI := (yX1_amongSkills, cX1_amongSkills, 4, none)
theorem cqX1_amongSkills : CQ qX1_amongSkills 2 := ⟨tw_in (List.mem_of_getElem? (i := 71) (by decide +kernel)) rfl, tw_in (List.mem_of_getElem? (i := 762) (by decide +kernel)) rfl, by decide +kernel, by decide⟩
theorem cvX7_246 : CV RX7 246 qX1_amongSkills 1 2 := ⟨tw_in (List.mem_of_getElem? (i := 759) (by decide +kernel)) rfl, tw_in (List.mem_of_getElem? (i := 760) (by decide +kernel)) rfl, tw_in (List.mem_of_getElem? (i := 761) (by decide +kernel)) rfl, ⟨(RX1, TX1, 3), rfl, rfl⟩, cqX1_amongSkills⟩
abbrev qX1_answer : MI := (yX1_answer, cX1_answer, 6, (some .int))
theorem cqX1_answer : CQ qX1_answer 4 := ⟨tw_in (List.mem_of_getElem? (i := 71) (by decide +kernel)) rfl, tw_in (List.mem_of_getElem? (i := 768) (by decide +kernel)) rfl, by decide +kernel, by decide⟩
theorem cvX7_250 : CV RX7 250 qX1_answer 1 4 := ⟨tw_in (List.mem_of_getElem? (i := 765) (by decide +kernel)) rfl, tw_in (List.mem_of_getElem? (i := 766) (by decide +kernel)) rfl, tw_in (List.mem_of_getElem? (i := 767) (by decide +kernel)) rfl, ⟨(RX1, TX1, 3), rfl, rfl⟩, cqX1_answer⟩
abbrev qX1_amongKinds : MI := (yX1_amongKinds, cX1_amongKinds, 4, none)
theorem cqX1_amongKinds : CQ qX1_amongKinds 2 := ⟨tw_in (List.mem_of_getElem? (i := 71) (by decide +kernel)) rfl, tw_in (List.mem_of_getElem? (i := 803) (by decide +kernel)) rfl, by decide +kernel, by decide⟩
theorem cvX7_254 : CV RX7 254 qX1_amongKinds 1 2 := ⟨tw_in (List.mem_of_getElem? (i := 800) (by decide +kernel)) rfl, tw_in (List.mem_of_getElem? (i := 801) (by decide +kernel)) rfl, tw_in (List.mem_of_getElem? (i := 802) (by decide +kernel)) rfl, ⟨(RX1, TX1, 3), rfl, rfl⟩, cqX1_amongKinds⟩
theorem cvX7_257 : CV RX7 257 qX0_people 0 0 := ⟨tw_in (List.mem_of_getElem? (i := 655) (by decide +kernel)) rfl, tw_in (List.mem_of_getElem? (i := 311) (by decide +kernel)) rfl, tw_in (List.mem_of_getElem? (i := 312) (by decide +kernel)) rfl, ⟨(RX0, TX0, 5), rfl, rfl⟩, cqX0_people⟩
theorem cvX7_260 : CV RX7 260 qX0_openSet 0 0 := ⟨tw_in (List.mem_of_getElem? (i := 808) (by decide +kernel)) rfl, tw_in (List.mem_of_getElem? (i := 664) (by decide +kernel)) rfl, tw_in (List.mem_of_getElem? (i := 665) (by decide +kernel)) rfl, ⟨(RX0, TX0, 5), rfl, rfl⟩, cqX0_openSet⟩
abbrev qX0_carriedByAll : MI := (yX0_carriedByAll, cX0_carriedByAll, 3, (some .int))
theorem cqX0_carriedByAll : CQ qX0_carriedByAll 0 := ⟨tw_in (List.mem_of_getElem? (i := 66) (by decide +kernel)) rfl, tw_in (List.mem_of_getElem? (i := 812) (by decide +kernel)) rfl, by decide +kernel, by decide⟩
theorem cvX7_263 : CV RX7 263 qX0_carriedByAll 0 0 := ⟨tw_in (List.mem_of_getElem? (i := 809) (by decide +kernel)) rfl, tw_in (List.mem_of_getElem? (i := 810) (by decide +kernel)) rfl, tw_in (List.mem_of_getElem? (i := 811) (by decide +kernel)) rfl, ⟨(RX0, TX0, 5), rfl, rfl⟩, cqX0_carriedByAll⟩
abbrev qX0_openWeight : MI := (yX0_openWeight, cX0_openWeight, 3, (some .int))
theorem cqX0_openWeight : CQ qX0_openWeight 0 := ⟨tw_in (List.mem_of_getElem? (i := 66) (by decide +kernel)) rfl, tw_in (List.mem_of_getElem? (i := 816) (by decide +kernel)) rfl, by decide +kernel, by decide⟩
theorem cvX7_266 : CV RX7 266 qX0_openWeight 0 0 := ⟨tw_in (List.mem_of_getElem? (i := 813) (by decide +kernel)) rfl, tw_in (List.mem_of_getElem? (i := 814) (by decide +kernel)) rfl, tw_in (List.mem_of_getElem? (i := 815) (by decide +kernel)) rfl, ⟨(RX0, TX0, 5), rfl, rfl⟩, cqX0_openWeight⟩
theorem cvX7_269 : CV RX7 269 qX0_mayCarry 0 2 := ⟨tw_in (List.mem_of_getElem? (i := 396) (by decide +kernel)) rfl, tw_in (List.mem_of_getElem? (i := 397) (by decide +kernel)) rfl, tw_in (List.mem_of_getElem? (i := 398) (by decide +kernel)) rfl, ⟨(RX0, TX0, 5), rfl, rfl⟩, cqX0_mayCarry⟩
theorem cvX7_272 : CV RX7 272 qX0_setTrait 0 3 := ⟨tw_in (List.mem_of_getElem? (i := 464) (by decide +kernel)) rfl, tw_in (List.mem_of_getElem? (i := 299) (by decide +kernel)) rfl, tw_in (List.mem_of_getElem? (i := 300) (by decide +kernel)) rfl, ⟨(RX0, TX0, 5), rfl, rfl⟩, cqX0_setTrait⟩
abbrev qX6_add : MI := (yX6_add, cX6_add, 2, (some .boolean))
theorem cqX6_add : CQ qX6_add 1 := ⟨tw_in (List.mem_of_getElem? (i := 65) (by decide +kernel)) rfl, tw_in (List.mem_of_getElem? (i := 246) (by decide +kernel)) rfl, by decide +kernel, by decide⟩
theorem cvX7_65 : CV RX7 65 qX6_add 6 1 := ⟨tw_in (List.mem_of_getElem? (i := 243) (by decide +kernel)) rfl, tw_in (List.mem_of_getElem? (i := 244) (by decide +kernel)) rfl, tw_in (List.mem_of_getElem? (i := 245) (by decide +kernel)) rfl, ⟨(RX6, TX6, 3), rfl, rfl⟩, cqX6_add⟩
abbrev qX6_length : MI := (yX6_length, cX6_length, 1, (some .int))
theorem cqX6_length : CQ qX6_length 0 := ⟨tw_in (List.mem_of_getElem? (i := 65) (by decide +kernel)) rfl, tw_in (List.mem_of_getElem? (i := 250) (by decide +kernel)) rfl, by decide +kernel, by decide⟩
theorem cvX7_69 : CV RX7 69 qX6_length 6 0 := ⟨tw_in (List.mem_of_getElem? (i := 247) (by decide +kernel)) rfl, tw_in (List.mem_of_getElem? (i := 248) (by decide +kernel)) rfl, tw_in (List.mem_of_getElem? (i := 249) (by decide +kernel)) rfl, ⟨(RX6, TX6, 3), rfl, rfl⟩, cqX6_length⟩
abbrev qX6_readInto : MI := (yX6_readInto, cX6_readInto, 3, (some .int))
theorem cqX6_readInto : CQ qX6_readInto 1 := ⟨tw_in (List.mem_of_getElem? (i := 65) (by decide +kernel)) rfl, tw_in (List.mem_of_getElem? (i := 258) (by decide +kernel)) rfl, by decide +kernel, by decide⟩
theorem cvX7_73 : CV RX7 73 qX6_readInto 6 1 := ⟨tw_in (List.mem_of_getElem? (i := 255) (by decide +kernel)) rfl, tw_in (List.mem_of_getElem? (i := 256) (by decide +kernel)) rfl, tw_in (List.mem_of_getElem? (i := 257) (by decide +kernel)) rfl, ⟨(RX6, TX6, 3), rfl, rfl⟩, cqX6_readInto⟩
abbrev qX6_clear : MI := (yX6_clear, cX6_clear, 1, none)
theorem cqX6_clear : CQ qX6_clear 0 := ⟨tw_in (List.mem_of_getElem? (i := 65) (by decide +kernel)) rfl, tw_in (List.mem_of_getElem? (i := 333) (by decide +kernel)) rfl, by decide +kernel, by decide⟩
theorem cvX7_77 : CV RX7 77 qX6_clear 6 0 := ⟨tw_in (List.mem_of_getElem? (i := 330) (by decide +kernel)) rfl, tw_in (List.mem_of_getElem? (i := 331) (by decide +kernel)) rfl, tw_in (List.mem_of_getElem? (i := 332) (by decide +kernel)) rfl, ⟨(RX6, TX6, 3), rfl, rfl⟩, cqX6_clear⟩
theorem cvX7_80 : CV RX7 80 qX0_copyFrom 0 1 := ⟨tw_in (List.mem_of_getElem? (i := 334) (by decide +kernel)) rfl, tw_in (List.mem_of_getElem? (i := 335) (by decide +kernel)) rfl, tw_in (List.mem_of_getElem? (i := 336) (by decide +kernel)) rfl, ⟨(RX0, TX0, 5), rfl, rfl⟩, cqX0_copyFrom⟩
abbrev qX3_forget : MI := (yX3_forget, cX3_forget, 1, none)
theorem cqX3_forget : CQ qX3_forget 0 := ⟨tw_in (List.mem_of_getElem? (i := 67) (by decide +kernel)) rfl, tw_in (List.mem_of_getElem? (i := 344) (by decide +kernel)) rfl, by decide +kernel, by decide⟩
theorem cvX7_84 : CV RX7 84 qX3_forget 3 0 := ⟨tw_in (List.mem_of_getElem? (i := 341) (by decide +kernel)) rfl, tw_in (List.mem_of_getElem? (i := 342) (by decide +kernel)) rfl, tw_in (List.mem_of_getElem? (i := 343) (by decide +kernel)) rfl, ⟨(RX3, TX3, 3), rfl, rfl⟩, cqX3_forget⟩
theorem cvX7_87 : CV RX7 87 qX0_wrongs 0 0 := ⟨tw_in (List.mem_of_getElem? (i := 345) (by decide +kernel)) rfl, tw_in (List.mem_of_getElem? (i := 346) (by decide +kernel)) rfl, tw_in (List.mem_of_getElem? (i := 347) (by decide +kernel)) rfl, ⟨(RX0, TX0, 5), rfl, rfl⟩, cqX0_wrongs⟩
theorem cvX7_90 : CV RX7 90 qX0_hasPerson 0 1 := ⟨tw_in (List.mem_of_getElem? (i := 353) (by decide +kernel)) rfl, tw_in (List.mem_of_getElem? (i := 354) (by decide +kernel)) rfl, tw_in (List.mem_of_getElem? (i := 355) (by decide +kernel)) rfl, ⟨(RX0, TX0, 5), rfl, rfl⟩, cqX0_hasPerson⟩
theorem cvX7_93 : CV RX7 93 qX0_trait 0 2 := ⟨tw_in (List.mem_of_getElem? (i := 357) (by decide +kernel)) rfl, tw_in (List.mem_of_getElem? (i := 358) (by decide +kernel)) rfl, tw_in (List.mem_of_getElem? (i := 359) (by decide +kernel)) rfl, ⟨(RX0, TX0, 5), rfl, rfl⟩, cqX0_trait⟩
abbrev qX8_isOne : MI := (yX8_isOne, cX8_isOne, 2, (some .boolean))
theorem cqX8_isOne : CQ qX8_isOne 1 := ⟨tw_in (List.mem_of_getElem? (i := 72) (by decide +kernel)) rfl, tw_in (List.mem_of_getElem? (i := 933) (by decide +kernel)) rfl, by decide +kernel, by decide⟩
theorem cvX8_105 : CV RX8 105 qX8_isOne 8 1 := ⟨tw_in (List.mem_of_getElem? (i := 930) (by decide +kernel)) rfl, tw_in (List.mem_of_getElem? (i := 932) (by decide +kernel)) rfl, tw_in (List.mem_of_getElem? (i := 40) (by decide +kernel)) rfl, ⟨(RX8, TX8, 19), rfl, rfl⟩, cqX8_isOne⟩
abbrev qX8_isWrong : MI := (yX8_isWrong, cX8_isWrong, 2, (some .boolean))
theorem cqX8_isWrong : CQ qX8_isWrong 1 := ⟨tw_in (List.mem_of_getElem? (i := 72) (by decide +kernel)) rfl, tw_in (List.mem_of_getElem? (i := 945) (by decide +kernel)) rfl, by decide +kernel, by decide⟩
theorem cvX8_108 : CV RX8 108 qX8_isWrong 8 1 := ⟨tw_in (List.mem_of_getElem? (i := 942) (by decide +kernel)) rfl, tw_in (List.mem_of_getElem? (i := 944) (by decide +kernel)) rfl, tw_in (List.mem_of_getElem? (i := 41) (by decide +kernel)) rfl, ⟨(RX8, TX8, 19), rfl, rfl⟩, cqX8_isWrong⟩
abbrev qX8_whyNot : MI := (yX8_whyNot, cX8_whyNot, 3, (some .int))
theorem cqX8_whyNot : CQ qX8_whyNot 2 := ⟨tw_in (List.mem_of_getElem? (i := 72) (by decide +kernel)) rfl, tw_in (List.mem_of_getElem? (i := 956) (by decide +kernel)) rfl, by decide +kernel, by decide⟩
theorem cvX8_141 : CV RX8 141 qX8_whyNot 8 2 := ⟨tw_in (List.mem_of_getElem? (i := 953) (by decide +kernel)) rfl, tw_in (List.mem_of_getElem? (i := 955) (by decide +kernel)) rfl, tw_in (List.mem_of_getElem? (i := 42) (by decide +kernel)) rfl, ⟨(RX8, TX8, 19), rfl, rfl⟩, cqX8_whyNot⟩
abbrev qX8_note : MI := (yX8_note, cX8_note, 1, none)
theorem cqX8_note : CQ qX8_note 0 := ⟨tw_in (List.mem_of_getElem? (i := 72) (by decide +kernel)) rfl, tw_in (List.mem_of_getElem? (i := 966) (by decide +kernel)) rfl, by decide +kernel, by decide⟩
theorem cvX8_144 : CV RX8 144 qX8_note 8 0 := ⟨tw_in (List.mem_of_getElem? (i := 963) (by decide +kernel)) rfl, tw_in (List.mem_of_getElem? (i := 965) (by decide +kernel)) rfl, tw_in (List.mem_of_getElem? (i := 43) (by decide +kernel)) rfl, ⟨(RX8, TX8, 19), rfl, rfl⟩, cqX8_note⟩
abbrev qX8_isThere : MI := (yX8_isThere, cX8_isThere, 1, (some .boolean))
theorem cqX8_isThere : CQ qX8_isThere 0 := ⟨tw_in (List.mem_of_getElem? (i := 72) (by decide +kernel)) rfl, tw_in (List.mem_of_getElem? (i := 1004) (by decide +kernel)) rfl, by decide +kernel, by decide⟩
theorem cvX8_150 : CV RX8 150 qX8_isThere 8 0 := ⟨tw_in (List.mem_of_getElem? (i := 1001) (by decide +kernel)) rfl, tw_in (List.mem_of_getElem? (i := 1003) (by decide +kernel)) rfl, tw_in (List.mem_of_getElem? (i := 44) (by decide +kernel)) rfl, ⟨(RX8, TX8, 19), rfl, rfl⟩, cqX8_isThere⟩
abbrev qX8_begin : MI := (yX8_begin, cX8_begin, 1, none)
theorem cqX8_begin : CQ qX8_begin 0 := ⟨tw_in (List.mem_of_getElem? (i := 72) (by decide +kernel)) rfl, tw_in (List.mem_of_getElem? (i := 1032) (by decide +kernel)) rfl, by decide +kernel, by decide⟩
theorem cvX8_153 : CV RX8 153 qX8_begin 8 0 := ⟨tw_in (List.mem_of_getElem? (i := 1029) (by decide +kernel)) rfl, tw_in (List.mem_of_getElem? (i := 1031) (by decide +kernel)) rfl, tw_in (List.mem_of_getElem? (i := 45) (by decide +kernel)) rfl, ⟨(RX8, TX8, 19), rfl, rfl⟩, cqX8_begin⟩
abbrev qX8_worth : MI := (yX8_worth, cX8_worth, 4, (some .int))
theorem cqX8_worth : CQ qX8_worth 2 := ⟨tw_in (List.mem_of_getElem? (i := 72) (by decide +kernel)) rfl, tw_in (List.mem_of_getElem? (i := 1047) (by decide +kernel)) rfl, by decide +kernel, by decide⟩
theorem cvX8_159 : CV RX8 159 qX8_worth 8 2 := ⟨tw_in (List.mem_of_getElem? (i := 1044) (by decide +kernel)) rfl, tw_in (List.mem_of_getElem? (i := 1046) (by decide +kernel)) rfl, tw_in (List.mem_of_getElem? (i := 47) (by decide +kernel)) rfl, ⟨(RX8, TX8, 19), rfl, rfl⟩, cqX8_worth⟩
abbrev qX8_layMatch : MI := (yX8_layMatch, cX8_layMatch, 8, none)
theorem cqX8_layMatch : CQ qX8_layMatch 0 := ⟨tw_in (List.mem_of_getElem? (i := 72) (by decide +kernel)) rfl, tw_in (List.mem_of_getElem? (i := 1040) (by decide +kernel)) rfl, by decide +kernel, by decide⟩
theorem cvX8_162 : CV RX8 162 qX8_layMatch 8 0 := ⟨tw_in (List.mem_of_getElem? (i := 1037) (by decide +kernel)) rfl, tw_in (List.mem_of_getElem? (i := 1039) (by decide +kernel)) rfl, tw_in (List.mem_of_getElem? (i := 46) (by decide +kernel)) rfl, ⟨(RX8, TX8, 19), rfl, rfl⟩, cqX8_layMatch⟩
abbrev qX8_matched : MI := (yX8_matched, cX8_matched, 7, (some .int))
theorem cqX8_matched : CQ qX8_matched 1 := ⟨tw_in (List.mem_of_getElem? (i := 72) (by decide +kernel)) rfl, tw_in (List.mem_of_getElem? (i := 1051) (by decide +kernel)) rfl, by decide +kernel, by decide⟩
theorem cvX8_165 : CV RX8 165 qX8_matched 8 1 := ⟨tw_in (List.mem_of_getElem? (i := 1048) (by decide +kernel)) rfl, tw_in (List.mem_of_getElem? (i := 1050) (by decide +kernel)) rfl, tw_in (List.mem_of_getElem? (i := 48) (by decide +kernel)) rfl, ⟨(RX8, TX8, 19), rfl, rfl⟩, cqX8_matched⟩
abbrev qX8_stepsTo : MI := (yX8_stepsTo, cX8_stepsTo, 5, (some .int))
theorem cqX8_stepsTo : CQ qX8_stepsTo 2 := ⟨tw_in (List.mem_of_getElem? (i := 72) (by decide +kernel)) rfl, tw_in (List.mem_of_getElem? (i := 1059) (by decide +kernel)) rfl, by decide +kernel, by decide⟩
theorem cvX8_168 : CV RX8 168 qX8_stepsTo 8 2 := ⟨tw_in (List.mem_of_getElem? (i := 1056) (by decide +kernel)) rfl, tw_in (List.mem_of_getElem? (i := 1058) (by decide +kernel)) rfl, tw_in (List.mem_of_getElem? (i := 49) (by decide +kernel)) rfl, ⟨(RX8, TX8, 19), rfl, rfl⟩, cqX8_stepsTo⟩
abbrev qX8_does : MI := (yX8_does, cX8_does, 4, (some .int))
theorem cqX8_does : CQ qX8_does 1 := ⟨tw_in (List.mem_of_getElem? (i := 72) (by decide +kernel)) rfl, tw_in (List.mem_of_getElem? (i := 1079) (by decide +kernel)) rfl, by decide +kernel, by decide⟩
theorem cvX8_171 : CV RX8 171 qX8_does 8 1 := ⟨tw_in (List.mem_of_getElem? (i := 1076) (by decide +kernel)) rfl, tw_in (List.mem_of_getElem? (i := 1078) (by decide +kernel)) rfl, tw_in (List.mem_of_getElem? (i := 52) (by decide +kernel)) rfl, ⟨(RX8, TX8, 19), rfl, rfl⟩, cqX8_does⟩
abbrev qX8_planned : MI := (yX8_planned, cX8_planned, 8, (some .int))
theorem cqX8_planned : CQ qX8_planned 4 := ⟨tw_in (List.mem_of_getElem? (i := 72) (by decide +kernel)) rfl, tw_in (List.mem_of_getElem? (i := 1075) (by decide +kernel)) rfl, by decide +kernel, by decide⟩
theorem cvX8_177 : CV RX8 177 qX8_planned 8 4 := ⟨tw_in (List.mem_of_getElem? (i := 1072) (by decide +kernel)) rfl, tw_in (List.mem_of_getElem? (i := 1074) (by decide +kernel)) rfl, tw_in (List.mem_of_getElem? (i := 51) (by decide +kernel)) rfl, ⟨(RX8, TX8, 19), rfl, rfl⟩, cqX8_planned⟩
abbrev qX8_take : MI := (yX8_take, cX8_take, 5, none)
theorem cqX8_take : CQ qX8_take 4 := ⟨tw_in (List.mem_of_getElem? (i := 72) (by decide +kernel)) rfl, tw_in (List.mem_of_getElem? (i := 1091) (by decide +kernel)) rfl, by decide +kernel, by decide⟩
theorem cvX8_180 : CV RX8 180 qX8_take 8 4 := ⟨tw_in (List.mem_of_getElem? (i := 1088) (by decide +kernel)) rfl, tw_in (List.mem_of_getElem? (i := 1090) (by decide +kernel)) rfl, tw_in (List.mem_of_getElem? (i := 55) (by decide +kernel)) rfl, ⟨(RX8, TX8, 19), rfl, rfl⟩, cqX8_take⟩
abbrev qX8_nextCode : MI := (yX8_nextCode, cX8_nextCode, 3, (some .int))
theorem cqX8_nextCode : CQ qX8_nextCode 1 := ⟨tw_in (List.mem_of_getElem? (i := 72) (by decide +kernel)) rfl, tw_in (List.mem_of_getElem? (i := 1095) (by decide +kernel)) rfl, by decide +kernel, by decide⟩
theorem cvX8_184 : CV RX8 184 qX8_nextCode 8 1 := ⟨tw_in (List.mem_of_getElem? (i := 1092) (by decide +kernel)) rfl, tw_in (List.mem_of_getElem? (i := 1094) (by decide +kernel)) rfl, tw_in (List.mem_of_getElem? (i := 56) (by decide +kernel)) rfl, ⟨(RX8, TX8, 19), rfl, rfl⟩, cqX8_nextCode⟩
abbrev qX8_layLast : MI := (yX8_layLast, cX8_layLast, 5, none)
theorem cqX8_layLast : CQ qX8_layLast 3 := ⟨tw_in (List.mem_of_getElem? (i := 72) (by decide +kernel)) rfl, tw_in (List.mem_of_getElem? (i := 1087) (by decide +kernel)) rfl, by decide +kernel, by decide⟩
theorem cvX8_187 : CV RX8 187 qX8_layLast 8 3 := ⟨tw_in (List.mem_of_getElem? (i := 1084) (by decide +kernel)) rfl, tw_in (List.mem_of_getElem? (i := 1086) (by decide +kernel)) rfl, tw_in (List.mem_of_getElem? (i := 54) (by decide +kernel)) rfl, ⟨(RX8, TX8, 19), rfl, rfl⟩, cqX8_layLast⟩
abbrev qX8_laySecond : MI := (yX8_laySecond, cX8_laySecond, 4, none)
theorem cqX8_laySecond : CQ qX8_laySecond 2 := ⟨tw_in (List.mem_of_getElem? (i := 72) (by decide +kernel)) rfl, tw_in (List.mem_of_getElem? (i := 1083) (by decide +kernel)) rfl, by decide +kernel, by decide⟩
theorem cvX8_191 : CV RX8 191 qX8_laySecond 8 2 := ⟨tw_in (List.mem_of_getElem? (i := 1080) (by decide +kernel)) rfl, tw_in (List.mem_of_getElem? (i := 1082) (by decide +kernel)) rfl, tw_in (List.mem_of_getElem? (i := 53) (by decide +kernel)) rfl, ⟨(RX8, TX8, 19), rfl, rfl⟩, cqX8_laySecond⟩
abbrev qX8_layPlan : MI := (yX8_layPlan, cX8_layPlan, 3, none)
theorem cqX8_layPlan : CQ qX8_layPlan 1 := ⟨tw_in (List.mem_of_getElem? (i := 72) (by decide +kernel)) rfl, tw_in (List.mem_of_getElem? (i := 1071) (by decide +kernel)) rfl, by decide +kernel, by decide⟩
theorem cvX8_195 : CV RX8 195 qX8_layPlan 8 1 := ⟨tw_in (List.mem_of_getElem? (i := 1068) (by decide +kernel)) rfl, tw_in (List.mem_of_getElem? (i := 1070) (by decide +kernel)) rfl, tw_in (List.mem_of_getElem? (i := 50) (by decide +kernel)) rfl, ⟨(RX8, TX8, 19), rfl, rfl⟩, cqX8_layPlan⟩
abbrev qX8_badRow : MI := (yX8_badRow, cX8_badRow, 5, (some .int))
theorem cqX8_badRow : CQ qX8_badRow 4 := ⟨tw_in (List.mem_of_getElem? (i := 72) (by decide +kernel)) rfl, tw_in (List.mem_of_getElem? (i := 1133) (by decide +kernel)) rfl, by decide +kernel, by decide⟩
theorem cvX8_221 : CV RX8 221 qX8_badRow 8 4 := ⟨tw_in (List.mem_of_getElem? (i := 1130) (by decide +kernel)) rfl, tw_in (List.mem_of_getElem? (i := 1132) (by decide +kernel)) rfl, tw_in (List.mem_of_getElem? (i := 57) (by decide +kernel)) rfl, ⟨(RX8, TX8, 19), rfl, rfl⟩, cqX8_badRow⟩
abbrev qX8_saidAs : MI := (yX8_saidAs, cX8_saidAs, 5, (some .int))
theorem cqX8_saidAs : CQ qX8_saidAs 4 := ⟨tw_in (List.mem_of_getElem? (i := 72) (by decide +kernel)) rfl, tw_in (List.mem_of_getElem? (i := 1168) (by decide +kernel)) rfl, by decide +kernel, by decide⟩
theorem cvX8_228 : CV RX8 228 qX8_saidAs 8 4 := ⟨tw_in (List.mem_of_getElem? (i := 1165) (by decide +kernel)) rfl, tw_in (List.mem_of_getElem? (i := 1167) (by decide +kernel)) rfl, tw_in (List.mem_of_getElem? (i := 61) (by decide +kernel)) rfl, ⟨(RX8, TX8, 19), rfl, rfl⟩, cqX8_saidAs⟩
abbrev qX8_fitBy : MI := (yX8_fitBy, cX8_fitBy, 9, (some .int))
theorem cqX8_fitBy : CQ qX8_fitBy 4 := ⟨tw_in (List.mem_of_getElem? (i := 72) (by decide +kernel)) rfl, tw_in (List.mem_of_getElem? (i := 1164) (by decide +kernel)) rfl, by decide +kernel, by decide⟩
theorem cvX8_234 : CV RX8 234 qX8_fitBy 8 4 := ⟨tw_in (List.mem_of_getElem? (i := 1161) (by decide +kernel)) rfl, tw_in (List.mem_of_getElem? (i := 1163) (by decide +kernel)) rfl, tw_in (List.mem_of_getElem? (i := 60) (by decide +kernel)) rfl, ⟨(RX8, TX8, 19), rfl, rfl⟩, cqX8_fitBy⟩
abbrev qX8_bestMiles : MI := (yX8_bestMiles, cX8_bestMiles, 11, (some .int))
theorem cqX8_bestMiles : CQ qX8_bestMiles 3 := ⟨tw_in (List.mem_of_getElem? (i := 72) (by decide +kernel)) rfl, tw_in (List.mem_of_getElem? (i := 1172) (by decide +kernel)) rfl, by decide +kernel, by decide⟩
theorem cvX8_237 : CV RX8 237 qX8_bestMiles 8 3 := ⟨tw_in (List.mem_of_getElem? (i := 1169) (by decide +kernel)) rfl, tw_in (List.mem_of_getElem? (i := 1171) (by decide +kernel)) rfl, tw_in (List.mem_of_getElem? (i := 62) (by decide +kernel)) rfl, ⟨(RX8, TX8, 19), rfl, rfl⟩, cqX8_bestMiles⟩
abbrev qX8_foundBy : MI := (yX8_foundBy, cX8_foundBy, 7, (some .int))
theorem cqX8_foundBy : CQ qX8_foundBy 5 := ⟨tw_in (List.mem_of_getElem? (i := 72) (by decide +kernel)) rfl, tw_in (List.mem_of_getElem? (i := 1159) (by decide +kernel)) rfl, by decide +kernel, by decide⟩
theorem cvX8_241 : CV RX8 241 qX8_foundBy 8 5 := ⟨tw_in (List.mem_of_getElem? (i := 1156) (by decide +kernel)) rfl, tw_in (List.mem_of_getElem? (i := 1158) (by decide +kernel)) rfl, tw_in (List.mem_of_getElem? (i := 59) (by decide +kernel)) rfl, ⟨(RX8, TX8, 19), rfl, rfl⟩, cqX8_foundBy⟩
abbrev qX8_partsBy : MI := (yX8_partsBy, cX8_partsBy, 9, (some .int))
theorem cqX8_partsBy : CQ qX8_partsBy 7 := ⟨tw_in (List.mem_of_getElem? (i := 72) (by decide +kernel)) rfl, tw_in (List.mem_of_getElem? (i := 1155) (by decide +kernel)) rfl, by decide +kernel, by decide⟩
theorem cvX8_245 : CV RX8 245 qX8_partsBy 8 7 := ⟨tw_in (List.mem_of_getElem? (i := 1152) (by decide +kernel)) rfl, tw_in (List.mem_of_getElem? (i := 1154) (by decide +kernel)) rfl, tw_in (List.mem_of_getElem? (i := 58) (by decide +kernel)) rfl, ⟨(RX8, TX8, 19), rfl, rfl⟩, cqX8_partsBy⟩
abbrev qX8_peek : MI := (yX8_peek, cX8_peek, 1, (some .int))
theorem cqX8_peek : CQ qX8_peek 0 := ⟨tw_in (List.mem_of_getElem? (i := 72) (by decide +kernel)) rfl, tw_in (List.mem_of_getElem? (i := 904) (by decide +kernel)) rfl, by decide +kernel, by decide⟩
theorem cvX8_68 : CV RX8 68 qX8_peek 8 0 := ⟨tw_in (List.mem_of_getElem? (i := 901) (by decide +kernel)) rfl, tw_in (List.mem_of_getElem? (i := 903) (by decide +kernel)) rfl, tw_in (List.mem_of_getElem? (i := 36) (by decide +kernel)) rfl, ⟨(RX8, TX8, 19), rfl, rfl⟩, cqX8_peek⟩
abbrev qX8_figure : MI := (yX8_figure, cX8_figure, 5, (some .int))
theorem cqX8_figure : CQ qX8_figure 3 := ⟨tw_in (List.mem_of_getElem? (i := 72) (by decide +kernel)) rfl, tw_in (List.mem_of_getElem? (i := 908) (by decide +kernel)) rfl, by decide +kernel, by decide⟩
theorem cvX8_76 : CV RX8 76 qX8_figure 8 3 := ⟨tw_in (List.mem_of_getElem? (i := 905) (by decide +kernel)) rfl, tw_in (List.mem_of_getElem? (i := 907) (by decide +kernel)) rfl, tw_in (List.mem_of_getElem? (i := 37) (by decide +kernel)) rfl, ⟨(RX8, TX8, 19), rfl, rfl⟩, cqX8_figure⟩
abbrev qX8_isSign : MI := (yX8_isSign, cX8_isSign, 2, (some .boolean))
theorem cqX8_isSign : CQ qX8_isSign 1 := ⟨tw_in (List.mem_of_getElem? (i := 72) (by decide +kernel)) rfl, tw_in (List.mem_of_getElem? (i := 900) (by decide +kernel)) rfl, by decide +kernel, by decide⟩
theorem cvX8_80 : CV RX8 80 qX8_isSign 8 1 := ⟨tw_in (List.mem_of_getElem? (i := 897) (by decide +kernel)) rfl, tw_in (List.mem_of_getElem? (i := 899) (by decide +kernel)) rfl, tw_in (List.mem_of_getElem? (i := 35) (by decide +kernel)) rfl, ⟨(RX8, TX8, 19), rfl, rfl⟩, cqX8_isSign⟩
abbrev qX8_isPerson : MI := (yX8_isPerson, cX8_isPerson, 7, (some .boolean))
theorem cqX8_isPerson : CQ qX8_isPerson 1 := ⟨tw_in (List.mem_of_getElem? (i := 72) (by decide +kernel)) rfl, tw_in (List.mem_of_getElem? (i := 912) (by decide +kernel)) rfl, by decide +kernel, by decide⟩
theorem cvX8_88 : CV RX8 88 qX8_isPerson 8 1 := ⟨tw_in (List.mem_of_getElem? (i := 909) (by decide +kernel)) rfl, tw_in (List.mem_of_getElem? (i := 911) (by decide +kernel)) rfl, tw_in (List.mem_of_getElem? (i := 38) (by decide +kernel)) rfl, ⟨(RX8, TX8, 19), rfl, rfl⟩, cqX8_isPerson⟩
abbrev qX8_isWrongItem : MI := (yX8_isWrongItem, cX8_isWrongItem, 4, (some .boolean))
theorem cqX8_isWrongItem : CQ qX8_isWrongItem 0 := ⟨tw_in (List.mem_of_getElem? (i := 72) (by decide +kernel)) rfl, tw_in (List.mem_of_getElem? (i := 919) (by decide +kernel)) rfl, by decide +kernel, by decide⟩
theorem cvX8_91 : CV RX8 91 qX8_isWrongItem 8 0 := ⟨tw_in (List.mem_of_getElem? (i := 916) (by decide +kernel)) rfl, tw_in (List.mem_of_getElem? (i := 918) (by decide +kernel)) rfl, tw_in (List.mem_of_getElem? (i := 39) (by decide +kernel)) rfl, ⟨(RX8, TX8, 19), rfl, rfl⟩, cqX8_isWrongItem⟩
abbrev qX8_isRead : MI := (yX8_isRead, cX8_isRead, 3, (some .boolean))
theorem cqX8_isRead : CQ qX8_isRead 0 := ⟨tw_in (List.mem_of_getElem? (i := 72) (by decide +kernel)) rfl, tw_in (List.mem_of_getElem? (i := 896) (by decide +kernel)) rfl, by decide +kernel, by decide⟩
theorem cvX8_95 : CV RX8 95 qX8_isRead 8 0 := ⟨tw_in (List.mem_of_getElem? (i := 893) (by decide +kernel)) rfl, tw_in (List.mem_of_getElem? (i := 895) (by decide +kernel)) rfl, tw_in (List.mem_of_getElem? (i := 34) (by decide +kernel)) rfl, ⟨(RX8, TX8, 19), rfl, rfl⟩, cqX8_isRead⟩
abbrev qJ6_bitCount_0f7a4 : MI := (yJ6_bitCount_0f7a4, cJ6_bitCount_0f7a4, 1, (some .int))
theorem cqJ6_bitCount_0f7a4 : CQ qJ6_bitCount_0f7a4 1 := ⟨tw_in (List.mem_of_getElem? (i := 76) (by decide +kernel)) rfl, tw_in (List.mem_of_getElem? (i := 669) (by decide +kernel)) rfl, by decide +kernel, by decide⟩
theorem csX0_103 : CS RX0 103 qJ6_bitCount_0f7a4 1 := ⟨tw_in (List.mem_of_getElem? (i := 667) (by decide +kernel)) rfl, tw_in (List.mem_of_getElem? (i := 668) (by decide +kernel)) rfl, cqJ6_bitCount_0f7a4⟩
theorem csX1_53 : CS RX1 53 qJ6_bitCount_0f7a4 1 := ⟨tw_in (List.mem_of_getElem? (i := 786) (by decide +kernel)) rfl, tw_in (List.mem_of_getElem? (i := 668) (by decide +kernel)) rfl, cqJ6_bitCount_0f7a4⟩
abbrev qJ7_fill_53178 : MI := (yJ7_fill_53178, cJ7_fill_53178, 4, none)
theorem cqJ7_fill_53178 : CQ qJ7_fill_53178 2 := ⟨tw_in (List.mem_of_getElem? (i := 75) (by decide +kernel)) rfl, tw_in (List.mem_of_getElem? (i := 541) (by decide +kernel)) rfl, by decide +kernel, by decide⟩
theorem csX2_29 : CS RX2 29 qJ7_fill_53178 2 := ⟨tw_in (List.mem_of_getElem? (i := 539) (by decide +kernel)) rfl, tw_in (List.mem_of_getElem? (i := 540) (by decide +kernel)) rfl, cqJ7_fill_53178⟩
abbrev qX4_gainOf : MI := (yX4_gainOf, cX4_gainOf, 2, (some .int))
theorem cqX4_gainOf : CQ qX4_gainOf 2 := ⟨tw_in (List.mem_of_getElem? (i := 70) (by decide +kernel)) rfl, tw_in (List.mem_of_getElem? (i := 617) (by decide +kernel)) rfl, by decide +kernel, by decide⟩
theorem csX4_22 : CS RX4 22 qX4_gainOf 2 := ⟨tw_in (List.mem_of_getElem? (i := 615) (by decide +kernel)) rfl, tw_in (List.mem_of_getElem? (i := 616) (by decide +kernel)) rfl, cqX4_gainOf⟩
abbrev qJ7_fill_d0a16 : MI := (yJ7_fill_d0a16, cJ7_fill_d0a16, 5, none)
theorem cqJ7_fill_d0a16 : CQ qJ7_fill_d0a16 2 := ⟨tw_in (List.mem_of_getElem? (i := 75) (by decide +kernel)) rfl, tw_in (List.mem_of_getElem? (i := 694) (by decide +kernel)) rfl, by decide +kernel, by decide⟩
theorem csX5_19 : CS RX5 19 qJ7_fill_d0a16 2 := ⟨tw_in (List.mem_of_getElem? (i := 692) (by decide +kernel)) rfl, tw_in (List.mem_of_getElem? (i := 693) (by decide +kernel)) rfl, cqJ7_fill_d0a16⟩
abbrev qX6_kindOf : MI := (yX6_kindOf, cX6_kindOf, 1, (some .int))
theorem cqX6_kindOf : CQ qX6_kindOf 1 := ⟨tw_in (List.mem_of_getElem? (i := 65) (by decide +kernel)) rfl, tw_in (List.mem_of_getElem? (i := 289) (by decide +kernel)) rfl, by decide +kernel, by decide⟩
theorem csX6_63 : CS RX6 63 qX6_kindOf 1 := ⟨tw_in (List.mem_of_getElem? (i := 287) (by decide +kernel)) rfl, tw_in (List.mem_of_getElem? (i := 288) (by decide +kernel)) rfl, cqX6_kindOf⟩
abbrev qX7_isUnder : MI := (yX7_isUnder, cX7_isUnder, 4, (some .boolean))
theorem cqX7_isUnder : CQ qX7_isUnder 2 := ⟨tw_in (List.mem_of_getElem? (i := 64) (by decide +kernel)) rfl, tw_in (List.mem_of_getElem? (i := 369) (by decide +kernel)) rfl, by decide +kernel, by decide⟩
theorem csX7_101 : CS RX7 101 qX7_isUnder 2 := ⟨tw_in (List.mem_of_getElem? (i := 367) (by decide +kernel)) rfl, tw_in (List.mem_of_getElem? (i := 368) (by decide +kernel)) rfl, cqX7_isUnder⟩
abbrev qX7_daysToReach : MI := (yX7_daysToReach, cX7_daysToReach, 5, (some .int))
theorem cqX7_daysToReach : CQ qX7_daysToReach 3 := ⟨tw_in (List.mem_of_getElem? (i := 64) (by decide +kernel)) rfl, tw_in (List.mem_of_getElem? (i := 598) (by decide +kernel)) rfl, by decide +kernel, by decide⟩
theorem csX7_177 : CS RX7 177 qX7_daysToReach 3 := ⟨tw_in (List.mem_of_getElem? (i := 596) (by decide +kernel)) rfl, tw_in (List.mem_of_getElem? (i := 597) (by decide +kernel)) rfl, cqX7_daysToReach⟩
abbrev qX7_waysOfGusts : MI := (yX7_waysOfGusts, cX7_waysOfGusts, 4, (some .int))
theorem cqX7_waysOfGusts : CQ qX7_waysOfGusts 2 := ⟨tw_in (List.mem_of_getElem? (i := 64) (by decide +kernel)) rfl, tw_in (List.mem_of_getElem? (i := 643) (by decide +kernel)) rfl, by decide +kernel, by decide⟩
theorem csX7_187 : CS RX7 187 qX7_waysOfGusts 2 := ⟨tw_in (List.mem_of_getElem? (i := 641) (by decide +kernel)) rfl, tw_in (List.mem_of_getElem? (i := 642) (by decide +kernel)) rfl, cqX7_waysOfGusts⟩
abbrev qX7_commonDivisor : MI := (yX7_commonDivisor, cX7_commonDivisor, 6, (some .int))
theorem cqX7_commonDivisor : CQ qX7_commonDivisor 2 := ⟨tw_in (List.mem_of_getElem? (i := 64) (by decide +kernel)) rfl, tw_in (List.mem_of_getElem? (i := 646) (by decide +kernel)) rfl, by decide +kernel, by decide⟩
theorem csX7_190 : CS RX7 190 qX7_commonDivisor 2 := ⟨tw_in (List.mem_of_getElem? (i := 644) (by decide +kernel)) rfl, tw_in (List.mem_of_getElem? (i := 645) (by decide +kernel)) rfl, cqX7_commonDivisor⟩
abbrev qX7_drawDays : MI := (yX7_drawDays, cX7_drawDays, 10, none)
theorem cqX7_drawDays : CQ qX7_drawDays 3 := ⟨tw_in (List.mem_of_getElem? (i := 64) (by decide +kernel)) rfl, tw_in (List.mem_of_getElem? (i := 654) (by decide +kernel)) rfl, by decide +kernel, by decide⟩
theorem csX7_194 : CS RX7 194 qX7_drawDays 3 := ⟨tw_in (List.mem_of_getElem? (i := 652) (by decide +kernel)) rfl, tw_in (List.mem_of_getElem? (i := 653) (by decide +kernel)) rfl, cqX7_drawDays⟩
abbrev qX7_isLane : MI := (yX7_isLane, cX7_isLane, 1, (some .boolean))
theorem cqX7_isLane : CQ qX7_isLane 1 := ⟨tw_in (List.mem_of_getElem? (i := 64) (by decide +kernel)) rfl, tw_in (List.mem_of_getElem? (i := 687) (by decide +kernel)) rfl, by decide +kernel, by decide⟩
theorem csX7_206 : CS RX7 206 qX7_isLane 1 := ⟨tw_in (List.mem_of_getElem? (i := 685) (by decide +kernel)) rfl, tw_in (List.mem_of_getElem? (i := 686) (by decide +kernel)) rfl, cqX7_isLane⟩
abbrev qX7_refuseRow : MI := (yX7_refuseRow, cX7_refuseRow, 2, (some .int))
theorem cqX7_refuseRow : CQ qX7_refuseRow 2 := ⟨tw_in (List.mem_of_getElem? (i := 64) (by decide +kernel)) rfl, tw_in (List.mem_of_getElem? (i := 714) (by decide +kernel)) rfl, by decide +kernel, by decide⟩
theorem csX7_218 : CS RX7 218 qX7_refuseRow 2 := ⟨tw_in (List.mem_of_getElem? (i := 712) (by decide +kernel)) rfl, tw_in (List.mem_of_getElem? (i := 713) (by decide +kernel)) rfl, cqX7_refuseRow⟩
abbrev qX7_reachedNext : MI := (yX7_reachedNext, cX7_reachedNext, 6, (some .int))
theorem cqX7_reachedNext : CQ qX7_reachedNext 2 := ⟨tw_in (List.mem_of_getElem? (i := 64) (by decide +kernel)) rfl, tw_in (List.mem_of_getElem? (i := 601) (by decide +kernel)) rfl, by decide +kernel, by decide⟩
theorem csX7_277 : CS RX7 277 qX7_reachedNext 2 := ⟨tw_in (List.mem_of_getElem? (i := 599) (by decide +kernel)) rfl, tw_in (List.mem_of_getElem? (i := 600) (by decide +kernel)) rfl, cqX7_reachedNext⟩
abbrev qX7_isBarred : MI := (yX7_isBarred, cX7_isBarred, 4, (some .boolean))
theorem cqX7_isBarred : CQ qX7_isBarred 3 := ⟨tw_in (List.mem_of_getElem? (i := 64) (by decide +kernel)) rfl, tw_in (List.mem_of_getElem? (i := 408) (by decide +kernel)) rfl, by decide +kernel, by decide⟩
theorem csX7_288 : CS RX7 288 qX7_isBarred 3 := ⟨tw_in (List.mem_of_getElem? (i := 606) (by decide +kernel)) rfl, tw_in (List.mem_of_getElem? (i := 407) (by decide +kernel)) rfl, cqX7_isBarred⟩
abbrev qX8_needOf : MI := (yX8_needOf, cX8_needOf, 2, (some .int))
theorem cqX8_needOf : CQ qX8_needOf 2 := ⟨tw_in (List.mem_of_getElem? (i := 72) (by decide +kernel)) rfl, tw_in (List.mem_of_getElem? (i := 948) (by decide +kernel)) rfl, by decide +kernel, by decide⟩
theorem csX8_111 : CS RX8 111 qX8_needOf 2 := ⟨tw_in (List.mem_of_getElem? (i := 946) (by decide +kernel)) rfl, tw_in (List.mem_of_getElem? (i := 947) (by decide +kernel)) rfl, cqX8_needOf⟩
abbrev qX8_isOverSands : MI := (yX8_isOverSands, cX8_isOverSands, 2, (some .boolean))
theorem cqX8_isOverSands : CQ qX8_isOverSands 2 := ⟨tw_in (List.mem_of_getElem? (i := 72) (by decide +kernel)) rfl, tw_in (List.mem_of_getElem? (i := 962) (by decide +kernel)) rfl, by decide +kernel, by decide⟩
theorem csX8_115 : CS RX8 115 qX8_isOverSands 2 := ⟨tw_in (List.mem_of_getElem? (i := 960) (by decide +kernel)) rfl, tw_in (List.mem_of_getElem? (i := 961) (by decide +kernel)) rfl, cqX8_isOverSands⟩
abbrev qX8_milesOf : MI := (yX8_milesOf, cX8_milesOf, 2, (some .int))
theorem cqX8_milesOf : CQ qX8_milesOf 2 := ⟨tw_in (List.mem_of_getElem? (i := 72) (by decide +kernel)) rfl, tw_in (List.mem_of_getElem? (i := 978) (by decide +kernel)) rfl, by decide +kernel, by decide⟩
theorem csX8_119 : CS RX8 119 qX8_milesOf 2 := ⟨tw_in (List.mem_of_getElem? (i := 976) (by decide +kernel)) rfl, tw_in (List.mem_of_getElem? (i := 977) (by decide +kernel)) rfl, cqX8_milesOf⟩
abbrev qX8_saidBy : MI := (yX8_saidBy, cX8_saidBy, 4, (some .int))
theorem cqX8_saidBy : CQ qX8_saidBy 4 := ⟨tw_in (List.mem_of_getElem? (i := 72) (by decide +kernel)) rfl, tw_in (List.mem_of_getElem? (i := 981) (by decide +kernel)) rfl, by decide +kernel, by decide⟩
theorem csX8_123 : CS RX8 123 qX8_saidBy 4 := ⟨tw_in (List.mem_of_getElem? (i := 979) (by decide +kernel)) rfl, tw_in (List.mem_of_getElem? (i := 980) (by decide +kernel)) rfl, cqX8_saidBy⟩
abbrev qX8_saidOf : MI := (yX8_saidOf, cX8_saidOf, 3, (some .int))
theorem cqX8_saidOf : CQ qX8_saidOf 3 := ⟨tw_in (List.mem_of_getElem? (i := 72) (by decide +kernel)) rfl, tw_in (List.mem_of_getElem? (i := 975) (by decide +kernel)) rfl, by decide +kernel, by decide⟩
theorem csX8_127 : CS RX8 127 qX8_saidOf 3 := ⟨tw_in (List.mem_of_getElem? (i := 973) (by decide +kernel)) rfl, tw_in (List.mem_of_getElem? (i := 974) (by decide +kernel)) rfl, cqX8_saidOf⟩
abbrev qX8_comesOf : MI := (yX8_comesOf, cX8_comesOf, 5, (some .int))
theorem cqX8_comesOf : CQ qX8_comesOf 3 := ⟨tw_in (List.mem_of_getElem? (i := 72) (by decide +kernel)) rfl, tw_in (List.mem_of_getElem? (i := 972) (by decide +kernel)) rfl, by decide +kernel, by decide⟩
theorem csX8_131 : CS RX8 131 qX8_comesOf 3 := ⟨tw_in (List.mem_of_getElem? (i := 970) (by decide +kernel)) rfl, tw_in (List.mem_of_getElem? (i := 971) (by decide +kernel)) rfl, cqX8_comesOf⟩
abbrev qX8_stings : MI := (yX8_stings, cX8_stings, 1, (some .int))
theorem cqX8_stings : CQ qX8_stings 1 := ⟨tw_in (List.mem_of_getElem? (i := 72) (by decide +kernel)) rfl, tw_in (List.mem_of_getElem? (i := 984) (by decide +kernel)) rfl, by decide +kernel, by decide⟩
theorem csX8_134 : CS RX8 134 qX8_stings 1 := ⟨tw_in (List.mem_of_getElem? (i := 982) (by decide +kernel)) rfl, tw_in (List.mem_of_getElem? (i := 983) (by decide +kernel)) rfl, cqX8_stings⟩
abbrev qX8_isMay : MI := (yX8_isMay, cX8_isMay, 5, (some .boolean))
theorem cqX8_isMay : CQ qX8_isMay 3 := ⟨tw_in (List.mem_of_getElem? (i := 72) (by decide +kernel)) rfl, tw_in (List.mem_of_getElem? (i := 959) (by decide +kernel)) rfl, by decide +kernel, by decide⟩
theorem csX8_137 : CS RX8 137 qX8_isMay 3 := ⟨tw_in (List.mem_of_getElem? (i := 957) (by decide +kernel)) rfl, tw_in (List.mem_of_getElem? (i := 958) (by decide +kernel)) rfl, cqX8_isMay⟩
abbrev qX8_carries : MI := (yX8_carries, cX8_carries, 6, (some .int))
theorem cqX8_carries : CQ qX8_carries 3 := ⟨tw_in (List.mem_of_getElem? (i := 72) (by decide +kernel)) rfl, tw_in (List.mem_of_getElem? (i := 969) (by decide +kernel)) rfl, by decide +kernel, by decide⟩
theorem csX8_147 : CS RX8 147 qX8_carries 3 := ⟨tw_in (List.mem_of_getElem? (i := 967) (by decide +kernel)) rfl, tw_in (List.mem_of_getElem? (i := 968) (by decide +kernel)) rfl, cqX8_carries⟩
abbrev qX8_has : MI := (yX8_has, cX8_has, 2, (some .boolean))
theorem cqX8_has : CQ qX8_has 2 := ⟨tw_in (List.mem_of_getElem? (i := 72) (by decide +kernel)) rfl, tw_in (List.mem_of_getElem? (i := 1043) (by decide +kernel)) rfl, by decide +kernel, by decide⟩
theorem csX8_156 : CS RX8 156 qX8_has 2 := ⟨tw_in (List.mem_of_getElem? (i := 1041) (by decide +kernel)) rfl, tw_in (List.mem_of_getElem? (i := 1042) (by decide +kernel)) rfl, cqX8_has⟩
abbrev qX8_forgivenOnes : MI := (yX8_forgivenOnes, cX8_forgivenOnes, 3, (some .int))
theorem cqX8_forgivenOnes : CQ qX8_forgivenOnes 1 := ⟨tw_in (List.mem_of_getElem? (i := 72) (by decide +kernel)) rfl, tw_in (List.mem_of_getElem? (i := 1110) (by decide +kernel)) rfl, by decide +kernel, by decide⟩
theorem csX8_206 : CS RX8 206 qX8_forgivenOnes 1 := ⟨tw_in (List.mem_of_getElem? (i := 1108) (by decide +kernel)) rfl, tw_in (List.mem_of_getElem? (i := 1109) (by decide +kernel)) rfl, cqX8_forgivenOnes⟩
abbrev qX8_wonOnes : MI := (yX8_wonOnes, cX8_wonOnes, 3, (some .int))
theorem cqX8_wonOnes : CQ qX8_wonOnes 1 := ⟨tw_in (List.mem_of_getElem? (i := 72) (by decide +kernel)) rfl, tw_in (List.mem_of_getElem? (i := 1113) (by decide +kernel)) rfl, by decide +kernel, by decide⟩
theorem csX8_210 : CS RX8 210 qX8_wonOnes 1 := ⟨tw_in (List.mem_of_getElem? (i := 1111) (by decide +kernel)) rfl, tw_in (List.mem_of_getElem? (i := 1112) (by decide +kernel)) rfl, cqX8_wonOnes⟩
abbrev qX8_isPart : MI := (yX8_isPart, cX8_isPart, 3, (some .boolean))
theorem cqX8_isPart : CQ qX8_isPart 3 := ⟨tw_in (List.mem_of_getElem? (i := 72) (by decide +kernel)) rfl, tw_in (List.mem_of_getElem? (i := 1136) (by decide +kernel)) rfl, by decide +kernel, by decide⟩
theorem csX8_213 : CS RX8 213 qX8_isPart 3 := ⟨tw_in (List.mem_of_getElem? (i := 1134) (by decide +kernel)) rfl, tw_in (List.mem_of_getElem? (i := 1135) (by decide +kernel)) rfl, cqX8_isPart⟩
abbrev qX8_isSheet : MI := (yX8_isSheet, cX8_isSheet, 1, (some .boolean))
theorem cqX8_isSheet : CQ qX8_isSheet 1 := ⟨tw_in (List.mem_of_getElem? (i := 72) (by decide +kernel)) rfl, tw_in (List.mem_of_getElem? (i := 1120) (by decide +kernel)) rfl, by decide +kernel, by decide⟩
theorem csX8_216 : CS RX8 216 qX8_isSheet 1 := ⟨tw_in (List.mem_of_getElem? (i := 1118) (by decide +kernel)) rfl, tw_in (List.mem_of_getElem? (i := 1119) (by decide +kernel)) rfl, cqX8_isSheet⟩
abbrev qX8_cutTo : MI := (yX8_cutTo, cX8_cutTo, 3, (some .long))
theorem cqX8_cutTo : CQ qX8_cutTo 2 := ⟨tw_in (List.mem_of_getElem? (i := 72) (by decide +kernel)) rfl, tw_in (List.mem_of_getElem? (i := 1147) (by decide +kernel)) rfl, by decide +kernel, by decide⟩
theorem csX8_224 : CS RX8 224 qX8_cutTo 2 := ⟨tw_in (List.mem_of_getElem? (i := 1145) (by decide +kernel)) rfl, tw_in (List.mem_of_getElem? (i := 1146) (by decide +kernel)) rfl, cqX8_cutTo⟩
abbrev qX8_in : MI := (yX8_in, cX8_in, 3, (some .boolean))
theorem cqX8_in : CQ qX8_in 3 := ⟨tw_in (List.mem_of_getElem? (i := 72) (by decide +kernel)) rfl, tw_in (List.mem_of_getElem? (i := 888) (by decide +kernel)) rfl, by decide +kernel, by decide⟩
theorem csX8_57 : CS RX8 57 qX8_in 3 := ⟨tw_in (List.mem_of_getElem? (i := 886) (by decide +kernel)) rfl, tw_in (List.mem_of_getElem? (i := 887) (by decide +kernel)) rfl, cqX8_in⟩
abbrev qX8_kindBy : MI := (yX8_kindBy, cX8_kindBy, 1, (some .int))
theorem cqX8_kindBy : CQ qX8_kindBy 1 := ⟨tw_in (List.mem_of_getElem? (i := 72) (by decide +kernel)) rfl, tw_in (List.mem_of_getElem? (i := 915) (by decide +kernel)) rfl, by decide +kernel, by decide⟩
theorem csX8_72 : CS RX8 72 qX8_kindBy 1 := ⟨tw_in (List.mem_of_getElem? (i := 913) (by decide +kernel)) rfl, tw_in (List.mem_of_getElem? (i := 914) (by decide +kernel)) rfl, cqX8_kindBy⟩
abbrev qX8_addWrong : MI := (yX8_addWrong, cX8_addWrong, 5, (some .int))
theorem cqX8_addWrong : CQ qX8_addWrong 4 := ⟨tw_in (List.mem_of_getElem? (i := 72) (by decide +kernel)) rfl, tw_in (List.mem_of_getElem? (i := 922) (by decide +kernel)) rfl, by decide +kernel, by decide⟩
theorem csX8_84 : CS RX8 84 qX8_addWrong 4 := ⟨tw_in (List.mem_of_getElem? (i := 920) (by decide +kernel)) rfl, tw_in (List.mem_of_getElem? (i := 921) (by decide +kernel)) rfl, cqX8_addWrong⟩
abbrev qX8_bring : MI := (yX8_bring, cX8_bring, 6, none)
theorem cqX8_bring : CQ qX8_bring 5 := ⟨tw_in (List.mem_of_getElem? (i := 72) (by decide +kernel)) rfl, tw_in (List.mem_of_getElem? (i := 925) (by decide +kernel)) rfl, by decide +kernel, by decide⟩
theorem csX8_98 : CS RX8 98 qX8_bring 5 := ⟨tw_in (List.mem_of_getElem? (i := 923) (by decide +kernel)) rfl, tw_in (List.mem_of_getElem? (i := 924) (by decide +kernel)) rfl, cqX8_bring⟩
abbrev qX7_sayingOf : MI := (yX7_sayingOf, cX7_sayingOf, 4, (some .int))
theorem cqX7_sayingOf : CQ qX7_sayingOf 4 := ⟨tw_in (List.mem_of_getElem? (i := 64) (by decide +kernel)) rfl, tw_in (List.mem_of_getElem? (i := 446) (by decide +kernel)) rfl, by decide +kernel, by decide⟩
theorem cnX0_57 : CN RX0 57 qX7_sayingOf 4 := ⟨by decide +kernel, tw_in (List.mem_of_getElem? (i := 445) (by decide +kernel)) rfl, cqX7_sayingOf⟩
theorem cnX0_71 : CN RX0 71 qX7_isBarred 3 := ⟨by decide +kernel, tw_in (List.mem_of_getElem? (i := 407) (by decide +kernel)) rfl, cqX7_isBarred⟩
abbrev qX7_stingOf : MI := (yX7_stingOf, cX7_stingOf, 1, (some .int))
theorem cqX7_stingOf : CQ qX7_stingOf 1 := ⟨tw_in (List.mem_of_getElem? (i := 64) (by decide +kernel)) rfl, tw_in (List.mem_of_getElem? (i := 450) (by decide +kernel)) rfl, by decide +kernel, by decide⟩
theorem cnX0_84 : CN RX0 84 qX7_stingOf 1 := ⟨by decide +kernel, tw_in (List.mem_of_getElem? (i := 449) (by decide +kernel)) rfl, cqX7_stingOf⟩
theorem cnX1_28 : CN RX1 28 qX7_sayingOf 4 := ⟨by decide +kernel, tw_in (List.mem_of_getElem? (i := 445) (by decide +kernel)) rfl, cqX7_sayingOf⟩
theorem caX0_28 : CA RX0 28 := ⟨tw_in (List.mem_of_getElem? (i := 338) (by decide +kernel)) rfl, tw_in (List.mem_of_getElem? (i := 340) (by decide +kernel)) rfl, tw_in (List.mem_of_getElem? (i := 339) (by decide +kernel)) rfl, tw_in (List.mem_of_getElem? (i := 73) (by decide +kernel)) rfl⟩
theorem caX4_56 : CA RX4 56 := ⟨tw_in (List.mem_of_getElem? (i := 632) (by decide +kernel)) rfl, tw_in (List.mem_of_getElem? (i := 340) (by decide +kernel)) rfl, tw_in (List.mem_of_getElem? (i := 339) (by decide +kernel)) rfl, tw_in (List.mem_of_getElem? (i := 73) (by decide +kernel)) rfl⟩
theorem caX5_40 : CA RX5 40 := ⟨tw_in (List.mem_of_getElem? (i := 745) (by decide +kernel)) rfl, tw_in (List.mem_of_getElem? (i := 340) (by decide +kernel)) rfl, tw_in (List.mem_of_getElem? (i := 339) (by decide +kernel)) rfl, tw_in (List.mem_of_getElem? (i := 73) (by decide +kernel)) rfl⟩
theorem cmX0_48 : CM RX0 48 Lib.Math.abs.name Lib.Math.abs.code 1 := ⟨tw_in (List.mem_of_getElem? (i := 441) (by decide +kernel)) rfl, tw_in (List.mem_of_getElem? (i := 442) (by decide +kernel)) rfl, tw_in (List.mem_of_getElem? (i := 74) (by decide +kernel)) rfl, tw_in (List.mem_of_getElem? (i := 443) (by decide +kernel)) rfl⟩
theorem cmX0_87 : CM RX0 87 Lib.Math.min.name Lib.Math.min.code 2 := ⟨tw_in (List.mem_of_getElem? (i := 451) (by decide +kernel)) rfl, tw_in (List.mem_of_getElem? (i := 423) (by decide +kernel)) rfl, tw_in (List.mem_of_getElem? (i := 74) (by decide +kernel)) rfl, tw_in (List.mem_of_getElem? (i := 424) (by decide +kernel)) rfl⟩
theorem cmX1_65 : CM RX1 65 Lib.Math.max.name Lib.Math.max.code 2 := ⟨tw_in (List.mem_of_getElem? (i := 795) (by decide +kernel)) rfl, tw_in (List.mem_of_getElem? (i := 604) (by decide +kernel)) rfl, tw_in (List.mem_of_getElem? (i := 74) (by decide +kernel)) rfl, tw_in (List.mem_of_getElem? (i := 605) (by decide +kernel)) rfl⟩
theorem cmX3_33 : CM RX3 33 Lib.Math.min.name Lib.Math.min.code 2 := ⟨tw_in (List.mem_of_getElem? (i := 422) (by decide +kernel)) rfl, tw_in (List.mem_of_getElem? (i := 423) (by decide +kernel)) rfl, tw_in (List.mem_of_getElem? (i := 74) (by decide +kernel)) rfl, tw_in (List.mem_of_getElem? (i := 424) (by decide +kernel)) rfl⟩
theorem cmX7_280 : CM RX7 280 Lib.Math.min.name Lib.Math.min.code 2 := ⟨tw_in (List.mem_of_getElem? (i := 602) (by decide +kernel)) rfl, tw_in (List.mem_of_getElem? (i := 423) (by decide +kernel)) rfl, tw_in (List.mem_of_getElem? (i := 74) (by decide +kernel)) rfl, tw_in (List.mem_of_getElem? (i := 424) (by decide +kernel)) rfl⟩
theorem cmX7_285 : CM RX7 285 Lib.Math.max.name Lib.Math.max.code 2 := ⟨tw_in (List.mem_of_getElem? (i := 603) (by decide +kernel)) rfl, tw_in (List.mem_of_getElem? (i := 604) (by decide +kernel)) rfl, tw_in (List.mem_of_getElem? (i := 74) (by decide +kernel)) rfl, tw_in (List.mem_of_getElem? (i := 605) (by decide +kernel)) rfl⟩
abbrev qX7_feed : MI := (yX7_feed, cX7_feed, 2, (some .int))
theorem cqX7_feed : CQ qX7_feed 1 := ⟨tw_in (List.mem_of_getElem? (i := 64) (by decide +kernel)) rfl, tw_in (List.mem_of_getElem? (i := 242) (by decide +kernel)) rfl, by decide +kernel, by decide⟩
abbrev qX7_coast : MI := (yX7_coast, cX7_coast, 2, (some .int))
theorem cqX7_coast : CQ qX7_coast 0 := ⟨tw_in (List.mem_of_getElem? (i := 64) (by decide +kernel)) rfl, tw_in (List.mem_of_getElem? (i := 254) (by decide +kernel)) rfl, by decide +kernel, by decide⟩
abbrev qX7_person : MI := (yX7_person, cX7_person, 3, (some .int))
theorem cqX7_person : CQ qX7_person 2 := ⟨tw_in (List.mem_of_getElem? (i := 64) (by decide +kernel)) rfl, tw_in (List.mem_of_getElem? (i := 352) (by decide +kernel)) rfl, by decide +kernel, by decide⟩
abbrev qX7_as : MI := (yX7_as, cX7_as, 3, (some .int))
theorem cqX7_as : CQ qX7_as 2 := ⟨tw_in (List.mem_of_getElem? (i := 64) (by decide +kernel)) rfl, tw_in (List.mem_of_getElem? (i := 364) (by decide +kernel)) rfl, by decide +kernel, by decide⟩
abbrev qX7_wrong : MI := (yX7_wrong, cX7_wrong, 3, (some .int))
theorem cqX7_wrong : CQ qX7_wrong 2 := ⟨tw_in (List.mem_of_getElem? (i := 64) (by decide +kernel)) rfl, tw_in (List.mem_of_getElem? (i := 373) (by decide +kernel)) rfl, by decide +kernel, by decide⟩
abbrev qX7_carry : MI := (yX7_carry, cX7_carry, 4, (some .int))
theorem cqX7_carry : CQ qX7_carry 2 := ⟨tw_in (List.mem_of_getElem? (i := 64) (by decide +kernel)) rfl, tw_in (List.mem_of_getElem? (i := 391) (by decide +kernel)) rfl, by decide +kernel, by decide⟩
abbrev qX7_lend : MI := (yX7_lend, cX7_lend, 3, (some .int))
theorem cqX7_lend : CQ qX7_lend 2 := ⟨tw_in (List.mem_of_getElem? (i := 64) (by decide +kernel)) rfl, tw_in (List.mem_of_getElem? (i := 459) (by decide +kernel)) rfl, by decide +kernel, by decide⟩
abbrev qX7_sin : MI := (yX7_sin, cX7_sin, 4, (some .int))
theorem cqX7_sin : CQ qX7_sin 3 := ⟨tw_in (List.mem_of_getElem? (i := 64) (by decide +kernel)) rfl, tw_in (List.mem_of_getElem? (i := 468) (by decide +kernel)) rfl, by decide +kernel, by decide⟩
abbrev qX7_harden : MI := (yX7_harden, cX7_harden, 3, (some .int))
theorem cqX7_harden : CQ qX7_harden 2 := ⟨tw_in (List.mem_of_getElem? (i := 64) (by decide +kernel)) rfl, tw_in (List.mem_of_getElem? (i := 473) (by decide +kernel)) rfl, by decide +kernel, by decide⟩
abbrev qX7_pass : MI := (yX7_pass, cX7_pass, 1, (some .int))
theorem cqX7_pass : CQ qX7_pass 0 := ⟨tw_in (List.mem_of_getElem? (i := 64) (by decide +kernel)) rfl, tw_in (List.mem_of_getElem? (i := 477) (by decide +kernel)) rfl, by decide +kernel, by decide⟩
abbrev qX7_undo : MI := (yX7_undo, cX7_undo, 1, (some .int))
theorem cqX7_undo : CQ qX7_undo 0 := ⟨tw_in (List.mem_of_getElem? (i := 64) (by decide +kernel)) rfl, tw_in (List.mem_of_getElem? (i := 486) (by decide +kernel)) rfl, by decide +kernel, by decide⟩
abbrev qX7_image : MI := (yX7_image, cX7_image, 3, (some .int))
theorem cqX7_image : CQ qX7_image 1 := ⟨tw_in (List.mem_of_getElem? (i := 64) (by decide +kernel)) rfl, tw_in (List.mem_of_getElem? (i := 498) (by decide +kernel)) rfl, by decide +kernel, by decide⟩
abbrev qX7_restore : MI := (yX7_restore, cX7_restore, 3, (some .int))
theorem cqX7_restore : CQ qX7_restore 1 := ⟨tw_in (List.mem_of_getElem? (i := 64) (by decide +kernel)) rfl, tw_in (List.mem_of_getElem? (i := 506) (by decide +kernel)) rfl, by decide +kernel, by decide⟩
abbrev qX7_said : MI := (yX7_said, cX7_said, 3, (some .int))
theorem cqX7_said : CQ qX7_said 2 := ⟨tw_in (List.mem_of_getElem? (i := 64) (by decide +kernel)) rfl, tw_in (List.mem_of_getElem? (i := 510) (by decide +kernel)) rfl, by decide +kernel, by decide⟩
abbrev qX7_comes : MI := (yX7_comes, cX7_comes, 4, (some .int))
theorem cqX7_comes : CQ qX7_comes 2 := ⟨tw_in (List.mem_of_getElem? (i := 64) (by decide +kernel)) rfl, tw_in (List.mem_of_getElem? (i := 515) (by decide +kernel)) rfl, by decide +kernel, by decide⟩
abbrev qX7_least : MI := (yX7_least, cX7_least, 4, (some .int))
theorem cqX7_least : CQ qX7_least 2 := ⟨tw_in (List.mem_of_getElem? (i := 64) (by decide +kernel)) rfl, tw_in (List.mem_of_getElem? (i := 520) (by decide +kernel)) rfl, by decide +kernel, by decide⟩
abbrev qX7_match : MI := (yX7_match, cX7_match, 2, (some .int))
theorem cqX7_match : CQ qX7_match 1 := ⟨tw_in (List.mem_of_getElem? (i := 64) (by decide +kernel)) rfl, tw_in (List.mem_of_getElem? (i := 528) (by decide +kernel)) rfl, by decide +kernel, by decide⟩
abbrev qX7_chain : MI := (yX7_chain, cX7_chain, 3, (some .int))
theorem cqX7_chain : CQ qX7_chain 2 := ⟨tw_in (List.mem_of_getElem? (i := 64) (by decide +kernel)) rfl, tw_in (List.mem_of_getElem? (i := 578) (by decide +kernel)) rfl, by decide +kernel, by decide⟩
abbrev qX7_reach : MI := (yX7_reach, cX7_reach, 3, (some .int))
theorem cqX7_reach : CQ qX7_reach 2 := ⟨tw_in (List.mem_of_getElem? (i := 64) (by decide +kernel)) rfl, tw_in (List.mem_of_getElem? (i := 595) (by decide +kernel)) rfl, by decide +kernel, by decide⟩
abbrev qX7_plan : MI := (yX7_plan, cX7_plan, 4, (some .int))
theorem cqX7_plan : CQ qX7_plan 2 := ⟨tw_in (List.mem_of_getElem? (i := 64) (by decide +kernel)) rfl, tw_in (List.mem_of_getElem? (i := 610) (by decide +kernel)) rfl, by decide +kernel, by decide⟩
abbrev qX7_gusts : MI := (yX7_gusts, cX7_gusts, 9, (some .int))
theorem cqX7_gusts : CQ qX7_gusts 4 := ⟨tw_in (List.mem_of_getElem? (i := 64) (by decide +kernel)) rfl, tw_in (List.mem_of_getElem? (i := 640) (by decide +kernel)) rfl, by decide +kernel, by decide⟩
abbrev qX7_decades : MI := (yX7_decades, cX7_decades, 4, (some .int))
theorem cqX7_decades : CQ qX7_decades 3 := ⟨tw_in (List.mem_of_getElem? (i := 64) (by decide +kernel)) rfl, tw_in (List.mem_of_getElem? (i := 650) (by decide +kernel)) rfl, by decide +kernel, by decide⟩
abbrev qX7_sheet : MI := (yX7_sheet, cX7_sheet, 5, (some .int))
theorem cqX7_sheet : CQ qX7_sheet 3 := ⟨tw_in (List.mem_of_getElem? (i := 64) (by decide +kernel)) rfl, tw_in (List.mem_of_getElem? (i := 680) (by decide +kernel)) rfl, by decide +kernel, by decide⟩
abbrev qX7_drop : MI := (yX7_drop, cX7_drop, 3, (some .int))
theorem cqX7_drop : CQ qX7_drop 1 := ⟨tw_in (List.mem_of_getElem? (i := 64) (by decide +kernel)) rfl, tw_in (List.mem_of_getElem? (i := 698) (by decide +kernel)) rfl, by decide +kernel, by decide⟩
abbrev qX7_item : MI := (yX7_item, cX7_item, 8, (some .long))
theorem cqX7_item : CQ qX7_item 4 := ⟨tw_in (List.mem_of_getElem? (i := 64) (by decide +kernel)) rfl, tw_in (List.mem_of_getElem? (i := 711) (by decide +kernel)) rfl, by decide +kernel, by decide⟩
abbrev qX7_copy : MI := (yX7_copy, cX7_copy, 8, (some .int))
theorem cqX7_copy : CQ qX7_copy 5 := ⟨tw_in (List.mem_of_getElem? (i := 64) (by decide +kernel)) rfl, tw_in (List.mem_of_getElem? (i := 739) (by decide +kernel)) rfl, by decide +kernel, by decide⟩
abbrev qX7_log : MI := (yX7_log, cX7_log, 8, (some .int))
theorem cqX7_log : CQ qX7_log 4 := ⟨tw_in (List.mem_of_getElem? (i := 64) (by decide +kernel)) rfl, tw_in (List.mem_of_getElem? (i := 749) (by decide +kernel)) rfl, by decide +kernel, by decide⟩
abbrev qX7_skills : MI := (yX7_skills, cX7_skills, 8, (some .int))
theorem cqX7_skills : CQ qX7_skills 6 := ⟨tw_in (List.mem_of_getElem? (i := 64) (by decide +kernel)) rfl, tw_in (List.mem_of_getElem? (i := 753) (by decide +kernel)) rfl, by decide +kernel, by decide⟩
abbrev qX7_kinds : MI := (yX7_kinds, cX7_kinds, 8, (some .int))
theorem cqX7_kinds : CQ qX7_kinds 6 := ⟨tw_in (List.mem_of_getElem? (i := 64) (by decide +kernel)) rfl, tw_in (List.mem_of_getElem? (i := 799) (by decide +kernel)) rfl, by decide +kernel, by decide⟩
abbrev qX7_count : MI := (yX7_count, cX7_count, 2, (some .int))
theorem cqX7_count : CQ qX7_count 1 := ⟨tw_in (List.mem_of_getElem? (i := 64) (by decide +kernel)) rfl, tw_in (List.mem_of_getElem? (i := 807) (by decide +kernel)) rfl, by decide +kernel, by decide⟩
abbrev qX8_feed : MI := (yX8_feed, cX8_feed, 2, (some .int))
theorem cqX8_feed : CQ qX8_feed 1 := ⟨tw_in (List.mem_of_getElem? (i := 72) (by decide +kernel)) rfl, tw_in (List.mem_of_getElem? (i := 885) (by decide +kernel)) rfl, by decide +kernel, by decide⟩
abbrev qX8_coast : MI := (yX8_coast, cX8_coast, 2, (some .int))
theorem cqX8_coast : CQ qX8_coast 0 := ⟨tw_in (List.mem_of_getElem? (i := 72) (by decide +kernel)) rfl, tw_in (List.mem_of_getElem? (i := 892) (by decide +kernel)) rfl, by decide +kernel, by decide⟩
abbrev qX8_person : MI := (yX8_person, cX8_person, 3, (some .int))
theorem cqX8_person : CQ qX8_person 2 := ⟨tw_in (List.mem_of_getElem? (i := 72) (by decide +kernel)) rfl, tw_in (List.mem_of_getElem? (i := 929) (by decide +kernel)) rfl, by decide +kernel, by decide⟩
abbrev qX8_as : MI := (yX8_as, cX8_as, 6, (some .int))
theorem cqX8_as : CQ qX8_as 2 := ⟨tw_in (List.mem_of_getElem? (i := 72) (by decide +kernel)) rfl, tw_in (List.mem_of_getElem? (i := 937) (by decide +kernel)) rfl, by decide +kernel, by decide⟩
abbrev qX8_wrong : MI := (yX8_wrong, cX8_wrong, 3, (some .int))
theorem cqX8_wrong : CQ qX8_wrong 2 := ⟨tw_in (List.mem_of_getElem? (i := 72) (by decide +kernel)) rfl, tw_in (List.mem_of_getElem? (i := 941) (by decide +kernel)) rfl, by decide +kernel, by decide⟩
abbrev qX8_carry : MI := (yX8_carry, cX8_carry, 4, (some .int))
theorem cqX8_carry : CQ qX8_carry 2 := ⟨tw_in (List.mem_of_getElem? (i := 72) (by decide +kernel)) rfl, tw_in (List.mem_of_getElem? (i := 952) (by decide +kernel)) rfl, by decide +kernel, by decide⟩
abbrev qX8_lend : MI := (yX8_lend, cX8_lend, 4, (some .int))
theorem cqX8_lend : CQ qX8_lend 2 := ⟨tw_in (List.mem_of_getElem? (i := 72) (by decide +kernel)) rfl, tw_in (List.mem_of_getElem? (i := 988) (by decide +kernel)) rfl, by decide +kernel, by decide⟩
abbrev qX8_sin : MI := (yX8_sin, cX8_sin, 4, (some .int))
theorem cqX8_sin : CQ qX8_sin 3 := ⟨tw_in (List.mem_of_getElem? (i := 72) (by decide +kernel)) rfl, tw_in (List.mem_of_getElem? (i := 992) (by decide +kernel)) rfl, by decide +kernel, by decide⟩
abbrev qX8_harden : MI := (yX8_harden, cX8_harden, 4, (some .int))
theorem cqX8_harden : CQ qX8_harden 2 := ⟨tw_in (List.mem_of_getElem? (i := 72) (by decide +kernel)) rfl, tw_in (List.mem_of_getElem? (i := 996) (by decide +kernel)) rfl, by decide +kernel, by decide⟩
abbrev qX8_pass : MI := (yX8_pass, cX8_pass, 1, (some .int))
theorem cqX8_pass : CQ qX8_pass 0 := ⟨tw_in (List.mem_of_getElem? (i := 72) (by decide +kernel)) rfl, tw_in (List.mem_of_getElem? (i := 1000) (by decide +kernel)) rfl, by decide +kernel, by decide⟩
abbrev qX8_undo : MI := (yX8_undo, cX8_undo, 1, (some .int))
theorem cqX8_undo : CQ qX8_undo 0 := ⟨tw_in (List.mem_of_getElem? (i := 72) (by decide +kernel)) rfl, tw_in (List.mem_of_getElem? (i := 1008) (by decide +kernel)) rfl, by decide +kernel, by decide⟩
abbrev qX8_image : MI := (yX8_image, cX8_image, 2, (some .int))
theorem cqX8_image : CQ qX8_image 1 := ⟨tw_in (List.mem_of_getElem? (i := 72) (by decide +kernel)) rfl, tw_in (List.mem_of_getElem? (i := 1012) (by decide +kernel)) rfl, by decide +kernel, by decide⟩
abbrev qX8_restore : MI := (yX8_restore, cX8_restore, 2, (some .int))
theorem cqX8_restore : CQ qX8_restore 1 := ⟨tw_in (List.mem_of_getElem? (i := 72) (by decide +kernel)) rfl, tw_in (List.mem_of_getElem? (i := 1016) (by decide +kernel)) rfl, by decide +kernel, by decide⟩
abbrev qX8_said : MI := (yX8_said, cX8_said, 3, (some .int))
theorem cqX8_said : CQ qX8_said 2 := ⟨tw_in (List.mem_of_getElem? (i := 72) (by decide +kernel)) rfl, tw_in (List.mem_of_getElem? (i := 1020) (by decide +kernel)) rfl, by decide +kernel, by decide⟩
abbrev qX8_comes : MI := (yX8_comes, cX8_comes, 4, (some .int))
theorem cqX8_comes : CQ qX8_comes 2 := ⟨tw_in (List.mem_of_getElem? (i := 72) (by decide +kernel)) rfl, tw_in (List.mem_of_getElem? (i := 1024) (by decide +kernel)) rfl, by decide +kernel, by decide⟩
abbrev qX8_least : MI := (yX8_least, cX8_least, 5, (some .int))
theorem cqX8_least : CQ qX8_least 2 := ⟨tw_in (List.mem_of_getElem? (i := 72) (by decide +kernel)) rfl, tw_in (List.mem_of_getElem? (i := 1028) (by decide +kernel)) rfl, by decide +kernel, by decide⟩
abbrev qX8_match : MI := (yX8_match, cX8_match, 2, (some .int))
theorem cqX8_match : CQ qX8_match 1 := ⟨tw_in (List.mem_of_getElem? (i := 72) (by decide +kernel)) rfl, tw_in (List.mem_of_getElem? (i := 1036) (by decide +kernel)) rfl, by decide +kernel, by decide⟩
abbrev qX8_chain : MI := (yX8_chain, cX8_chain, 5, (some .int))
theorem cqX8_chain : CQ qX8_chain 2 := ⟨tw_in (List.mem_of_getElem? (i := 72) (by decide +kernel)) rfl, tw_in (List.mem_of_getElem? (i := 1055) (by decide +kernel)) rfl, by decide +kernel, by decide⟩
abbrev qX8_reach : MI := (yX8_reach, cX8_reach, 8, (some .int))
theorem cqX8_reach : CQ qX8_reach 2 := ⟨tw_in (List.mem_of_getElem? (i := 72) (by decide +kernel)) rfl, tw_in (List.mem_of_getElem? (i := 1063) (by decide +kernel)) rfl, by decide +kernel, by decide⟩
abbrev qX8_plan : MI := (yX8_plan, cX8_plan, 3, (some .int))
theorem cqX8_plan : CQ qX8_plan 2 := ⟨tw_in (List.mem_of_getElem? (i := 72) (by decide +kernel)) rfl, tw_in (List.mem_of_getElem? (i := 1067) (by decide +kernel)) rfl, by decide +kernel, by decide⟩
abbrev qX8_gusts : MI := (yX8_gusts, cX8_gusts, 11, (some .int))
theorem cqX8_gusts : CQ qX8_gusts 4 := ⟨tw_in (List.mem_of_getElem? (i := 72) (by decide +kernel)) rfl, tw_in (List.mem_of_getElem? (i := 1099) (by decide +kernel)) rfl, by decide +kernel, by decide⟩
abbrev qX8_decades : MI := (yX8_decades, cX8_decades, 9, (some .int))
theorem cqX8_decades : CQ qX8_decades 3 := ⟨tw_in (List.mem_of_getElem? (i := 72) (by decide +kernel)) rfl, tw_in (List.mem_of_getElem? (i := 1103) (by decide +kernel)) rfl, by decide +kernel, by decide⟩
abbrev qX8_sheet : MI := (yX8_sheet, cX8_sheet, 5, (some .int))
theorem cqX8_sheet : CQ qX8_sheet 3 := ⟨tw_in (List.mem_of_getElem? (i := 72) (by decide +kernel)) rfl, tw_in (List.mem_of_getElem? (i := 1117) (by decide +kernel)) rfl, by decide +kernel, by decide⟩
abbrev qX8_drop : MI := (yX8_drop, cX8_drop, 2, (some .int))
theorem cqX8_drop : CQ qX8_drop 1 := ⟨tw_in (List.mem_of_getElem? (i := 72) (by decide +kernel)) rfl, tw_in (List.mem_of_getElem? (i := 1124) (by decide +kernel)) rfl, by decide +kernel, by decide⟩
abbrev qX8_item : MI := (yX8_item, cX8_item, 7, (some .long))
theorem cqX8_item : CQ qX8_item 4 := ⟨tw_in (List.mem_of_getElem? (i := 72) (by decide +kernel)) rfl, tw_in (List.mem_of_getElem? (i := 1128) (by decide +kernel)) rfl, by decide +kernel, by decide⟩
abbrev qX8_copy : MI := (yX8_copy, cX8_copy, 9, (some .int))
theorem cqX8_copy : CQ qX8_copy 5 := ⟨tw_in (List.mem_of_getElem? (i := 72) (by decide +kernel)) rfl, tw_in (List.mem_of_getElem? (i := 1140) (by decide +kernel)) rfl, by decide +kernel, by decide⟩
abbrev qX8_log : MI := (yX8_log, cX8_log, 7, (some .int))
theorem cqX8_log : CQ qX8_log 4 := ⟨tw_in (List.mem_of_getElem? (i := 72) (by decide +kernel)) rfl, tw_in (List.mem_of_getElem? (i := 1144) (by decide +kernel)) rfl, by decide +kernel, by decide⟩
abbrev qX8_skills : MI := (yX8_skills, cX8_skills, 7, (some .int))
theorem cqX8_skills : CQ qX8_skills 6 := ⟨tw_in (List.mem_of_getElem? (i := 72) (by decide +kernel)) rfl, tw_in (List.mem_of_getElem? (i := 1151) (by decide +kernel)) rfl, by decide +kernel, by decide⟩
abbrev qX8_kinds : MI := (yX8_kinds, cX8_kinds, 7, (some .int))
theorem cqX8_kinds : CQ qX8_kinds 6 := ⟨tw_in (List.mem_of_getElem? (i := 72) (by decide +kernel)) rfl, tw_in (List.mem_of_getElem? (i := 1176) (by decide +kernel)) rfl, by decide +kernel, by decide⟩
abbrev qX8_count : MI := (yX8_count, cX8_count, 4, (some .int))
theorem cqX8_count : CQ qX8_count 1 := ⟨tw_in (List.mem_of_getElem? (i := 72) (by decide +kernel)) rfl, tw_in (List.mem_of_getElem? (i := 1180) (by decide +kernel)) rfl, by decide +kernel, by decide⟩
