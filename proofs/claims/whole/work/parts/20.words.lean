/-! WORDS of the tables, by their places. Written by program. -/
theorem t_in1 {w : Cond} (h : w ∈ tables_1_1) (g : goodWord w = true) : w ∈ wsG := List.mem_filter.mpr ⟨List.mem_append_right _ (List.mem_append_left _ h), g⟩
theorem t_in2 {w : Cond} (h : w ∈ tables_1_2) (g : goodWord w = true) : w ∈ wsG := List.mem_filter.mpr ⟨List.mem_append_right _ (List.mem_append_right _ (List.mem_append_left _ h)), g⟩
theorem t_in3 {w : Cond} (h : w ∈ tables_1_3) (g : goodWord w = true) : w ∈ wsG := List.mem_filter.mpr ⟨List.mem_append_right _ (List.mem_append_right _ (List.mem_append_right _ (List.mem_append_left _ h))), g⟩
theorem t_in4 {w : Cond} (h : w ∈ tables_1_4) (g : goodWord w = true) : w ∈ wsG := List.mem_filter.mpr ⟨List.mem_append_right _ (List.mem_append_right _ (List.mem_append_right _ (List.mem_append_right _ (List.mem_append_left _ h)))), g⟩
theorem t_in5 {w : Cond} (h : w ∈ tables_1_5) (g : goodWord w = true) : w ∈ wsG := List.mem_filter.mpr ⟨List.mem_append_right _ (List.mem_append_right _ (List.mem_append_right _ (List.mem_append_right _ (List.mem_append_right _ h)))), g⟩
theorem t_sel {q : MethodName × Nat} (h : q ∈ lw_privs) (g : goodWord (Cond.selects q.1.cls q.1 q.1) = true) : Cond.selects q.1.cls q.1 q.1 ∈ wsG := List.mem_filter.mpr ⟨List.mem_append_left _ (List.mem_map.mpr ⟨q, h, rfl⟩), g⟩
theorem inX0 : ∀ w ∈ u_ws "SatchelSins$Day" TX0 2, w ∈ wsG := by
  intro w hw
  obtain ⟨k, hk, rfl⟩ := List.mem_map.mp hw
  have hk := List.mem_range.mp hk
  match k, hk with
  | 0, _ => exact (t_in1 (List.mem_of_getElem? (i := 128) rfl) rfl)
  | 1, _ => exact (t_in1 (List.mem_of_getElem? (i := 130) rfl) rfl)
  | k + 2, hk => exact absurd hk (by omega)
theorem K0 : ClOk 0 "SatchelSins$Day" TX0 2 := ⟨rfl, inX0, tyX0_ok, nmX0⟩
theorem inX1 : ∀ w ∈ u_ws "SatchelSins$Image" TX1 3, w ∈ wsG := by
  intro w hw
  obtain ⟨k, hk, rfl⟩ := List.mem_map.mp hw
  have hk := List.mem_range.mp hk
  match k, hk with
  | 0, _ => exact (t_in2 (List.mem_of_getElem? (i := 15) rfl) rfl)
  | 1, _ => exact (t_in2 (List.mem_of_getElem? (i := 17) rfl) rfl)
  | 2, _ => exact (t_in2 (List.mem_of_getElem? (i := 19) rfl) rfl)
  | k + 3, hk => exact absurd hk (by omega)
theorem K1 : ClOk 1 "SatchelSins$Image" TX1 3 := ⟨rfl, inX1, tyX1_ok, nmX1⟩
theorem inX2 : ∀ w ∈ u_ws "SatchelSins$Packing" TX2 10, w ∈ wsG := by
  intro w hw
  obtain ⟨k, hk, rfl⟩ := List.mem_map.mp hw
  have hk := List.mem_range.mp hk
  match k, hk with
  | 0, _ => exact (t_in1 (List.mem_of_getElem? (i := 168) rfl) rfl)
  | 1, _ => exact (t_in1 (List.mem_of_getElem? (i := 170) rfl) rfl)
  | 2, _ => exact (t_in1 (List.mem_of_getElem? (i := 172) rfl) rfl)
  | 3, _ => exact (t_in1 (List.mem_of_getElem? (i := 174) rfl) rfl)
  | 4, _ => exact (t_in1 (List.mem_of_getElem? (i := 176) rfl) rfl)
  | 5, _ => exact (t_in1 (List.mem_of_getElem? (i := 178) rfl) rfl)
  | 6, _ => exact (t_in1 (List.mem_of_getElem? (i := 180) rfl) rfl)
  | 7, _ => exact (t_in1 (List.mem_of_getElem? (i := 182) rfl) rfl)
  | 8, _ => exact (t_in1 (List.mem_of_getElem? (i := 184) rfl) rfl)
  | 9, _ => exact (t_in1 (List.mem_of_getElem? (i := 186) rfl) rfl)
  | k + 10, hk => exact absurd hk (by omega)
theorem K2 : ClOk 2 "SatchelSins$Packing" TX2 10 := ⟨rfl, inX2, tyX2_ok, nmX2⟩
theorem inX3 : ∀ w ∈ u_ws "SatchelSins$Past" TX3 3, w ∈ wsG := by
  intro w hw
  obtain ⟨k, hk, rfl⟩ := List.mem_map.mp hw
  have hk := List.mem_range.mp hk
  match k, hk with
  | 0, _ => exact (t_in1 (List.mem_of_getElem? (i := 143) rfl) rfl)
  | 1, _ => exact (t_in1 (List.mem_of_getElem? (i := 145) rfl) rfl)
  | 2, _ => exact (t_in1 (List.mem_of_getElem? (i := 147) rfl) rfl)
  | k + 3, hk => exact absurd hk (by omega)
theorem K3 : ClOk 3 "SatchelSins$Past" TX3 3 := ⟨rfl, inX3, tyX3_ok, nmX3⟩
theorem inX4 : ∀ w ∈ u_ws "SatchelSins$Reader" TX4 7, w ∈ wsG := by
  intro w hw
  obtain ⟨k, hk, rfl⟩ := List.mem_map.mp hw
  have hk := List.mem_range.mp hk
  match k, hk with
  | 0, _ => exact (t_in1 (List.mem_of_getElem? (i := 97) rfl) rfl)
  | 1, _ => exact (t_in1 (List.mem_of_getElem? (i := 99) rfl) rfl)
  | 2, _ => exact (t_in1 (List.mem_of_getElem? (i := 101) rfl) rfl)
  | 3, _ => exact (t_in1 (List.mem_of_getElem? (i := 103) rfl) rfl)
  | 4, _ => exact (t_in1 (List.mem_of_getElem? (i := 105) rfl) rfl)
  | 5, _ => exact (t_in1 (List.mem_of_getElem? (i := 107) rfl) rfl)
  | 6, _ => exact (t_in1 (List.mem_of_getElem? (i := 109) rfl) rfl)
  | k + 7, hk => exact absurd hk (by omega)
theorem K4 : ClOk 4 "SatchelSins$Reader" TX4 7 := ⟨rfl, inX4, tyX4_ok, nmX4⟩
theorem inX5 : ∀ w ∈ u_ws "SatchelSins$Roll" TX5 9, w ∈ wsG := by
  intro w hw
  obtain ⟨k, hk, rfl⟩ := List.mem_map.mp hw
  have hk := List.mem_range.mp hk
  match k, hk with
  | 0, _ => exact (t_in1 (List.mem_of_getElem? (i := 64) rfl) rfl)
  | 1, _ => exact (t_in1 (List.mem_of_getElem? (i := 66) rfl) rfl)
  | 2, _ => exact (t_in1 (List.mem_of_getElem? (i := 68) rfl) rfl)
  | 3, _ => exact (t_in1 (List.mem_of_getElem? (i := 70) rfl) rfl)
  | 4, _ => exact (t_in1 (List.mem_of_getElem? (i := 72) rfl) rfl)
  | 5, _ => exact (t_in1 (List.mem_of_getElem? (i := 74) rfl) rfl)
  | 6, _ => exact (t_in1 (List.mem_of_getElem? (i := 76) rfl) rfl)
  | 7, _ => exact (t_in1 (List.mem_of_getElem? (i := 78) rfl) rfl)
  | 8, _ => exact (t_in1 (List.mem_of_getElem? (i := 80) rfl) rfl)
  | k + 9, hk => exact absurd hk (by omega)
theorem K5 : ClOk 5 "SatchelSins$Roll" TX5 9 := ⟨rfl, inX5, tyX5_ok, nmX5⟩
theorem inX6 : ∀ w ∈ u_ws "SatchelSins$Scale" TX6 5, w ∈ wsG := by
  intro w hw
  obtain ⟨k, hk, rfl⟩ := List.mem_map.mp hw
  have hk := List.mem_range.mp hk
  match k, hk with
  | 0, _ => exact (t_in1 (List.mem_of_getElem? (i := 203) rfl) rfl)
  | 1, _ => exact (t_in1 (List.mem_of_getElem? (i := 205) rfl) rfl)
  | 2, _ => exact (t_in1 (List.mem_of_getElem? (i := 207) rfl) rfl)
  | 3, _ => exact (t_in1 (List.mem_of_getElem? (i := 209) rfl) rfl)
  | 4, _ => exact (t_in1 (List.mem_of_getElem? (i := 211) rfl) rfl)
  | k + 5, hk => exact absurd hk (by omega)
theorem K6 : ClOk 6 "SatchelSins$Scale" TX6 5 := ⟨rfl, inX6, tyX6_ok, nmX6⟩
theorem inX7 : ∀ w ∈ u_ws "SatchelSins$Slate" TX7 7, w ∈ wsG := by
  intro w hw
  obtain ⟨k, hk, rfl⟩ := List.mem_map.mp hw
  have hk := List.mem_range.mp hk
  match k, hk with
  | 0, _ => exact (t_in1 (List.mem_of_getElem? (i := 229) rfl) rfl)
  | 1, _ => exact (t_in1 (List.mem_of_getElem? (i := 231) rfl) rfl)
  | 2, _ => exact (t_in1 (List.mem_of_getElem? (i := 233) rfl) rfl)
  | 3, _ => exact (t_in1 (List.mem_of_getElem? (i := 235) rfl) rfl)
  | 4, _ => exact (t_in1 (List.mem_of_getElem? (i := 237) rfl) rfl)
  | 5, _ => exact (t_in1 (List.mem_of_getElem? (i := 239) rfl) rfl)
  | 6, _ => exact (t_in2 (List.mem_of_getElem? (i := 1) rfl) rfl)
  | k + 7, hk => exact absurd hk (by omega)
theorem K7 : ClOk 7 "SatchelSins$Slate" TX7 7 := ⟨rfl, inX7, tyX7_ok, nmX7⟩
theorem inX8 : ∀ w ∈ u_ws "SatchelSins" TX8 14, w ∈ wsG := by
  intro w hw
  obtain ⟨k, hk, rfl⟩ := List.mem_map.mp hw
  have hk := List.mem_range.mp hk
  match k, hk with
  | 0, _ => exact (t_in2 (List.mem_of_getElem? (i := 36) rfl) rfl)
  | 1, _ => exact (t_in2 (List.mem_of_getElem? (i := 38) rfl) rfl)
  | 2, _ => exact (t_in2 (List.mem_of_getElem? (i := 40) rfl) rfl)
  | 3, _ => exact (t_in2 (List.mem_of_getElem? (i := 42) rfl) rfl)
  | 4, _ => exact (t_in2 (List.mem_of_getElem? (i := 44) rfl) rfl)
  | 5, _ => exact (t_in2 (List.mem_of_getElem? (i := 46) rfl) rfl)
  | 6, _ => exact (t_in2 (List.mem_of_getElem? (i := 48) rfl) rfl)
  | 7, _ => exact (t_in2 (List.mem_of_getElem? (i := 50) rfl) rfl)
  | 8, _ => exact (t_in2 (List.mem_of_getElem? (i := 52) rfl) rfl)
  | 9, _ => exact (t_in2 (List.mem_of_getElem? (i := 54) rfl) rfl)
  | 10, _ => exact (t_in2 (List.mem_of_getElem? (i := 56) rfl) rfl)
  | 11, _ => exact (t_in2 (List.mem_of_getElem? (i := 58) rfl) rfl)
  | 12, _ => exact (t_in2 (List.mem_of_getElem? (i := 60) rfl) rfl)
  | 13, _ => exact (t_in2 (List.mem_of_getElem? (i := 62) rfl) rfl)
  | k + 14, hk => exact absurd hk (by omega)
theorem K8 : ClOk 8 "SatchelSins" TX8 14 := ⟨rfl, inX8, tyX8_ok, nmX8⟩
theorem inX9 : ∀ w ∈ u_ws "SatchelSinsModel" TX9 41, w ∈ wsG := by
  intro w hw
  obtain ⟨k, hk, rfl⟩ := List.mem_map.mp hw
  have hk := List.mem_range.mp hk
  match k, hk with
  | 0, _ => exact (t_in4 (List.mem_of_getElem? (i := 105) rfl) rfl)
  | 1, _ => exact (t_in4 (List.mem_of_getElem? (i := 107) rfl) rfl)
  | 2, _ => exact (t_in4 (List.mem_of_getElem? (i := 109) rfl) rfl)
  | 3, _ => exact (t_in4 (List.mem_of_getElem? (i := 111) rfl) rfl)
  | 4, _ => exact (t_in4 (List.mem_of_getElem? (i := 113) rfl) rfl)
  | 5, _ => exact (t_in4 (List.mem_of_getElem? (i := 115) rfl) rfl)
  | 6, _ => exact (t_in4 (List.mem_of_getElem? (i := 117) rfl) rfl)
  | 7, _ => exact (t_in4 (List.mem_of_getElem? (i := 119) rfl) rfl)
  | 8, _ => exact (t_in4 (List.mem_of_getElem? (i := 121) rfl) rfl)
  | 9, _ => exact (t_in4 (List.mem_of_getElem? (i := 123) rfl) rfl)
  | 10, _ => exact (t_in4 (List.mem_of_getElem? (i := 125) rfl) rfl)
  | 11, _ => exact (t_in4 (List.mem_of_getElem? (i := 127) rfl) rfl)
  | 12, _ => exact (t_in4 (List.mem_of_getElem? (i := 129) rfl) rfl)
  | 13, _ => exact (t_in4 (List.mem_of_getElem? (i := 131) rfl) rfl)
  | 14, _ => exact (t_in4 (List.mem_of_getElem? (i := 133) rfl) rfl)
  | 15, _ => exact (t_in4 (List.mem_of_getElem? (i := 135) rfl) rfl)
  | 16, _ => exact (t_in4 (List.mem_of_getElem? (i := 137) rfl) rfl)
  | 17, _ => exact (t_in4 (List.mem_of_getElem? (i := 139) rfl) rfl)
  | 18, _ => exact (t_in4 (List.mem_of_getElem? (i := 141) rfl) rfl)
  | 19, _ => exact (t_in4 (List.mem_of_getElem? (i := 143) rfl) rfl)
  | 20, _ => exact (t_in4 (List.mem_of_getElem? (i := 145) rfl) rfl)
  | 21, _ => exact (t_in4 (List.mem_of_getElem? (i := 147) rfl) rfl)
  | 22, _ => exact (t_in4 (List.mem_of_getElem? (i := 149) rfl) rfl)
  | 23, _ => exact (t_in4 (List.mem_of_getElem? (i := 151) rfl) rfl)
  | 24, _ => exact (t_in4 (List.mem_of_getElem? (i := 153) rfl) rfl)
  | 25, _ => exact (t_in4 (List.mem_of_getElem? (i := 155) rfl) rfl)
  | 26, _ => exact (t_in4 (List.mem_of_getElem? (i := 157) rfl) rfl)
  | 27, _ => exact (t_in4 (List.mem_of_getElem? (i := 159) rfl) rfl)
  | 28, _ => exact (t_in4 (List.mem_of_getElem? (i := 161) rfl) rfl)
  | 29, _ => exact (t_in4 (List.mem_of_getElem? (i := 163) rfl) rfl)
  | 30, _ => exact (t_in4 (List.mem_of_getElem? (i := 165) rfl) rfl)
  | 31, _ => exact (t_in4 (List.mem_of_getElem? (i := 167) rfl) rfl)
  | 32, _ => exact (t_in4 (List.mem_of_getElem? (i := 169) rfl) rfl)
  | 33, _ => exact (t_in4 (List.mem_of_getElem? (i := 171) rfl) rfl)
  | 34, _ => exact (t_in4 (List.mem_of_getElem? (i := 173) rfl) rfl)
  | 35, _ => exact (t_in4 (List.mem_of_getElem? (i := 175) rfl) rfl)
  | 36, _ => exact (t_in4 (List.mem_of_getElem? (i := 177) rfl) rfl)
  | 37, _ => exact (t_in4 (List.mem_of_getElem? (i := 179) rfl) rfl)
  | 38, _ => exact (t_in4 (List.mem_of_getElem? (i := 181) rfl) rfl)
  | 39, _ => exact (t_in4 (List.mem_of_getElem? (i := 183) rfl) rfl)
  | 40, _ => exact (t_in4 (List.mem_of_getElem? (i := 185) rfl) rfl)
  | k + 41, hk => exact absurd hk (by omega)
theorem K9 : ClOk 9 "SatchelSinsModel" TX9 41 := ⟨rfl, inX9, tyX9_ok, nmX9⟩
theorem fl8_9 : Cond.fieldLink "SatchelSins" 9 (TX8 0).1 (TX8 0).2.1 (TX8 0).2.2.1 ∈ wsG := (t_in2 (List.mem_of_getElem? (i := 22) rfl) rfl)
theorem fl8_13 : Cond.fieldLink "SatchelSins" 13 (TX8 2).1 (TX8 2).2.1 (TX8 2).2.2.1 ∈ wsG := (t_in2 (List.mem_of_getElem? (i := 24) rfl) rfl)
theorem fl8_20 : Cond.fieldLink "SatchelSins" 20 (TX8 3).1 (TX8 3).2.1 (TX8 3).2.2.1 ∈ wsG := (t_in2 (List.mem_of_getElem? (i := 25) rfl) rfl)
theorem fl8_24 : Cond.fieldLink "SatchelSins" 24 (TX8 4).1 (TX8 4).2.1 (TX8 4).2.2.1 ∈ wsG := (t_in2 (List.mem_of_getElem? (i := 26) rfl) rfl)
theorem fl8_32 : Cond.fieldLink "SatchelSins" 32 (TX8 5).1 (TX8 5).2.1 (TX8 5).2.2.1 ∈ wsG := (t_in2 (List.mem_of_getElem? (i := 27) rfl) rfl)
theorem fl8_41 : Cond.fieldLink "SatchelSins" 41 (TX8 6).1 (TX8 6).2.1 (TX8 6).2.2.1 ∈ wsG := (t_in2 (List.mem_of_getElem? (i := 28) rfl) rfl)
theorem fl8_48 : Cond.fieldLink "SatchelSins" 48 (TX8 7).1 (TX8 7).2.1 (TX8 7).2.2.1 ∈ wsG := (t_in2 (List.mem_of_getElem? (i := 29) rfl) rfl)
theorem fl8_54 : Cond.fieldLink "SatchelSins" 54 (TX8 8).1 (TX8 8).2.1 (TX8 8).2.2.1 ∈ wsG := (t_in2 (List.mem_of_getElem? (i := 30) rfl) rfl)
theorem fl8_63 : Cond.fieldLink "SatchelSins" 63 (TX8 9).1 (TX8 9).2.1 (TX8 9).2.2.1 ∈ wsG := (t_in2 (List.mem_of_getElem? (i := 31) rfl) rfl)
theorem fl8_67 : Cond.fieldLink "SatchelSins" 67 (TX8 10).1 (TX8 10).2.1 (TX8 10).2.2.1 ∈ wsG := (t_in2 (List.mem_of_getElem? (i := 32) rfl) rfl)
theorem fl8_73 : Cond.fieldLink "SatchelSins" 73 (TX8 11).1 (TX8 11).2.1 (TX8 11).2.2.1 ∈ wsG := (t_in2 (List.mem_of_getElem? (i := 33) rfl) rfl)
theorem fl8_80 : Cond.fieldLink "SatchelSins" 80 (TX8 12).1 (TX8 12).2.1 (TX8 12).2.2.1 ∈ wsG := (t_in2 (List.mem_of_getElem? (i := 34) rfl) rfl)
theorem fl8_86 : Cond.fieldLink "SatchelSins" 86 (TX8 1).1 (TX8 1).2.1 (TX8 1).2.2.1 ∈ wsG := (t_in2 (List.mem_of_getElem? (i := 23) rfl) rfl)
theorem fl8_104 : Cond.fieldLink "SatchelSins" 104 (TX5 2).1 (TX5 2).2.1 (TX5 2).2.2.1 ∈ wsG := (t_in1 (List.mem_of_getElem? (i := 36) rfl) rfl)
theorem fl8_107 : Cond.fieldLink "SatchelSins" 107 (TX5 1).1 (TX5 1).2.1 (TX5 1).2.2.1 ∈ wsG := (t_in1 (List.mem_of_getElem? (i := 33) rfl) rfl)
theorem fl8_110 : Cond.fieldLink "SatchelSins" 110 (TX5 3).1 (TX5 3).2.1 (TX5 3).2.2.1 ∈ wsG := (t_in1 (List.mem_of_getElem? (i := 42) rfl) rfl)
theorem fl8_134 : Cond.fieldLink "SatchelSins" 134 (TX7 5).1 (TX7 5).2.1 (TX7 5).2.2.1 ∈ wsG := (t_in1 (List.mem_of_getElem? (i := 226) rfl) rfl)
theorem fl8_137 : Cond.fieldLink "SatchelSins" 137 (TX7 6).1 (TX7 6).2.1 (TX7 6).2.2.1 ∈ wsG := (t_in1 (List.mem_of_getElem? (i := 228) rfl) rfl)
theorem fl8_140 : Cond.fieldLink "SatchelSins" 140 (TX3 2).1 (TX3 2).2.1 (TX3 2).2.2.1 ∈ wsG := (t_in1 (List.mem_of_getElem? (i := 142) rfl) rfl)
theorem fl8_148 : Cond.fieldLink "SatchelSins" 148 (TX5 4).1 (TX5 4).2.1 (TX5 4).2.2.1 ∈ wsG := (t_in1 (List.mem_of_getElem? (i := 47) rfl) rfl)
theorem fl8_151 : Cond.fieldLink "SatchelSins" 151 (TX5 5).1 (TX5 5).2.1 (TX5 5).2.2.1 ∈ wsG := (t_in1 (List.mem_of_getElem? (i := 51) rfl) rfl)
theorem fl8_167 : Cond.fieldLink "SatchelSins" 167 (TX5 6).1 (TX5 6).2.1 (TX5 6).2.2.1 ∈ wsG := (t_in1 (List.mem_of_getElem? (i := 54) rfl) rfl)
theorem fl8_173 : Cond.fieldLink "SatchelSins" 173 (TX5 7).1 (TX5 7).2.1 (TX5 7).2.2.1 ∈ wsG := (t_in1 (List.mem_of_getElem? (i := 57) rfl) rfl)
theorem fl8_176 : Cond.fieldLink "SatchelSins" 176 (TX5 8).1 (TX5 8).2.1 (TX5 8).2.2.1 ∈ wsG := (t_in1 (List.mem_of_getElem? (i := 62) rfl) rfl)
theorem fl8_189 : Cond.fieldLink "SatchelSins" 189 (TX0 0).1 (TX0 0).2.1 (TX0 0).2.2.1 ∈ wsG := (t_in1 (List.mem_of_getElem? (i := 126) rfl) rfl)
theorem fl8_220 : Cond.fieldLink "SatchelSins" 220 (TX5 0).1 (TX5 0).2.1 (TX5 0).2.2.1 ∈ wsG := (t_in1 (List.mem_of_getElem? (i := 30) rfl) rfl)
theorem fl8_246 : Cond.fieldLink "SatchelSins" 246 (TX6 2).1 (TX6 2).2.1 (TX6 2).2.2.1 ∈ wsG := (t_in1 (List.mem_of_getElem? (i := 198) rfl) rfl)
theorem fl8_249 : Cond.fieldLink "SatchelSins" 249 (TX6 3).1 (TX6 3).2.1 (TX6 3).2.2.1 ∈ wsG := (t_in1 (List.mem_of_getElem? (i := 200) rfl) rfl)
theorem fl8_252 : Cond.fieldLink "SatchelSins" 252 (TX6 4).1 (TX6 4).2.1 (TX6 4).2.2.1 ∈ wsG := (t_in1 (List.mem_of_getElem? (i := 202) rfl) rfl)
theorem fl8_285 : Cond.fieldLink "SatchelSins" 285 (TX8 13).1 (TX8 13).2.1 (TX8 13).2.2.1 ∈ wsG := (t_in2 (List.mem_of_getElem? (i := 35) rfl) rfl)
theorem fl8_293 : Cond.fieldLink "SatchelSins" 293 (TX1 2).1 (TX1 2).2.1 (TX1 2).2.2.1 ∈ wsG := (t_in2 (List.mem_of_getElem? (i := 14) rfl) rfl)
theorem fl8_299 : Cond.fieldLink "SatchelSins" 299 (TX1 1).1 (TX1 1).2.1 (TX1 1).2.2.1 ∈ wsG := (t_in2 (List.mem_of_getElem? (i := 12) rfl) rfl)
theorem fl0_11 : Cond.fieldLink "SatchelSins$Day" 11 (TX0 0).1 (TX0 0).2.1 (TX0 0).2.2.1 ∈ wsG := (t_in1 (List.mem_of_getElem? (i := 125) rfl) rfl)
theorem fl0_15 : Cond.fieldLink "SatchelSins$Day" 15 (TX0 1).1 (TX0 1).2.1 (TX0 1).2.2.1 ∈ wsG := (t_in1 (List.mem_of_getElem? (i := 127) rfl) rfl)
theorem fl0_28 : Cond.fieldLink "SatchelSins$Day" 28 (TX5 3).1 (TX5 3).2.1 (TX5 3).2.2.1 ∈ wsG := (t_in1 (List.mem_of_getElem? (i := 45) rfl) rfl)
theorem fl0_42 : Cond.fieldLink "SatchelSins$Day" 42 (TX5 8).1 (TX5 8).2.1 (TX5 8).2.2.1 ∈ wsG := (t_in1 (List.mem_of_getElem? (i := 63) rfl) rfl)
theorem fl0_48 : Cond.fieldLink "SatchelSins$Day" 48 (TX5 4).1 (TX5 4).2.1 (TX5 4).2.2.1 ∈ wsG := (t_in1 (List.mem_of_getElem? (i := 49) rfl) rfl)
theorem fl0_51 : Cond.fieldLink "SatchelSins$Day" 51 (TX5 2).1 (TX5 2).2.1 (TX5 2).2.2.1 ∈ wsG := (t_in1 (List.mem_of_getElem? (i := 39) rfl) rfl)
theorem fl0_66 : Cond.fieldLink "SatchelSins$Day" 66 (TX5 5).1 (TX5 5).2.1 (TX5 5).2.2.1 ∈ wsG := (t_in1 (List.mem_of_getElem? (i := 52) rfl) rfl)
theorem fl0_75 : Cond.fieldLink "SatchelSins$Day" 75 (TX5 7).1 (TX5 7).2.1 (TX5 7).2.2.1 ∈ wsG := (t_in1 (List.mem_of_getElem? (i := 58) rfl) rfl)
theorem fl0_85 : Cond.fieldLink "SatchelSins$Day" 85 (TX5 1).1 (TX5 1).2.1 (TX5 1).2.2.1 ∈ wsG := (t_in1 (List.mem_of_getElem? (i := 34) rfl) rfl)
theorem fl1_9 : Cond.fieldLink "SatchelSins$Image" 9 (TX1 0).1 (TX1 0).2.1 (TX1 0).2.2.1 ∈ wsG := (t_in2 (List.mem_of_getElem? (i := 10) rfl) rfl)
theorem fl1_21 : Cond.fieldLink "SatchelSins$Image" 21 (TX1 1).1 (TX1 1).2.1 (TX1 1).2.2.1 ∈ wsG := (t_in2 (List.mem_of_getElem? (i := 11) rfl) rfl)
theorem fl1_25 : Cond.fieldLink "SatchelSins$Image" 25 (TX1 2).1 (TX1 2).2.1 (TX1 2).2.2.1 ∈ wsG := (t_in2 (List.mem_of_getElem? (i := 13) rfl) rfl)
theorem fl2_9 : Cond.fieldLink "SatchelSins$Packing" 9 (TX2 3).1 (TX2 3).2.1 (TX2 3).2.2.1 ∈ wsG := (t_in1 (List.mem_of_getElem? (i := 161) rfl) rfl)
theorem fl2_15 : Cond.fieldLink "SatchelSins$Packing" 15 (TX2 4).1 (TX2 4).2.1 (TX2 4).2.2.1 ∈ wsG := (t_in1 (List.mem_of_getElem? (i := 162) rfl) rfl)
theorem fl2_18 : Cond.fieldLink "SatchelSins$Packing" 18 (TX2 5).1 (TX2 5).2.1 (TX2 5).2.2.1 ∈ wsG := (t_in1 (List.mem_of_getElem? (i := 163) rfl) rfl)
theorem fl2_21 : Cond.fieldLink "SatchelSins$Packing" 21 (TX2 6).1 (TX2 6).2.1 (TX2 6).2.2.1 ∈ wsG := (t_in1 (List.mem_of_getElem? (i := 164) rfl) rfl)
theorem fl2_24 : Cond.fieldLink "SatchelSins$Packing" 24 (TX2 0).1 (TX2 0).2.1 (TX2 0).2.2.1 ∈ wsG := (t_in1 (List.mem_of_getElem? (i := 158) rfl) rfl)
theorem fl2_28 : Cond.fieldLink "SatchelSins$Packing" 28 (TX2 1).1 (TX2 1).2.1 (TX2 1).2.2.1 ∈ wsG := (t_in1 (List.mem_of_getElem? (i := 159) rfl) rfl)
theorem fl2_32 : Cond.fieldLink "SatchelSins$Packing" 32 (TX2 2).1 (TX2 2).2.1 (TX2 2).2.2.1 ∈ wsG := (t_in1 (List.mem_of_getElem? (i := 160) rfl) rfl)
theorem fl2_36 : Cond.fieldLink "SatchelSins$Packing" 36 (TX2 9).1 (TX2 9).2.1 (TX2 9).2.2.1 ∈ wsG := (t_in1 (List.mem_of_getElem? (i := 167) rfl) rfl)
theorem fl2_42 : Cond.fieldLink "SatchelSins$Packing" 42 (TX2 7).1 (TX2 7).2.1 (TX2 7).2.2.1 ∈ wsG := (t_in1 (List.mem_of_getElem? (i := 165) rfl) rfl)
theorem fl2_64 : Cond.fieldLink "SatchelSins$Packing" 64 (TX2 8).1 (TX2 8).2.1 (TX2 8).2.2.1 ∈ wsG := (t_in1 (List.mem_of_getElem? (i := 166) rfl) rfl)
theorem fl2_67 : Cond.fieldLink "SatchelSins$Packing" 67 (TX5 2).1 (TX5 2).2.1 (TX5 2).2.2.1 ∈ wsG := (t_in1 (List.mem_of_getElem? (i := 37) rfl) rfl)
theorem fl2_76 : Cond.fieldLink "SatchelSins$Packing" 76 (TX5 3).1 (TX5 3).2.1 (TX5 3).2.2.1 ∈ wsG := (t_in1 (List.mem_of_getElem? (i := 43) rfl) rfl)
theorem fl2_79 : Cond.fieldLink "SatchelSins$Packing" 79 (TX5 8).1 (TX5 8).2.1 (TX5 8).2.2.1 ∈ wsG := (t_in1 (List.mem_of_getElem? (i := 61) rfl) rfl)
theorem fl2_106 : Cond.fieldLink "SatchelSins$Packing" 106 (TX5 4).1 (TX5 4).2.1 (TX5 4).2.2.1 ∈ wsG := (t_in1 (List.mem_of_getElem? (i := 48) rfl) rfl)
theorem fl3_11 : Cond.fieldLink "SatchelSins$Past" 11 (TX3 0).1 (TX3 0).2.1 (TX3 0).2.2.1 ∈ wsG := (t_in1 (List.mem_of_getElem? (i := 139) rfl) rfl)
theorem fl3_17 : Cond.fieldLink "SatchelSins$Past" 17 (TX3 1).1 (TX3 1).2.1 (TX3 1).2.2.1 ∈ wsG := (t_in1 (List.mem_of_getElem? (i := 140) rfl) rfl)
theorem fl3_27 : Cond.fieldLink "SatchelSins$Past" 27 (TX3 2).1 (TX3 2).2.1 (TX3 2).2.2.1 ∈ wsG := (t_in1 (List.mem_of_getElem? (i := 141) rfl) rfl)
theorem fl4_9 : Cond.fieldLink "SatchelSins$Reader" 9 (TX4 0).1 (TX4 0).2.1 (TX4 0).2.2.1 ∈ wsG := (t_in1 (List.mem_of_getElem? (i := 90) rfl) rfl)
theorem fl4_15 : Cond.fieldLink "SatchelSins$Reader" 15 (TX4 1).1 (TX4 1).2.1 (TX4 1).2.2.1 ∈ wsG := (t_in1 (List.mem_of_getElem? (i := 91) rfl) rfl)
theorem fl4_25 : Cond.fieldLink "SatchelSins$Reader" 25 (TX4 2).1 (TX4 2).2.1 (TX4 2).2.2.1 ∈ wsG := (t_in1 (List.mem_of_getElem? (i := 92) rfl) rfl)
theorem fl4_29 : Cond.fieldLink "SatchelSins$Reader" 29 (TX4 3).1 (TX4 3).2.1 (TX4 3).2.2.1 ∈ wsG := (t_in1 (List.mem_of_getElem? (i := 93) rfl) rfl)
theorem fl4_32 : Cond.fieldLink "SatchelSins$Reader" 32 (TX4 5).1 (TX4 5).2.1 (TX4 5).2.2.1 ∈ wsG := (t_in1 (List.mem_of_getElem? (i := 95) rfl) rfl)
theorem fl4_35 : Cond.fieldLink "SatchelSins$Reader" 35 (TX4 6).1 (TX4 6).2.1 (TX4 6).2.2.1 ∈ wsG := (t_in1 (List.mem_of_getElem? (i := 96) rfl) rfl)
theorem fl4_53 : Cond.fieldLink "SatchelSins$Reader" 53 (TX5 0).1 (TX5 0).2.1 (TX5 0).2.2.1 ∈ wsG := (t_in1 (List.mem_of_getElem? (i := 29) rfl) rfl)
theorem fl4_83 : Cond.fieldLink "SatchelSins$Reader" 83 (TX5 1).1 (TX5 1).2.1 (TX5 1).2.2.1 ∈ wsG := (t_in1 (List.mem_of_getElem? (i := 32) rfl) rfl)
theorem fl4_86 : Cond.fieldLink "SatchelSins$Reader" 86 (TX5 2).1 (TX5 2).2.1 (TX5 2).2.2.1 ∈ wsG := (t_in1 (List.mem_of_getElem? (i := 38) rfl) rfl)
theorem fl4_92 : Cond.fieldLink "SatchelSins$Reader" 92 (TX5 3).1 (TX5 3).2.1 (TX5 3).2.2.1 ∈ wsG := (t_in1 (List.mem_of_getElem? (i := 44) rfl) rfl)
theorem fl4_102 : Cond.fieldLink "SatchelSins$Reader" 102 (TX4 4).1 (TX4 4).2.1 (TX4 4).2.2.1 ∈ wsG := (t_in1 (List.mem_of_getElem? (i := 94) rfl) rfl)
theorem fl4_105 : Cond.fieldLink "SatchelSins$Reader" 105 (TX5 6).1 (TX5 6).2.1 (TX5 6).2.2.1 ∈ wsG := (t_in1 (List.mem_of_getElem? (i := 55) rfl) rfl)
theorem fl5_9 : Cond.fieldLink "SatchelSins$Roll" 9 (TX5 4).1 (TX5 4).2.1 (TX5 4).2.2.1 ∈ wsG := (t_in1 (List.mem_of_getElem? (i := 46) rfl) rfl)
theorem fl5_15 : Cond.fieldLink "SatchelSins$Roll" 15 (TX5 5).1 (TX5 5).2.1 (TX5 5).2.2.1 ∈ wsG := (t_in1 (List.mem_of_getElem? (i := 50) rfl) rfl)
theorem fl5_18 : Cond.fieldLink "SatchelSins$Roll" 18 (TX5 6).1 (TX5 6).2.1 (TX5 6).2.2.1 ∈ wsG := (t_in1 (List.mem_of_getElem? (i := 53) rfl) rfl)
theorem fl5_21 : Cond.fieldLink "SatchelSins$Roll" 21 (TX5 7).1 (TX5 7).2.1 (TX5 7).2.2.1 ∈ wsG := (t_in1 (List.mem_of_getElem? (i := 56) rfl) rfl)
theorem fl5_24 : Cond.fieldLink "SatchelSins$Roll" 24 (TX5 8).1 (TX5 8).2.1 (TX5 8).2.2.1 ∈ wsG := (t_in1 (List.mem_of_getElem? (i := 59) rfl) rfl)
theorem fl5_27 : Cond.fieldLink "SatchelSins$Roll" 27 (TX5 0).1 (TX5 0).2.1 (TX5 0).2.2.1 ∈ wsG := (t_in1 (List.mem_of_getElem? (i := 28) rfl) rfl)
theorem fl5_31 : Cond.fieldLink "SatchelSins$Roll" 31 (TX5 1).1 (TX5 1).2.1 (TX5 1).2.2.1 ∈ wsG := (t_in1 (List.mem_of_getElem? (i := 31) rfl) rfl)
theorem fl5_35 : Cond.fieldLink "SatchelSins$Roll" 35 (TX5 2).1 (TX5 2).2.1 (TX5 2).2.2.1 ∈ wsG := (t_in1 (List.mem_of_getElem? (i := 35) rfl) rfl)
theorem fl5_38 : Cond.fieldLink "SatchelSins$Roll" 38 (TX5 3).1 (TX5 3).2.1 (TX5 3).2.2.1 ∈ wsG := (t_in1 (List.mem_of_getElem? (i := 40) rfl) rfl)
theorem fl6_9 : Cond.fieldLink "SatchelSins$Scale" 9 (TX6 1).1 (TX6 1).2.1 (TX6 1).2.2.1 ∈ wsG := (t_in1 (List.mem_of_getElem? (i := 196) rfl) rfl)
theorem fl6_15 : Cond.fieldLink "SatchelSins$Scale" 15 (TX6 0).1 (TX6 0).2.1 (TX6 0).2.2.1 ∈ wsG := (t_in1 (List.mem_of_getElem? (i := 195) rfl) rfl)
theorem fl6_19 : Cond.fieldLink "SatchelSins$Scale" 19 (TX6 2).1 (TX6 2).2.1 (TX6 2).2.2.1 ∈ wsG := (t_in1 (List.mem_of_getElem? (i := 197) rfl) rfl)
theorem fl6_23 : Cond.fieldLink "SatchelSins$Scale" 23 (TX6 3).1 (TX6 3).2.1 (TX6 3).2.2.1 ∈ wsG := (t_in1 (List.mem_of_getElem? (i := 199) rfl) rfl)
theorem fl6_26 : Cond.fieldLink "SatchelSins$Scale" 26 (TX6 4).1 (TX6 4).2.1 (TX6 4).2.2.1 ∈ wsG := (t_in1 (List.mem_of_getElem? (i := 201) rfl) rfl)
theorem fl6_35 : Cond.fieldLink "SatchelSins$Scale" 35 (TX5 3).1 (TX5 3).2.1 (TX5 3).2.2.1 ∈ wsG := (t_in1 (List.mem_of_getElem? (i := 41) rfl) rfl)
theorem fl6_54 : Cond.fieldLink "SatchelSins$Scale" 54 (TX5 8).1 (TX5 8).2.1 (TX5 8).2.2.1 ∈ wsG := (t_in1 (List.mem_of_getElem? (i := 60) rfl) rfl)
theorem fl7_9 : Cond.fieldLink "SatchelSins$Slate" 9 (TX7 0).1 (TX7 0).2.1 (TX7 0).2.2.1 ∈ wsG := (t_in1 (List.mem_of_getElem? (i := 220) rfl) rfl)
theorem fl7_15 : Cond.fieldLink "SatchelSins$Slate" 15 (TX7 1).1 (TX7 1).2.1 (TX7 1).2.2.1 ∈ wsG := (t_in1 (List.mem_of_getElem? (i := 221) rfl) rfl)
theorem fl7_18 : Cond.fieldLink "SatchelSins$Slate" 18 (TX7 2).1 (TX7 2).2.1 (TX7 2).2.2.1 ∈ wsG := (t_in1 (List.mem_of_getElem? (i := 222) rfl) rfl)
theorem fl7_22 : Cond.fieldLink "SatchelSins$Slate" 22 (TX7 3).1 (TX7 3).2.1 (TX7 3).2.2.1 ∈ wsG := (t_in1 (List.mem_of_getElem? (i := 223) rfl) rfl)
theorem fl7_25 : Cond.fieldLink "SatchelSins$Slate" 25 (TX7 4).1 (TX7 4).2.1 (TX7 4).2.2.1 ∈ wsG := (t_in1 (List.mem_of_getElem? (i := 224) rfl) rfl)
theorem fl7_28 : Cond.fieldLink "SatchelSins$Slate" 28 (TX7 5).1 (TX7 5).2.1 (TX7 5).2.2.1 ∈ wsG := (t_in1 (List.mem_of_getElem? (i := 225) rfl) rfl)
theorem fl7_32 : Cond.fieldLink "SatchelSins$Slate" 32 (TX7 6).1 (TX7 6).2.1 (TX7 6).2.2.1 ∈ wsG := (t_in1 (List.mem_of_getElem? (i := 227) rfl) rfl)
theorem fl9_7 : Cond.fieldLink "SatchelSinsModel" 7 (TX9 3).1 (TX9 3).2.1 (TX9 3).2.2.1 ∈ wsG := (t_in4 (List.mem_of_getElem? (i := 67) rfl) rfl)
theorem fl9_13 : Cond.fieldLink "SatchelSinsModel" 13 (TX9 4).1 (TX9 4).2.1 (TX9 4).2.2.1 ∈ wsG := (t_in4 (List.mem_of_getElem? (i := 68) rfl) rfl)
theorem fl9_16 : Cond.fieldLink "SatchelSinsModel" 16 (TX9 5).1 (TX9 5).2.1 (TX9 5).2.2.1 ∈ wsG := (t_in4 (List.mem_of_getElem? (i := 69) rfl) rfl)
theorem fl9_19 : Cond.fieldLink "SatchelSinsModel" 19 (TX9 7).1 (TX9 7).2.1 (TX9 7).2.2.1 ∈ wsG := (t_in4 (List.mem_of_getElem? (i := 71) rfl) rfl)
theorem fl9_22 : Cond.fieldLink "SatchelSinsModel" 22 (TX9 8).1 (TX9 8).2.1 (TX9 8).2.2.1 ∈ wsG := (t_in4 (List.mem_of_getElem? (i := 72) rfl) rfl)
theorem fl9_25 : Cond.fieldLink "SatchelSinsModel" 25 (TX9 9).1 (TX9 9).2.1 (TX9 9).2.2.1 ∈ wsG := (t_in4 (List.mem_of_getElem? (i := 73) rfl) rfl)
theorem fl9_28 : Cond.fieldLink "SatchelSinsModel" 28 (TX9 11).1 (TX9 11).2.1 (TX9 11).2.2.1 ∈ wsG := (t_in4 (List.mem_of_getElem? (i := 75) rfl) rfl)
theorem fl9_31 : Cond.fieldLink "SatchelSinsModel" 31 (TX9 13).1 (TX9 13).2.1 (TX9 13).2.2.1 ∈ wsG := (t_in4 (List.mem_of_getElem? (i := 77) rfl) rfl)
theorem fl9_35 : Cond.fieldLink "SatchelSinsModel" 35 (TX9 20).1 (TX9 20).2.1 (TX9 20).2.2.1 ∈ wsG := (t_in4 (List.mem_of_getElem? (i := 84) rfl) rfl)
theorem fl9_38 : Cond.fieldLink "SatchelSinsModel" 38 (TX9 21).1 (TX9 21).2.1 (TX9 21).2.2.1 ∈ wsG := (t_in4 (List.mem_of_getElem? (i := 85) rfl) rfl)
theorem fl9_41 : Cond.fieldLink "SatchelSinsModel" 41 (TX9 22).1 (TX9 22).2.1 (TX9 22).2.2.1 ∈ wsG := (t_in4 (List.mem_of_getElem? (i := 86) rfl) rfl)
theorem fl9_44 : Cond.fieldLink "SatchelSinsModel" 44 (TX9 24).1 (TX9 24).2.1 (TX9 24).2.2.1 ∈ wsG := (t_in4 (List.mem_of_getElem? (i := 88) rfl) rfl)
theorem fl9_47 : Cond.fieldLink "SatchelSinsModel" 47 (TX9 25).1 (TX9 25).2.1 (TX9 25).2.2.1 ∈ wsG := (t_in4 (List.mem_of_getElem? (i := 89) rfl) rfl)
theorem fl9_50 : Cond.fieldLink "SatchelSinsModel" 50 (TX9 27).1 (TX9 27).2.1 (TX9 27).2.2.1 ∈ wsG := (t_in4 (List.mem_of_getElem? (i := 91) rfl) rfl)
theorem fl9_53 : Cond.fieldLink "SatchelSinsModel" 53 (TX9 28).1 (TX9 28).2.1 (TX9 28).2.2.1 ∈ wsG := (t_in4 (List.mem_of_getElem? (i := 92) rfl) rfl)
theorem fl9_56 : Cond.fieldLink "SatchelSinsModel" 56 (TX9 29).1 (TX9 29).2.1 (TX9 29).2.2.1 ∈ wsG := (t_in4 (List.mem_of_getElem? (i := 93) rfl) rfl)
theorem fl9_59 : Cond.fieldLink "SatchelSinsModel" 59 (TX9 30).1 (TX9 30).2.1 (TX9 30).2.2.1 ∈ wsG := (t_in4 (List.mem_of_getElem? (i := 94) rfl) rfl)
theorem fl9_62 : Cond.fieldLink "SatchelSinsModel" 62 (TX9 31).1 (TX9 31).2.1 (TX9 31).2.2.1 ∈ wsG := (t_in4 (List.mem_of_getElem? (i := 95) rfl) rfl)
theorem fl9_65 : Cond.fieldLink "SatchelSinsModel" 65 (TX9 33).1 (TX9 33).2.1 (TX9 33).2.2.1 ∈ wsG := (t_in4 (List.mem_of_getElem? (i := 97) rfl) rfl)
theorem fl9_68 : Cond.fieldLink "SatchelSinsModel" 68 (TX9 34).1 (TX9 34).2.1 (TX9 34).2.2.1 ∈ wsG := (t_in4 (List.mem_of_getElem? (i := 98) rfl) rfl)
theorem fl9_71 : Cond.fieldLink "SatchelSinsModel" 71 (TX9 35).1 (TX9 35).2.1 (TX9 35).2.2.1 ∈ wsG := (t_in4 (List.mem_of_getElem? (i := 99) rfl) rfl)
theorem fl9_75 : Cond.fieldLink "SatchelSinsModel" 75 (TX9 37).1 (TX9 37).2.1 (TX9 37).2.2.1 ∈ wsG := (t_in4 (List.mem_of_getElem? (i := 101) rfl) rfl)
theorem fl9_78 : Cond.fieldLink "SatchelSinsModel" 78 (TX9 38).1 (TX9 38).2.1 (TX9 38).2.2.1 ∈ wsG := (t_in4 (List.mem_of_getElem? (i := 102) rfl) rfl)
theorem fl9_81 : Cond.fieldLink "SatchelSinsModel" 81 (TX9 39).1 (TX9 39).2.1 (TX9 39).2.2.1 ∈ wsG := (t_in4 (List.mem_of_getElem? (i := 103) rfl) rfl)
theorem fl9_84 : Cond.fieldLink "SatchelSinsModel" 84 (TX9 40).1 (TX9 40).2.1 (TX9 40).2.2.1 ∈ wsG := (t_in4 (List.mem_of_getElem? (i := 104) rfl) rfl)
theorem fl9_87 : Cond.fieldLink "SatchelSinsModel" 87 (TX9 0).1 (TX9 0).2.1 (TX9 0).2.2.1 ∈ wsG := (t_in4 (List.mem_of_getElem? (i := 64) rfl) rfl)
theorem fl9_91 : Cond.fieldLink "SatchelSinsModel" 91 (TX9 2).1 (TX9 2).2.1 (TX9 2).2.2.1 ∈ wsG := (t_in4 (List.mem_of_getElem? (i := 66) rfl) rfl)
theorem fl9_98 : Cond.fieldLink "SatchelSinsModel" 98 (TX9 6).1 (TX9 6).2.1 (TX9 6).2.2.1 ∈ wsG := (t_in4 (List.mem_of_getElem? (i := 70) rfl) rfl)
theorem fl9_104 : Cond.fieldLink "SatchelSinsModel" 104 (TX9 12).1 (TX9 12).2.1 (TX9 12).2.2.1 ∈ wsG := (t_in4 (List.mem_of_getElem? (i := 76) rfl) rfl)
theorem fl9_108 : Cond.fieldLink "SatchelSinsModel" 108 (TX9 14).1 (TX9 14).2.1 (TX9 14).2.2.1 ∈ wsG := (t_in4 (List.mem_of_getElem? (i := 78) rfl) rfl)
theorem fl9_123 : Cond.fieldLink "SatchelSinsModel" 123 (TX9 16).1 (TX9 16).2.1 (TX9 16).2.2.1 ∈ wsG := (t_in4 (List.mem_of_getElem? (i := 80) rfl) rfl)
theorem fl9_126 : Cond.fieldLink "SatchelSinsModel" 126 (TX9 15).1 (TX9 15).2.1 (TX9 15).2.2.1 ∈ wsG := (t_in4 (List.mem_of_getElem? (i := 79) rfl) rfl)
theorem fl9_132 : Cond.fieldLink "SatchelSinsModel" 132 (TX9 17).1 (TX9 17).2.1 (TX9 17).2.2.1 ∈ wsG := (t_in4 (List.mem_of_getElem? (i := 81) rfl) rfl)
theorem fl9_135 : Cond.fieldLink "SatchelSinsModel" 135 (TX9 18).1 (TX9 18).2.1 (TX9 18).2.2.1 ∈ wsG := (t_in4 (List.mem_of_getElem? (i := 82) rfl) rfl)
theorem fl9_138 : Cond.fieldLink "SatchelSinsModel" 138 (TX9 19).1 (TX9 19).2.1 (TX9 19).2.2.1 ∈ wsG := (t_in4 (List.mem_of_getElem? (i := 83) rfl) rfl)
theorem fl9_145 : Cond.fieldLink "SatchelSinsModel" 145 (TX9 23).1 (TX9 23).2.1 (TX9 23).2.2.1 ∈ wsG := (t_in4 (List.mem_of_getElem? (i := 87) rfl) rfl)
theorem fl9_160 : Cond.fieldLink "SatchelSinsModel" 160 (TX9 1).1 (TX9 1).2.1 (TX9 1).2.2.1 ∈ wsG := (t_in4 (List.mem_of_getElem? (i := 65) rfl) rfl)
theorem fl9_169 : Cond.fieldLink "SatchelSinsModel" 169 (TX9 32).1 (TX9 32).2.1 (TX9 32).2.2.1 ∈ wsG := (t_in4 (List.mem_of_getElem? (i := 96) rfl) rfl)
theorem fl9_172 : Cond.fieldLink "SatchelSinsModel" 172 (TX9 36).1 (TX9 36).2.1 (TX9 36).2.2.1 ∈ wsG := (t_in4 (List.mem_of_getElem? (i := 100) rfl) rfl)
theorem fl9_175 : Cond.fieldLink "SatchelSinsModel" 175 (TX9 26).1 (TX9 26).2.1 (TX9 26).2.2.1 ∈ wsG := (t_in4 (List.mem_of_getElem? (i := 90) rfl) rfl)
theorem fl9_235 : Cond.fieldLink "SatchelSinsModel" 235 (TX9 10).1 (TX9 10).2.1 (TX9 10).2.2.1 ∈ wsG := (t_in4 (List.mem_of_getElem? (i := 74) rfl) rfl)
theorem mo0 : MOk 0 := ⟨(t_in1 (List.mem_of_getElem? (i := 116) rfl) rfl), (t_in1 (List.mem_of_getElem? (i := 4) rfl) rfl), ⟨by decide +kernel, by decide +kernel⟩, by decide +kernel, by decide +kernel⟩
theorem mi0 : Cond.instanceMethod (mtJ 0).1 ∈ wsG := (t_in1 (List.mem_of_getElem? (i := 115) rfl) rfl)
theorem mn0 : (parseMethodDescriptor (mtJ 0).1.desc).map (fun d => d.parameters.length) = some 1 := by decide +kernel
theorem mo1 : MOk 1 := ⟨(t_in1 (List.mem_of_getElem? (i := 121) rfl) rfl), (t_in1 (List.mem_of_getElem? (i := 4) rfl) rfl), ⟨by decide +kernel, by decide +kernel⟩, by decide +kernel, by decide +kernel⟩
theorem mi1 : Cond.instanceMethod (mtJ 1).1 ∈ wsG := (t_in1 (List.mem_of_getElem? (i := 119) rfl) rfl)
theorem msl1 : Cond.selects "SatchelSins$Day" (mtJ 1).1 (mtJ 1).1 ∈ wsG := (t_in1 (List.mem_of_getElem? (i := 120) rfl) rfl)
theorem mn1 : (parseMethodDescriptor (mtJ 1).1.desc).map (fun d => d.parameters.length) = some 0 := by decide +kernel
theorem mo2 : MOk 2 := ⟨(t_in2 (List.mem_of_getElem? (i := 193) rfl) rfl), (t_in1 (List.mem_of_getElem? (i := 4) rfl) rfl), ⟨by decide +kernel, by decide +kernel⟩, by decide +kernel, by decide +kernel⟩
theorem mi2 : Cond.instanceMethod (mtJ 2).1 ∈ wsG := (t_in2 (List.mem_of_getElem? (i := 191) rfl) rfl)
theorem msl2 : Cond.selects "SatchelSins$Day" (mtJ 2).1 (mtJ 2).1 ∈ wsG := (t_in2 (List.mem_of_getElem? (i := 192) rfl) rfl)
theorem mn2 : (parseMethodDescriptor (mtJ 2).1.desc).map (fun d => d.parameters.length) = some 0 := by decide +kernel
theorem mo3 : MOk 3 := ⟨(t_in2 (List.mem_of_getElem? (i := 197) rfl) rfl), (t_in1 (List.mem_of_getElem? (i := 4) rfl) rfl), ⟨by decide +kernel, by decide +kernel⟩, by decide +kernel, by decide +kernel⟩
theorem mi3 : Cond.instanceMethod (mtJ 3).1 ∈ wsG := (t_in2 (List.mem_of_getElem? (i := 195) rfl) rfl)
theorem msl3 : Cond.selects "SatchelSins$Day" (mtJ 3).1 (mtJ 3).1 ∈ wsG := (t_in2 (List.mem_of_getElem? (i := 196) rfl) rfl)
theorem mn3 : (parseMethodDescriptor (mtJ 3).1.desc).map (fun d => d.parameters.length) = some 0 := by decide +kernel
theorem mo4 : MOk 4 := ⟨(t_in2 (List.mem_of_getElem? (i := 201) rfl) rfl), (t_in1 (List.mem_of_getElem? (i := 4) rfl) rfl), ⟨by decide +kernel, by decide +kernel⟩, by decide +kernel, by decide +kernel⟩
theorem mi4 : Cond.instanceMethod (mtJ 4).1 ∈ wsG := (t_in2 (List.mem_of_getElem? (i := 199) rfl) rfl)
theorem msl4 : Cond.selects "SatchelSins$Day" (mtJ 4).1 (mtJ 4).1 ∈ wsG := (t_in2 (List.mem_of_getElem? (i := 200) rfl) rfl)
theorem mn4 : (parseMethodDescriptor (mtJ 4).1.desc).map (fun d => d.parameters.length) = some 0 := by decide +kernel
theorem mo5 : MOk 5 := ⟨(t_in2 (List.mem_of_getElem? (i := 229) rfl) rfl), (t_in1 (List.mem_of_getElem? (i := 4) rfl) rfl), ⟨by decide +kernel, by decide +kernel⟩, by decide +kernel, by decide +kernel⟩
theorem mi5 : Cond.instanceMethod (mtJ 5).1 ∈ wsG := (t_in2 (List.mem_of_getElem? (i := 227) rfl) rfl)
theorem msl5 : Cond.selects "SatchelSins$Day" (mtJ 5).1 (mtJ 5).1 ∈ wsG := (t_in2 (List.mem_of_getElem? (i := 228) rfl) rfl)
theorem mn5 : (parseMethodDescriptor (mtJ 5).1.desc).map (fun d => d.parameters.length) = some 1 := by decide +kernel
theorem mo6 : MOk 6 := ⟨(t_in3 (List.mem_of_getElem? (i := 24) rfl) rfl), (t_in1 (List.mem_of_getElem? (i := 4) rfl) rfl), ⟨by decide +kernel, by decide +kernel⟩, by decide +kernel, by decide +kernel⟩
theorem mi6 : Cond.instanceMethod (mtJ 6).1 ∈ wsG := (t_in3 (List.mem_of_getElem? (i := 22) rfl) rfl)
theorem msl6 : Cond.selects "SatchelSins$Day" (mtJ 6).1 (mtJ 6).1 ∈ wsG := (t_in3 (List.mem_of_getElem? (i := 23) rfl) rfl)
theorem mn6 : (parseMethodDescriptor (mtJ 6).1.desc).map (fun d => d.parameters.length) = some 1 := by decide +kernel
theorem mo7 : MOk 7 := ⟨(t_in2 (List.mem_of_getElem? (i := 221) rfl) rfl), (t_in1 (List.mem_of_getElem? (i := 4) rfl) rfl), ⟨by decide +kernel, by decide +kernel⟩, by decide +kernel, by decide +kernel⟩
theorem mi7 : Cond.instanceMethod (mtJ 7).1 ∈ wsG := (t_in2 (List.mem_of_getElem? (i := 219) rfl) rfl)
theorem msl7 : Cond.selects "SatchelSins$Day" (mtJ 7).1 (mtJ 7).1 ∈ wsG := (t_in2 (List.mem_of_getElem? (i := 220) rfl) rfl)
theorem mn7 : (parseMethodDescriptor (mtJ 7).1.desc).map (fun d => d.parameters.length) = some 1 := by decide +kernel
theorem mo8 : MOk 8 := ⟨(t_in2 (List.mem_of_getElem? (i := 217) rfl) rfl), (t_in1 (List.mem_of_getElem? (i := 4) rfl) rfl), ⟨by decide +kernel, by decide +kernel⟩, by decide +kernel, by decide +kernel⟩
theorem mi8 : Cond.instanceMethod (mtJ 8).1 ∈ wsG := (t_in2 (List.mem_of_getElem? (i := 215) rfl) rfl)
theorem msl8 : Cond.selects "SatchelSins$Day" (mtJ 8).1 (mtJ 8).1 ∈ wsG := (t_in2 (List.mem_of_getElem? (i := 216) rfl) rfl)
theorem mn8 : (parseMethodDescriptor (mtJ 8).1.desc).map (fun d => d.parameters.length) = some 1 := by decide +kernel
theorem mo9 : MOk 9 := ⟨(t_in2 (List.mem_of_getElem? (i := 213) rfl) rfl), (t_in1 (List.mem_of_getElem? (i := 4) rfl) rfl), ⟨by decide +kernel, by decide +kernel⟩, by decide +kernel, by decide +kernel⟩
theorem mi9 : Cond.instanceMethod (mtJ 9).1 ∈ wsG := (t_in2 (List.mem_of_getElem? (i := 211) rfl) rfl)
theorem msl9 : Cond.selects "SatchelSins$Day" (mtJ 9).1 (mtJ 9).1 ∈ wsG := (t_in2 (List.mem_of_getElem? (i := 212) rfl) rfl)
theorem mn9 : (parseMethodDescriptor (mtJ 9).1.desc).map (fun d => d.parameters.length) = some 1 := by decide +kernel
theorem mo10 : MOk 10 := ⟨(t_in2 (List.mem_of_getElem? (i := 209) rfl) rfl), (t_in1 (List.mem_of_getElem? (i := 4) rfl) rfl), ⟨by decide +kernel, by decide +kernel⟩, by decide +kernel, by decide +kernel⟩
theorem mi10 : Cond.instanceMethod (mtJ 10).1 ∈ wsG := (t_in2 (List.mem_of_getElem? (i := 207) rfl) rfl)
theorem msl10 : Cond.selects "SatchelSins$Day" (mtJ 10).1 (mtJ 10).1 ∈ wsG := (t_in2 (List.mem_of_getElem? (i := 208) rfl) rfl)
theorem mn10 : (parseMethodDescriptor (mtJ 10).1.desc).map (fun d => d.parameters.length) = some 1 := by decide +kernel
theorem mo11 : MOk 11 := ⟨(t_in2 (List.mem_of_getElem? (i := 205) rfl) rfl), (t_in1 (List.mem_of_getElem? (i := 4) rfl) rfl), ⟨by decide +kernel, by decide +kernel⟩, by decide +kernel, by decide +kernel⟩
theorem mi11 : Cond.instanceMethod (mtJ 11).1 ∈ wsG := (t_in2 (List.mem_of_getElem? (i := 203) rfl) rfl)
theorem msl11 : Cond.selects "SatchelSins$Day" (mtJ 11).1 (mtJ 11).1 ∈ wsG := (t_in2 (List.mem_of_getElem? (i := 204) rfl) rfl)
theorem mn11 : (parseMethodDescriptor (mtJ 11).1.desc).map (fun d => d.parameters.length) = some 0 := by decide +kernel
theorem mo12 : MOk 12 := ⟨(t_in2 (List.mem_of_getElem? (i := 225) rfl) rfl), (t_in1 (List.mem_of_getElem? (i := 4) rfl) rfl), ⟨by decide +kernel, by decide +kernel⟩, by decide +kernel, by decide +kernel⟩
theorem mi12 : Cond.instanceMethod (mtJ 12).1 ∈ wsG := (t_in2 (List.mem_of_getElem? (i := 223) rfl) rfl)
theorem msl12 : Cond.selects "SatchelSins$Day" (mtJ 12).1 (mtJ 12).1 ∈ wsG := (t_in2 (List.mem_of_getElem? (i := 224) rfl) rfl)
theorem mn12 : (parseMethodDescriptor (mtJ 12).1.desc).map (fun d => d.parameters.length) = some 0 := by decide +kernel
theorem mo13 : MOk 13 := ⟨(t_in3 (List.mem_of_getElem? (i := 5) rfl) rfl), (t_in1 (List.mem_of_getElem? (i := 4) rfl) rfl), ⟨by decide +kernel, by decide +kernel⟩, by decide +kernel, by decide +kernel⟩
theorem mi13 : Cond.instanceMethod (mtJ 13).1 ∈ wsG := (t_in3 (List.mem_of_getElem? (i := 3) rfl) rfl)
theorem msl13 : Cond.selects "SatchelSins$Day" (mtJ 13).1 (mtJ 13).1 ∈ wsG := (t_in3 (List.mem_of_getElem? (i := 4) rfl) rfl)
theorem mn13 : (parseMethodDescriptor (mtJ 13).1.desc).map (fun d => d.parameters.length) = some 1 := by decide +kernel
theorem mo14 : MOk 14 := ⟨(t_in3 (List.mem_of_getElem? (i := 1) rfl) rfl), (t_in1 (List.mem_of_getElem? (i := 4) rfl) rfl), ⟨by decide +kernel, by decide +kernel⟩, by decide +kernel, by decide +kernel⟩
theorem mi14 : Cond.instanceMethod (mtJ 14).1 ∈ wsG := (t_in2 (List.mem_of_getElem? (i := 239) rfl) rfl)
theorem msl14 : Cond.selects "SatchelSins$Day" (mtJ 14).1 (mtJ 14).1 ∈ wsG := (t_in3 (List.mem_of_getElem? (i := 0) rfl) rfl)
theorem mn14 : (parseMethodDescriptor (mtJ 14).1.desc).map (fun d => d.parameters.length) = some 0 := by decide +kernel
theorem mo15 : MOk 15 := ⟨(t_in2 (List.mem_of_getElem? (i := 233) rfl) rfl), (t_in1 (List.mem_of_getElem? (i := 4) rfl) rfl), ⟨by decide +kernel, by decide +kernel⟩, by decide +kernel, by decide +kernel⟩
theorem mi15 : Cond.instanceMethod (mtJ 15).1 ∈ wsG := (t_in2 (List.mem_of_getElem? (i := 231) rfl) rfl)
theorem msl15 : Cond.selects "SatchelSins$Day" (mtJ 15).1 (mtJ 15).1 ∈ wsG := (t_in2 (List.mem_of_getElem? (i := 232) rfl) rfl)
theorem mn15 : (parseMethodDescriptor (mtJ 15).1.desc).map (fun d => d.parameters.length) = some 0 := by decide +kernel
theorem mo16 : MOk 16 := ⟨(t_in2 (List.mem_of_getElem? (i := 237) rfl) rfl), (t_in1 (List.mem_of_getElem? (i := 4) rfl) rfl), ⟨by decide +kernel, by decide +kernel⟩, by decide +kernel, by decide +kernel⟩
theorem mi16 : Cond.instanceMethod (mtJ 16).1 ∈ wsG := (t_in2 (List.mem_of_getElem? (i := 236) rfl) rfl)
theorem msl16 : Cond.selects "SatchelSins$Day" (mtJ 16).1 (mtJ 16).1 ∈ wsG := t_sel (q := (⟨"SatchelSins$Day", "ownLoadOf", "(I)I"⟩, 2)) (List.mem_append_left _ (List.mem_of_getElem? (i := 14) rfl)) rfl
theorem mn16 : (parseMethodDescriptor (mtJ 16).1.desc).map (fun d => d.parameters.length) = some 1 := by decide +kernel
theorem mo17 : MOk 17 := ⟨(t_in3 (List.mem_of_getElem? (i := 20) rfl) rfl), (t_in1 (List.mem_of_getElem? (i := 4) rfl) rfl), ⟨by decide +kernel, by decide +kernel⟩, by decide +kernel, by decide +kernel⟩
theorem mi17 : Cond.instanceMethod (mtJ 17).1 ∈ wsG := (t_in3 (List.mem_of_getElem? (i := 18) rfl) rfl)
theorem msl17 : Cond.selects "SatchelSins$Day" (mtJ 17).1 (mtJ 17).1 ∈ wsG := (t_in3 (List.mem_of_getElem? (i := 19) rfl) rfl)
theorem mn17 : (parseMethodDescriptor (mtJ 17).1.desc).map (fun d => d.parameters.length) = some 2 := by decide +kernel
theorem mo18 : MOk 18 := ⟨(t_in4 (List.mem_of_getElem? (i := 15) rfl) rfl), (t_in1 (List.mem_of_getElem? (i := 4) rfl) rfl), ⟨by decide +kernel, by decide +kernel⟩, by decide +kernel, by decide +kernel⟩
theorem mi18 : Cond.instanceMethod (mtJ 18).1 ∈ wsG := (t_in4 (List.mem_of_getElem? (i := 13) rfl) rfl)
theorem msl18 : Cond.selects "SatchelSins$Day" (mtJ 18).1 (mtJ 18).1 ∈ wsG := (t_in4 (List.mem_of_getElem? (i := 14) rfl) rfl)
theorem mn18 : (parseMethodDescriptor (mtJ 18).1.desc).map (fun d => d.parameters.length) = some 2 := by decide +kernel
theorem mo19 : MOk 19 := ⟨(t_in3 (List.mem_of_getElem? (i := 43) rfl) rfl), (t_in1 (List.mem_of_getElem? (i := 4) rfl) rfl), ⟨by decide +kernel, by decide +kernel⟩, by decide +kernel, by decide +kernel⟩
theorem mi19 : Cond.instanceMethod (mtJ 19).1 ∈ wsG := (t_in3 (List.mem_of_getElem? (i := 41) rfl) rfl)
theorem msl19 : Cond.selects "SatchelSins$Day" (mtJ 19).1 (mtJ 19).1 ∈ wsG := (t_in3 (List.mem_of_getElem? (i := 42) rfl) rfl)
theorem mn19 : (parseMethodDescriptor (mtJ 19).1.desc).map (fun d => d.parameters.length) = some 1 := by decide +kernel
theorem mo20 : MOk 20 := ⟨(t_in3 (List.mem_of_getElem? (i := 66) rfl) rfl), (t_in1 (List.mem_of_getElem? (i := 4) rfl) rfl), ⟨by decide +kernel, by decide +kernel⟩, by decide +kernel, by decide +kernel⟩
theorem mi20 : Cond.instanceMethod (mtJ 20).1 ∈ wsG := (t_in3 (List.mem_of_getElem? (i := 64) rfl) rfl)
theorem msl20 : Cond.selects "SatchelSins$Day" (mtJ 20).1 (mtJ 20).1 ∈ wsG := (t_in3 (List.mem_of_getElem? (i := 65) rfl) rfl)
theorem mn20 : (parseMethodDescriptor (mtJ 20).1.desc).map (fun d => d.parameters.length) = some 2 := by decide +kernel
theorem mo21 : MOk 21 := ⟨(t_in3 (List.mem_of_getElem? (i := 87) rfl) rfl), (t_in1 (List.mem_of_getElem? (i := 4) rfl) rfl), ⟨by decide +kernel, by decide +kernel⟩, by decide +kernel, by decide +kernel⟩
theorem mi21 : Cond.instanceMethod (mtJ 21).1 ∈ wsG := (t_in3 (List.mem_of_getElem? (i := 85) rfl) rfl)
theorem msl21 : Cond.selects "SatchelSins$Day" (mtJ 21).1 (mtJ 21).1 ∈ wsG := (t_in3 (List.mem_of_getElem? (i := 86) rfl) rfl)
theorem mn21 : (parseMethodDescriptor (mtJ 21).1.desc).map (fun d => d.parameters.length) = some 1 := by decide +kernel
theorem mo22 : MOk 22 := ⟨(t_in3 (List.mem_of_getElem? (i := 75) rfl) rfl), (t_in1 (List.mem_of_getElem? (i := 4) rfl) rfl), ⟨by decide +kernel, by decide +kernel⟩, by decide +kernel, by decide +kernel⟩
theorem mi22 : Cond.instanceMethod (mtJ 22).1 ∈ wsG := (t_in3 (List.mem_of_getElem? (i := 73) rfl) rfl)
theorem msl22 : Cond.selects "SatchelSins$Day" (mtJ 22).1 (mtJ 22).1 ∈ wsG := (t_in3 (List.mem_of_getElem? (i := 74) rfl) rfl)
theorem mn22 : (parseMethodDescriptor (mtJ 22).1.desc).map (fun d => d.parameters.length) = some 2 := by decide +kernel
theorem mo23 : MOk 23 := ⟨(t_in3 (List.mem_of_getElem? (i := 193) rfl) rfl), (t_in1 (List.mem_of_getElem? (i := 4) rfl) rfl), ⟨by decide +kernel, by decide +kernel⟩, by decide +kernel, by decide +kernel⟩
theorem mi23 : Cond.instanceMethod (mtJ 23).1 ∈ wsG := (t_in3 (List.mem_of_getElem? (i := 191) rfl) rfl)
theorem msl23 : Cond.selects "SatchelSins$Day" (mtJ 23).1 (mtJ 23).1 ∈ wsG := (t_in3 (List.mem_of_getElem? (i := 192) rfl) rfl)
theorem mn23 : (parseMethodDescriptor (mtJ 23).1.desc).map (fun d => d.parameters.length) = some 2 := by decide +kernel
theorem mo24 : MOk 24 := ⟨(t_in3 (List.mem_of_getElem? (i := 54) rfl) rfl), (t_in1 (List.mem_of_getElem? (i := 4) rfl) rfl), ⟨by decide +kernel, by decide +kernel⟩, by decide +kernel, by decide +kernel⟩
theorem mi24 : Cond.instanceMethod (mtJ 24).1 ∈ wsG := (t_in3 (List.mem_of_getElem? (i := 52) rfl) rfl)
theorem msl24 : Cond.selects "SatchelSins$Day" (mtJ 24).1 (mtJ 24).1 ∈ wsG := (t_in3 (List.mem_of_getElem? (i := 53) rfl) rfl)
theorem mn24 : (parseMethodDescriptor (mtJ 24).1.desc).map (fun d => d.parameters.length) = some 1 := by decide +kernel
theorem mo25 : MOk 25 := ⟨(t_in3 (List.mem_of_getElem? (i := 58) rfl) rfl), (t_in1 (List.mem_of_getElem? (i := 4) rfl) rfl), ⟨by decide +kernel, by decide +kernel⟩, by decide +kernel, by decide +kernel⟩
theorem mi25 : Cond.instanceMethod (mtJ 25).1 ∈ wsG := (t_in3 (List.mem_of_getElem? (i := 56) rfl) rfl)
theorem msl25 : Cond.selects "SatchelSins$Day" (mtJ 25).1 (mtJ 25).1 ∈ wsG := (t_in3 (List.mem_of_getElem? (i := 57) rfl) rfl)
theorem mn25 : (parseMethodDescriptor (mtJ 25).1.desc).map (fun d => d.parameters.length) = some 2 := by decide +kernel
theorem mo26 : MOk 26 := ⟨(t_in3 (List.mem_of_getElem? (i := 79) rfl) rfl), (t_in1 (List.mem_of_getElem? (i := 4) rfl) rfl), ⟨by decide +kernel, by decide +kernel⟩, by decide +kernel, by decide +kernel⟩
theorem mi26 : Cond.instanceMethod (mtJ 26).1 ∈ wsG := (t_in3 (List.mem_of_getElem? (i := 77) rfl) rfl)
theorem msl26 : Cond.selects "SatchelSins$Day" (mtJ 26).1 (mtJ 26).1 ∈ wsG := (t_in3 (List.mem_of_getElem? (i := 78) rfl) rfl)
theorem mn26 : (parseMethodDescriptor (mtJ 26).1.desc).map (fun d => d.parameters.length) = some 2 := by decide +kernel
theorem mo27 : MOk 27 := ⟨(t_in3 (List.mem_of_getElem? (i := 92) rfl) rfl), (t_in1 (List.mem_of_getElem? (i := 4) rfl) rfl), ⟨by decide +kernel, by decide +kernel⟩, by decide +kernel, by decide +kernel⟩
theorem mi27 : Cond.instanceMethod (mtJ 27).1 ∈ wsG := (t_in3 (List.mem_of_getElem? (i := 90) rfl) rfl)
theorem msl27 : Cond.selects "SatchelSins$Day" (mtJ 27).1 (mtJ 27).1 ∈ wsG := (t_in3 (List.mem_of_getElem? (i := 91) rfl) rfl)
theorem mn27 : (parseMethodDescriptor (mtJ 27).1.desc).map (fun d => d.parameters.length) = some 1 := by decide +kernel
theorem mo28 : MOk 28 := ⟨(t_in3 (List.mem_of_getElem? (i := 111) rfl) rfl), (t_in1 (List.mem_of_getElem? (i := 4) rfl) rfl), ⟨by decide +kernel, by decide +kernel⟩, by decide +kernel, by decide +kernel⟩
theorem mi28 : Cond.instanceMethod (mtJ 28).1 ∈ wsG := (t_in3 (List.mem_of_getElem? (i := 109) rfl) rfl)
theorem msl28 : Cond.selects "SatchelSins$Day" (mtJ 28).1 (mtJ 28).1 ∈ wsG := (t_in3 (List.mem_of_getElem? (i := 110) rfl) rfl)
theorem mn28 : (parseMethodDescriptor (mtJ 28).1.desc).map (fun d => d.parameters.length) = some 1 := by decide +kernel
theorem mo29 : MOk 29 := ⟨(t_in3 (List.mem_of_getElem? (i := 102) rfl) rfl), (t_in1 (List.mem_of_getElem? (i := 4) rfl) rfl), ⟨by decide +kernel, by decide +kernel⟩, by decide +kernel, by decide +kernel⟩
theorem mi29 : Cond.instanceMethod (mtJ 29).1 ∈ wsG := (t_in3 (List.mem_of_getElem? (i := 100) rfl) rfl)
theorem msl29 : Cond.selects "SatchelSins$Day" (mtJ 29).1 (mtJ 29).1 ∈ wsG := (t_in3 (List.mem_of_getElem? (i := 101) rfl) rfl)
theorem mn29 : (parseMethodDescriptor (mtJ 29).1.desc).map (fun d => d.parameters.length) = some 0 := by decide +kernel
theorem mo30 : MOk 30 := ⟨(t_in2 (List.mem_of_getElem? (i := 8) rfl) rfl), (t_in1 (List.mem_of_getElem? (i := 10) rfl) rfl), ⟨by decide +kernel, by decide +kernel⟩, by decide +kernel, by decide +kernel⟩
theorem mi30 : Cond.instanceMethod (mtJ 30).1 ∈ wsG := (t_in2 (List.mem_of_getElem? (i := 7) rfl) rfl)
theorem mn30 : (parseMethodDescriptor (mtJ 30).1.desc).map (fun d => d.parameters.length) = some 0 := by decide +kernel
theorem mo31 : MOk 31 := ⟨(t_in4 (List.mem_of_getElem? (i := 48) rfl) rfl), (t_in1 (List.mem_of_getElem? (i := 10) rfl) rfl), ⟨by decide +kernel, by decide +kernel⟩, by decide +kernel, by decide +kernel⟩
theorem mi31 : Cond.instanceMethod (mtJ 31).1 ∈ wsG := (t_in4 (List.mem_of_getElem? (i := 46) rfl) rfl)
theorem msl31 : Cond.selects "SatchelSins$Image" (mtJ 31).1 (mtJ 31).1 ∈ wsG := (t_in4 (List.mem_of_getElem? (i := 47) rfl) rfl)
theorem mn31 : (parseMethodDescriptor (mtJ 31).1.desc).map (fun d => d.parameters.length) = some 2 := by decide +kernel
theorem mo32 : MOk 32 := ⟨(t_in4 (List.mem_of_getElem? (i := 57) rfl) rfl), (t_in1 (List.mem_of_getElem? (i := 10) rfl) rfl), ⟨by decide +kernel, by decide +kernel⟩, by decide +kernel, by decide +kernel⟩
theorem mi32 : Cond.instanceMethod (mtJ 32).1 ∈ wsG := (t_in4 (List.mem_of_getElem? (i := 55) rfl) rfl)
theorem msl32 : Cond.selects "SatchelSins$Image" (mtJ 32).1 (mtJ 32).1 ∈ wsG := (t_in4 (List.mem_of_getElem? (i := 56) rfl) rfl)
theorem mn32 : (parseMethodDescriptor (mtJ 32).1.desc).map (fun d => d.parameters.length) = some 1 := by decide +kernel
theorem mo33 : MOk 33 := ⟨(t_in1 (List.mem_of_getElem? (i := 156) rfl) rfl), (t_in1 (List.mem_of_getElem? (i := 7) rfl) rfl), ⟨by decide +kernel, by decide +kernel⟩, by decide +kernel, by decide +kernel⟩
theorem mi33 : Cond.instanceMethod (mtJ 33).1 ∈ wsG := (t_in1 (List.mem_of_getElem? (i := 155) rfl) rfl)
theorem mn33 : (parseMethodDescriptor (mtJ 33).1.desc).map (fun d => d.parameters.length) = some 3 := by decide +kernel
theorem mo34 : MOk 34 := ⟨(t_in2 (List.mem_of_getElem? (i := 181) rfl) rfl), (t_in1 (List.mem_of_getElem? (i := 7) rfl) rfl), ⟨by decide +kernel, by decide +kernel⟩, by decide +kernel, by decide +kernel⟩
theorem mi34 : Cond.instanceMethod (mtJ 34).1 ∈ wsG := (t_in2 (List.mem_of_getElem? (i := 179) rfl) rfl)
theorem msl34 : Cond.selects "SatchelSins$Packing" (mtJ 34).1 (mtJ 34).1 ∈ wsG := (t_in2 (List.mem_of_getElem? (i := 180) rfl) rfl)
theorem mn34 : (parseMethodDescriptor (mtJ 34).1.desc).map (fun d => d.parameters.length) = some 0 := by decide +kernel
theorem mo35 : MOk 35 := ⟨(t_in3 (List.mem_of_getElem? (i := 151) rfl) rfl), (t_in1 (List.mem_of_getElem? (i := 7) rfl) rfl), ⟨by decide +kernel, by decide +kernel⟩, by decide +kernel, by decide +kernel⟩
theorem mi35 : Cond.instanceMethod (mtJ 35).1 ∈ wsG := (t_in3 (List.mem_of_getElem? (i := 149) rfl) rfl)
theorem msl35 : Cond.selects "SatchelSins$Packing" (mtJ 35).1 (mtJ 35).1 ∈ wsG := (t_in3 (List.mem_of_getElem? (i := 150) rfl) rfl)
theorem mn35 : (parseMethodDescriptor (mtJ 35).1.desc).map (fun d => d.parameters.length) = some 0 := by decide +kernel
theorem mo36 : MOk 36 := ⟨(t_in3 (List.mem_of_getElem? (i := 181) rfl) rfl), (t_in1 (List.mem_of_getElem? (i := 7) rfl) rfl), ⟨by decide +kernel, by decide +kernel⟩, by decide +kernel, by decide +kernel⟩
theorem mi36 : Cond.instanceMethod (mtJ 36).1 ∈ wsG := (t_in3 (List.mem_of_getElem? (i := 179) rfl) rfl)
theorem msl36 : Cond.selects "SatchelSins$Packing" (mtJ 36).1 (mtJ 36).1 ∈ wsG := (t_in3 (List.mem_of_getElem? (i := 180) rfl) rfl)
theorem mn36 : (parseMethodDescriptor (mtJ 36).1.desc).map (fun d => d.parameters.length) = some 1 := by decide +kernel
theorem mo37 : MOk 37 := ⟨(t_in3 (List.mem_of_getElem? (i := 155) rfl) rfl), (t_in1 (List.mem_of_getElem? (i := 7) rfl) rfl), ⟨by decide +kernel, by decide +kernel⟩, by decide +kernel, by decide +kernel⟩
theorem mi37 : Cond.instanceMethod (mtJ 37).1 ∈ wsG := (t_in3 (List.mem_of_getElem? (i := 154) rfl) rfl)
theorem msl37 : Cond.selects "SatchelSins$Packing" (mtJ 37).1 (mtJ 37).1 ∈ wsG := t_sel (q := (⟨"SatchelSins$Packing", "solve", "()V"⟩, 10)) (List.mem_append_right _ (List.mem_append_left _ (List.mem_of_getElem? (i := 2) rfl))) rfl
theorem mn37 : (parseMethodDescriptor (mtJ 37).1.desc).map (fun d => d.parameters.length) = some 0 := by decide +kernel
theorem mo38 : MOk 38 := ⟨(t_in3 (List.mem_of_getElem? (i := 171) rfl) rfl), (t_in1 (List.mem_of_getElem? (i := 7) rfl) rfl), ⟨by decide +kernel, by decide +kernel⟩, by decide +kernel, by decide +kernel⟩
theorem mi38 : Cond.instanceMethod (mtJ 38).1 ∈ wsG := (t_in3 (List.mem_of_getElem? (i := 170) rfl) rfl)
theorem msl38 : Cond.selects "SatchelSins$Packing" (mtJ 38).1 (mtJ 38).1 ∈ wsG := t_sel (q := (⟨"SatchelSins$Packing", "leastGreatestLoad", "()I"⟩, 10)) (List.mem_append_right _ (List.mem_append_left _ (List.mem_of_getElem? (i := 5) rfl))) rfl
theorem mn38 : (parseMethodDescriptor (mtJ 38).1.desc).map (fun d => d.parameters.length) = some 0 := by decide +kernel
theorem mo39 : MOk 39 := ⟨(t_in3 (List.mem_of_getElem? (i := 159) rfl) rfl), (t_in1 (List.mem_of_getElem? (i := 7) rfl) rfl), ⟨by decide +kernel, by decide +kernel⟩, by decide +kernel, by decide +kernel⟩
theorem mi39 : Cond.instanceMethod (mtJ 39).1 ∈ wsG := (t_in3 (List.mem_of_getElem? (i := 158) rfl) rfl)
theorem msl39 : Cond.selects "SatchelSins$Packing" (mtJ 39).1 (mtJ 39).1 ∈ wsG := t_sel (q := (⟨"SatchelSins$Packing", "haveHoldersChanged", "()Z"⟩, 10)) (List.mem_append_right _ (List.mem_append_left _ (List.mem_of_getElem? (i := 3) rfl))) rfl
theorem mn39 : (parseMethodDescriptor (mtJ 39).1.desc).map (fun d => d.parameters.length) = some 0 := by decide +kernel
theorem mo40 : MOk 40 := ⟨(t_in3 (List.mem_of_getElem? (i := 163) rfl) rfl), (t_in1 (List.mem_of_getElem? (i := 7) rfl) rfl), ⟨by decide +kernel, by decide +kernel⟩, by decide +kernel, by decide +kernel⟩
theorem mi40 : Cond.instanceMethod (mtJ 40).1 ∈ wsG := (t_in3 (List.mem_of_getElem? (i := 162) rfl) rfl)
theorem msl40 : Cond.selects "SatchelSins$Packing" (mtJ 40).1 (mtJ 40).1 ∈ wsG := t_sel (q := (⟨"SatchelSins$Packing", "holderNow", "(I)I"⟩, 10)) (List.mem_append_right _ (List.mem_append_left _ (List.mem_of_getElem? (i := 4) rfl))) rfl
theorem mn40 : (parseMethodDescriptor (mtJ 40).1.desc).map (fun d => d.parameters.length) = some 1 := by decide +kernel
theorem mo41 : MOk 41 := ⟨(t_in3 (List.mem_of_getElem? (i := 176) rfl) rfl), (t_in1 (List.mem_of_getElem? (i := 7) rfl) rfl), ⟨by decide +kernel, by decide +kernel⟩, by decide +kernel, by decide +kernel⟩
theorem mi41 : Cond.instanceMethod (mtJ 41).1 ∈ wsG := (t_in3 (List.mem_of_getElem? (i := 175) rfl) rfl)
theorem msl41 : Cond.selects "SatchelSins$Packing" (mtJ 41).1 (mtJ 41).1 ∈ wsG := t_sel (q := (⟨"SatchelSins$Packing", "place", "(II)V"⟩, 10)) (List.mem_append_right _ (List.mem_append_left _ (List.mem_of_getElem? (i := 6) rfl))) rfl
theorem mn41 : (parseMethodDescriptor (mtJ 41).1.desc).map (fun d => d.parameters.length) = some 2 := by decide +kernel
theorem mo42 : MOk 42 := ⟨(t_in1 (List.mem_of_getElem? (i := 137) rfl) rfl), (t_in1 (List.mem_of_getElem? (i := 6) rfl) rfl), ⟨by decide +kernel, by decide +kernel⟩, by decide +kernel, by decide +kernel⟩
theorem mi42 : Cond.instanceMethod (mtJ 42).1 ∈ wsG := (t_in1 (List.mem_of_getElem? (i := 136) rfl) rfl)
theorem mn42 : (parseMethodDescriptor (mtJ 42).1.desc).map (fun d => d.parameters.length) = some 0 := by decide +kernel
theorem mo43 : MOk 43 := ⟨(t_in3 (List.mem_of_getElem? (i := 48) rfl) rfl), (t_in1 (List.mem_of_getElem? (i := 6) rfl) rfl), ⟨by decide +kernel, by decide +kernel⟩, by decide +kernel, by decide +kernel⟩
theorem mi43 : Cond.instanceMethod (mtJ 43).1 ∈ wsG := (t_in3 (List.mem_of_getElem? (i := 46) rfl) rfl)
theorem msl43 : Cond.selects "SatchelSins$Past" (mtJ 43).1 (mtJ 43).1 ∈ wsG := (t_in3 (List.mem_of_getElem? (i := 47) rfl) rfl)
theorem mn43 : (parseMethodDescriptor (mtJ 43).1.desc).map (fun d => d.parameters.length) = some 1 := by decide +kernel
theorem mo44 : MOk 44 := ⟨(t_in3 (List.mem_of_getElem? (i := 139) rfl) rfl), (t_in1 (List.mem_of_getElem? (i := 6) rfl) rfl), ⟨by decide +kernel, by decide +kernel⟩, by decide +kernel, by decide +kernel⟩
theorem mi44 : Cond.instanceMethod (mtJ 44).1 ∈ wsG := (t_in3 (List.mem_of_getElem? (i := 137) rfl) rfl)
theorem msl44 : Cond.selects "SatchelSins$Past" (mtJ 44).1 (mtJ 44).1 ∈ wsG := (t_in3 (List.mem_of_getElem? (i := 138) rfl) rfl)
theorem mn44 : (parseMethodDescriptor (mtJ 44).1.desc).map (fun d => d.parameters.length) = some 1 := by decide +kernel
theorem mo45 : MOk 45 := ⟨(t_in2 (List.mem_of_getElem? (i := 173) rfl) rfl), (t_in1 (List.mem_of_getElem? (i := 6) rfl) rfl), ⟨by decide +kernel, by decide +kernel⟩, by decide +kernel, by decide +kernel⟩
theorem mi45 : Cond.instanceMethod (mtJ 45).1 ∈ wsG := (t_in2 (List.mem_of_getElem? (i := 171) rfl) rfl)
theorem msl45 : Cond.selects "SatchelSins$Past" (mtJ 45).1 (mtJ 45).1 ∈ wsG := (t_in2 (List.mem_of_getElem? (i := 172) rfl) rfl)
theorem mn45 : (parseMethodDescriptor (mtJ 45).1.desc).map (fun d => d.parameters.length) = some 0 := by decide +kernel
theorem mo46 : MOk 46 := ⟨(t_in1 (List.mem_of_getElem? (i := 88) rfl) rfl), (t_in1 (List.mem_of_getElem? (i := 3) rfl) rfl), ⟨by decide +kernel, by decide +kernel⟩, by decide +kernel, by decide +kernel⟩
theorem mi46 : Cond.instanceMethod (mtJ 46).1 ∈ wsG := (t_in1 (List.mem_of_getElem? (i := 87) rfl) rfl)
theorem mn46 : (parseMethodDescriptor (mtJ 46).1.desc).map (fun d => d.parameters.length) = some 2 := by decide +kernel
theorem mo47 : MOk 47 := ⟨(t_in2 (List.mem_of_getElem? (i := 78) rfl) rfl), (t_in1 (List.mem_of_getElem? (i := 3) rfl) rfl), ⟨by decide +kernel, by decide +kernel⟩, by decide +kernel, by decide +kernel⟩
theorem mi47 : Cond.instanceMethod (mtJ 47).1 ∈ wsG := (t_in2 (List.mem_of_getElem? (i := 76) rfl) rfl)
theorem msl47 : Cond.selects "SatchelSins$Reader" (mtJ 47).1 (mtJ 47).1 ∈ wsG := (t_in2 (List.mem_of_getElem? (i := 77) rfl) rfl)
theorem mn47 : (parseMethodDescriptor (mtJ 47).1.desc).map (fun d => d.parameters.length) = some 1 := by decide +kernel
theorem mo48 : MOk 48 := ⟨(t_in2 (List.mem_of_getElem? (i := 157) rfl) rfl), (t_in1 (List.mem_of_getElem? (i := 3) rfl) rfl), ⟨by decide +kernel, by decide +kernel⟩, by decide +kernel, by decide +kernel⟩
theorem mi48 : Cond.instanceMethod (mtJ 48).1 ∈ wsG := (t_in2 (List.mem_of_getElem? (i := 155) rfl) rfl)
theorem msl48 : Cond.selects "SatchelSins$Reader" (mtJ 48).1 (mtJ 48).1 ∈ wsG := (t_in2 (List.mem_of_getElem? (i := 156) rfl) rfl)
theorem mn48 : (parseMethodDescriptor (mtJ 48).1.desc).map (fun d => d.parameters.length) = some 0 := by decide +kernel
theorem mo49 : MOk 49 := ⟨(t_in2 (List.mem_of_getElem? (i := 97) rfl) rfl), (t_in1 (List.mem_of_getElem? (i := 3) rfl) rfl), ⟨by decide +kernel, by decide +kernel⟩, by decide +kernel, by decide +kernel⟩
theorem mi49 : Cond.instanceMethod (mtJ 49).1 ∈ wsG := (t_in2 (List.mem_of_getElem? (i := 96) rfl) rfl)
theorem msl49 : Cond.selects "SatchelSins$Reader" (mtJ 49).1 (mtJ 49).1 ∈ wsG := t_sel (q := (⟨"SatchelSins$Reader", "readClause", "()V"⟩, 7)) (List.mem_append_left _ (List.mem_of_getElem? (i := 2) rfl)) rfl
theorem mn49 : (parseMethodDescriptor (mtJ 49).1.desc).map (fun d => d.parameters.length) = some 0 := by decide +kernel
theorem mo50 : MOk 50 := ⟨(t_in2 (List.mem_of_getElem? (i := 105) rfl) rfl), (t_in1 (List.mem_of_getElem? (i := 3) rfl) rfl), ⟨by decide +kernel, by decide +kernel⟩, by decide +kernel, by decide +kernel⟩
theorem mi50 : Cond.instanceMethod (mtJ 50).1 ∈ wsG := (t_in2 (List.mem_of_getElem? (i := 104) rfl) rfl)
theorem msl50 : Cond.selects "SatchelSins$Reader" (mtJ 50).1 (mtJ 50).1 ∈ wsG := t_sel (q := (⟨"SatchelSins$Reader", "readBrook", "()V"⟩, 7)) (List.mem_append_left _ (List.mem_of_getElem? (i := 4) rfl)) rfl
theorem mn50 : (parseMethodDescriptor (mtJ 50).1.desc).map (fun d => d.parameters.length) = some 0 := by decide +kernel
theorem mo51 : MOk 51 := ⟨(t_in2 (List.mem_of_getElem? (i := 125) rfl) rfl), (t_in1 (List.mem_of_getElem? (i := 3) rfl) rfl), ⟨by decide +kernel, by decide +kernel⟩, by decide +kernel, by decide +kernel⟩
theorem mi51 : Cond.instanceMethod (mtJ 51).1 ∈ wsG := (t_in2 (List.mem_of_getElem? (i := 124) rfl) rfl)
theorem msl51 : Cond.selects "SatchelSins$Reader" (mtJ 51).1 (mtJ 51).1 ∈ wsG := t_sel (q := (⟨"SatchelSins$Reader", "readChild", "()V"⟩, 7)) (List.mem_append_left _ (List.mem_of_getElem? (i := 9) rfl)) rfl
theorem mn51 : (parseMethodDescriptor (mtJ 51).1.desc).map (fun d => d.parameters.length) = some 0 := by decide +kernel
theorem mo52 : MOk 52 := ⟨(t_in2 (List.mem_of_getElem? (i := 133) rfl) rfl), (t_in1 (List.mem_of_getElem? (i := 3) rfl) rfl), ⟨by decide +kernel, by decide +kernel⟩, by decide +kernel, by decide +kernel⟩
theorem mi52 : Cond.instanceMethod (mtJ 52).1 ∈ wsG := (t_in2 (List.mem_of_getElem? (i := 132) rfl) rfl)
theorem msl52 : Cond.selects "SatchelSins$Reader" (mtJ 52).1 (mtJ 52).1 ∈ wsG := t_sel (q := (⟨"SatchelSins$Reader", "readDeed", "()V"⟩, 7)) (List.mem_append_left _ (List.mem_of_getElem? (i := 10) rfl)) rfl
theorem mn52 : (parseMethodDescriptor (mtJ 52).1.desc).map (fun d => d.parameters.length) = some 0 := by decide +kernel
theorem mo53 : MOk 53 := ⟨(t_in2 (List.mem_of_getElem? (i := 141) rfl) rfl), (t_in1 (List.mem_of_getElem? (i := 3) rfl) rfl), ⟨by decide +kernel, by decide +kernel⟩, by decide +kernel, by decide +kernel⟩
theorem mi53 : Cond.instanceMethod (mtJ 53).1 ∈ wsG := (t_in2 (List.mem_of_getElem? (i := 140) rfl) rfl)
theorem msl53 : Cond.selects "SatchelSins$Reader" (mtJ 53).1 (mtJ 53).1 ∈ wsG := t_sel (q := (⟨"SatchelSins$Reader", "readHanding", "()V"⟩, 7)) (List.mem_append_left _ (List.mem_of_getElem? (i := 11) rfl)) rfl
theorem mn53 : (parseMethodDescriptor (mtJ 53).1.desc).map (fun d => d.parameters.length) = some 0 := by decide +kernel
theorem mo54 : MOk 54 := ⟨(t_in2 (List.mem_of_getElem? (i := 109) rfl) rfl), (t_in1 (List.mem_of_getElem? (i := 3) rfl) rfl), ⟨by decide +kernel, by decide +kernel⟩, by decide +kernel, by decide +kernel⟩
theorem mi54 : Cond.instanceMethod (mtJ 54).1 ∈ wsG := (t_in2 (List.mem_of_getElem? (i := 108) rfl) rfl)
theorem msl54 : Cond.selects "SatchelSins$Reader" (mtJ 54).1 (mtJ 54).1 ∈ wsG := t_sel (q := (⟨"SatchelSins$Reader", "takeWord", "(Z)V"⟩, 7)) (List.mem_append_left _ (List.mem_of_getElem? (i := 5) rfl)) rfl
theorem mn54 : (parseMethodDescriptor (mtJ 54).1.desc).map (fun d => d.parameters.length) = some 1 := by decide +kernel
theorem mo55 : MOk 55 := ⟨(t_in2 (List.mem_of_getElem? (i := 121) rfl) rfl), (t_in1 (List.mem_of_getElem? (i := 3) rfl) rfl), ⟨by decide +kernel, by decide +kernel⟩, by decide +kernel, by decide +kernel⟩
theorem mi55 : Cond.instanceMethod (mtJ 55).1 ∈ wsG := (t_in2 (List.mem_of_getElem? (i := 120) rfl) rfl)
theorem msl55 : Cond.selects "SatchelSins$Reader" (mtJ 55).1 (mtJ 55).1 ∈ wsG := t_sel (q := (⟨"SatchelSins$Reader", "readEnd", "()V"⟩, 7)) (List.mem_append_left _ (List.mem_of_getElem? (i := 8) rfl)) rfl
theorem mn55 : (parseMethodDescriptor (mtJ 55).1.desc).map (fun d => d.parameters.length) = some 0 := by decide +kernel
theorem mo56 : MOk 56 := ⟨(t_in2 (List.mem_of_getElem? (i := 113) rfl) rfl), (t_in1 (List.mem_of_getElem? (i := 3) rfl) rfl), ⟨by decide +kernel, by decide +kernel⟩, by decide +kernel, by decide +kernel⟩
theorem mi56 : Cond.instanceMethod (mtJ 56).1 ∈ wsG := (t_in2 (List.mem_of_getElem? (i := 112) rfl) rfl)
theorem msl56 : Cond.selects "SatchelSins$Reader" (mtJ 56).1 (mtJ 56).1 ∈ wsG := t_sel (q := (⟨"SatchelSins$Reader", "readNumber", "(II)I"⟩, 7)) (List.mem_append_left _ (List.mem_of_getElem? (i := 6) rfl)) rfl
theorem mn56 : (parseMethodDescriptor (mtJ 56).1.desc).map (fun d => d.parameters.length) = some 2 := by decide +kernel
theorem mo57 : MOk 57 := ⟨(t_in2 (List.mem_of_getElem? (i := 117) rfl) rfl), (t_in1 (List.mem_of_getElem? (i := 3) rfl) rfl), ⟨by decide +kernel, by decide +kernel⟩, by decide +kernel, by decide +kernel⟩
theorem mi57 : Cond.instanceMethod (mtJ 57).1 ∈ wsG := (t_in2 (List.mem_of_getElem? (i := 116) rfl) rfl)
theorem msl57 : Cond.selects "SatchelSins$Reader" (mtJ 57).1 (mtJ 57).1 ∈ wsG := t_sel (q := (⟨"SatchelSins$Reader", "isFigure", "(I)Z"⟩, 7)) (List.mem_append_left _ (List.mem_of_getElem? (i := 7) rfl)) rfl
theorem mn57 : (parseMethodDescriptor (mtJ 57).1.desc).map (fun d => d.parameters.length) = some 1 := by decide +kernel
theorem mo58 : MOk 58 := ⟨(t_in2 (List.mem_of_getElem? (i := 89) rfl) rfl), (t_in1 (List.mem_of_getElem? (i := 3) rfl) rfl), ⟨by decide +kernel, by decide +kernel⟩, by decide +kernel, by decide +kernel⟩
theorem mi58 : Cond.instanceMethod (mtJ 58).1 ∈ wsG := (t_in2 (List.mem_of_getElem? (i := 88) rfl) rfl)
theorem msl58 : Cond.selects "SatchelSins$Reader" (mtJ 58).1 (mtJ 58).1 ∈ wsG := t_sel (q := (⟨"SatchelSins$Reader", "skipBlanks", "()V"⟩, 7)) (List.mem_append_left _ (List.mem_of_getElem? (i := 0) rfl)) rfl
theorem mn58 : (parseMethodDescriptor (mtJ 58).1.desc).map (fun d => d.parameters.length) = some 0 := by decide +kernel
theorem mo59 : MOk 59 := ⟨(t_in2 (List.mem_of_getElem? (i := 93) rfl) rfl), (t_in1 (List.mem_of_getElem? (i := 3) rfl) rfl), ⟨by decide +kernel, by decide +kernel⟩, by decide +kernel, by decide +kernel⟩
theorem mi59 : Cond.instanceMethod (mtJ 59).1 ∈ wsG := (t_in2 (List.mem_of_getElem? (i := 92) rfl) rfl)
theorem msl59 : Cond.selects "SatchelSins$Reader" (mtJ 59).1 (mtJ 59).1 ∈ wsG := t_sel (q := (⟨"SatchelSins$Reader", "letter", "()I"⟩, 7)) (List.mem_append_left _ (List.mem_of_getElem? (i := 1) rfl)) rfl
theorem mn59 : (parseMethodDescriptor (mtJ 59).1.desc).map (fun d => d.parameters.length) = some 0 := by decide +kernel
theorem mo60 : MOk 60 := ⟨(t_in2 (List.mem_of_getElem? (i := 101) rfl) rfl), (t_in1 (List.mem_of_getElem? (i := 3) rfl) rfl), ⟨by decide +kernel, by decide +kernel⟩, by decide +kernel, by decide +kernel⟩
theorem mi60 : Cond.instanceMethod (mtJ 60).1 ∈ wsG := (t_in2 (List.mem_of_getElem? (i := 100) rfl) rfl)
theorem msl60 : Cond.selects "SatchelSins$Reader" (mtJ 60).1 (mtJ 60).1 ∈ wsG := t_sel (q := (⟨"SatchelSins$Reader", "fail", "(II)V"⟩, 7)) (List.mem_append_left _ (List.mem_of_getElem? (i := 3) rfl)) rfl
theorem mn60 : (parseMethodDescriptor (mtJ 60).1.desc).map (fun d => d.parameters.length) = some 2 := by decide +kernel
theorem mo61 : MOk 61 := ⟨(t_in1 (List.mem_of_getElem? (i := 26) rfl) rfl), (t_in1 (List.mem_of_getElem? (i := 2) rfl) rfl), ⟨by decide +kernel, by decide +kernel⟩, by decide +kernel, by decide +kernel⟩
theorem mi61 : Cond.instanceMethod (mtJ 61).1 ∈ wsG := (t_in1 (List.mem_of_getElem? (i := 25) rfl) rfl)
theorem mn61 : (parseMethodDescriptor (mtJ 61).1.desc).map (fun d => d.parameters.length) = some 0 := by decide +kernel
theorem mo62 : MOk 62 := ⟨(t_in2 (List.mem_of_getElem? (i := 85) rfl) rfl), (t_in1 (List.mem_of_getElem? (i := 2) rfl) rfl), ⟨by decide +kernel, by decide +kernel⟩, by decide +kernel, by decide +kernel⟩
theorem mi62 : Cond.instanceMethod (mtJ 62).1 ∈ wsG := (t_in2 (List.mem_of_getElem? (i := 83) rfl) rfl)
theorem msl62 : Cond.selects "SatchelSins$Roll" (mtJ 62).1 (mtJ 62).1 ∈ wsG := (t_in2 (List.mem_of_getElem? (i := 84) rfl) rfl)
theorem mn62 : (parseMethodDescriptor (mtJ 62).1.desc).map (fun d => d.parameters.length) = some 0 := by decide +kernel
theorem mo63 : MOk 63 := ⟨(t_in2 (List.mem_of_getElem? (i := 161) rfl) rfl), (t_in1 (List.mem_of_getElem? (i := 2) rfl) rfl), ⟨by decide +kernel, by decide +kernel⟩, by decide +kernel, by decide +kernel⟩
theorem mi63 : Cond.instanceMethod (mtJ 63).1 ∈ wsG := (t_in2 (List.mem_of_getElem? (i := 159) rfl) rfl)
theorem msl63 : Cond.selects "SatchelSins$Roll" (mtJ 63).1 (mtJ 63).1 ∈ wsG := (t_in2 (List.mem_of_getElem? (i := 160) rfl) rfl)
theorem mn63 : (parseMethodDescriptor (mtJ 63).1.desc).map (fun d => d.parameters.length) = some 1 := by decide +kernel
theorem mo64 : MOk 64 := ⟨(t_in2 (List.mem_of_getElem? (i := 129) rfl) rfl), (t_in1 (List.mem_of_getElem? (i := 2) rfl) rfl), ⟨by decide +kernel, by decide +kernel⟩, by decide +kernel, by decide +kernel⟩
theorem mi64 : Cond.instanceMethod (mtJ 64).1 ∈ wsG := (t_in2 (List.mem_of_getElem? (i := 127) rfl) rfl)
theorem msl64 : Cond.selects "SatchelSins$Roll" (mtJ 64).1 (mtJ 64).1 ∈ wsG := (t_in2 (List.mem_of_getElem? (i := 128) rfl) rfl)
theorem mn64 : (parseMethodDescriptor (mtJ 64).1.desc).map (fun d => d.parameters.length) = some 2 := by decide +kernel
theorem mo65 : MOk 65 := ⟨(t_in2 (List.mem_of_getElem? (i := 137) rfl) rfl), (t_in1 (List.mem_of_getElem? (i := 2) rfl) rfl), ⟨by decide +kernel, by decide +kernel⟩, by decide +kernel, by decide +kernel⟩
theorem mi65 : Cond.instanceMethod (mtJ 65).1 ∈ wsG := (t_in2 (List.mem_of_getElem? (i := 135) rfl) rfl)
theorem msl65 : Cond.selects "SatchelSins$Roll" (mtJ 65).1 (mtJ 65).1 ∈ wsG := (t_in2 (List.mem_of_getElem? (i := 136) rfl) rfl)
theorem mn65 : (parseMethodDescriptor (mtJ 65).1.desc).map (fun d => d.parameters.length) = some 2 := by decide +kernel
theorem mo66 : MOk 66 := ⟨(t_in2 (List.mem_of_getElem? (i := 153) rfl) rfl), (t_in1 (List.mem_of_getElem? (i := 2) rfl) rfl), ⟨by decide +kernel, by decide +kernel⟩, by decide +kernel, by decide +kernel⟩
theorem mi66 : Cond.instanceMethod (mtJ 66).1 ∈ wsG := (t_in2 (List.mem_of_getElem? (i := 151) rfl) rfl)
theorem msl66 : Cond.selects "SatchelSins$Roll" (mtJ 66).1 (mtJ 66).1 ∈ wsG := (t_in2 (List.mem_of_getElem? (i := 152) rfl) rfl)
theorem mn66 : (parseMethodDescriptor (mtJ 66).1.desc).map (fun d => d.parameters.length) = some 1 := by decide +kernel
theorem mo67 : MOk 67 := ⟨(t_in3 (List.mem_of_getElem? (i := 33) rfl) rfl), (t_in1 (List.mem_of_getElem? (i := 2) rfl) rfl), ⟨by decide +kernel, by decide +kernel⟩, by decide +kernel, by decide +kernel⟩
theorem mi67 : Cond.instanceMethod (mtJ 67).1 ∈ wsG := (t_in3 (List.mem_of_getElem? (i := 31) rfl) rfl)
theorem msl67 : Cond.selects "SatchelSins$Roll" (mtJ 67).1 (mtJ 67).1 ∈ wsG := (t_in3 (List.mem_of_getElem? (i := 32) rfl) rfl)
theorem mn67 : (parseMethodDescriptor (mtJ 67).1.desc).map (fun d => d.parameters.length) = some 1 := by decide +kernel
theorem mo68 : MOk 68 := ⟨(t_in3 (List.mem_of_getElem? (i := 131) rfl) rfl), (t_in1 (List.mem_of_getElem? (i := 2) rfl) rfl), ⟨by decide +kernel, by decide +kernel⟩, by decide +kernel, by decide +kernel⟩
theorem mi68 : Cond.instanceMethod (mtJ 68).1 ∈ wsG := (t_in3 (List.mem_of_getElem? (i := 129) rfl) rfl)
theorem msl68 : Cond.selects "SatchelSins$Roll" (mtJ 68).1 (mtJ 68).1 ∈ wsG := (t_in3 (List.mem_of_getElem? (i := 130) rfl) rfl)
theorem mn68 : (parseMethodDescriptor (mtJ 68).1.desc).map (fun d => d.parameters.length) = some 1 := by decide +kernel
theorem mo69 : MOk 69 := ⟨(t_in2 (List.mem_of_getElem? (i := 145) rfl) rfl), (t_in1 (List.mem_of_getElem? (i := 2) rfl) rfl), ⟨by decide +kernel, by decide +kernel⟩, by decide +kernel, by decide +kernel⟩
theorem mi69 : Cond.instanceMethod (mtJ 69).1 ∈ wsG := (t_in2 (List.mem_of_getElem? (i := 143) rfl) rfl)
theorem msl69 : Cond.selects "SatchelSins$Roll" (mtJ 69).1 (mtJ 69).1 ∈ wsG := (t_in2 (List.mem_of_getElem? (i := 144) rfl) rfl)
theorem mn69 : (parseMethodDescriptor (mtJ 69).1.desc).map (fun d => d.parameters.length) = some 2 := by decide +kernel
theorem mo70 : MOk 70 := ⟨(t_in2 (List.mem_of_getElem? (i := 149) rfl) rfl), (t_in1 (List.mem_of_getElem? (i := 2) rfl) rfl), ⟨by decide +kernel, by decide +kernel⟩, by decide +kernel, by decide +kernel⟩
theorem mi70 : Cond.instanceMethod (mtJ 70).1 ∈ wsG := (t_in2 (List.mem_of_getElem? (i := 148) rfl) rfl)
theorem msl70 : Cond.selects "SatchelSins$Roll" (mtJ 70).1 (mtJ 70).1 ∈ wsG := t_sel (q := (⟨"SatchelSins$Roll", "hasItFrom", "(II)Z"⟩, 9)) (List.mem_append_left _ (List.mem_of_getElem? (i := 12) rfl)) rfl
theorem mn70 : (parseMethodDescriptor (mtJ 70).1.desc).map (fun d => d.parameters.length) = some 2 := by decide +kernel
theorem mo71 : MOk 71 := ⟨(t_in3 (List.mem_of_getElem? (i := 224) rfl) rfl), (t_in1 (List.mem_of_getElem? (i := 2) rfl) rfl), ⟨by decide +kernel, by decide +kernel⟩, by decide +kernel, by decide +kernel⟩
theorem mi71 : Cond.instanceMethod (mtJ 71).1 ∈ wsG := (t_in3 (List.mem_of_getElem? (i := 222) rfl) rfl)
theorem msl71 : Cond.selects "SatchelSins$Roll" (mtJ 71).1 (mtJ 71).1 ∈ wsG := (t_in3 (List.mem_of_getElem? (i := 223) rfl) rfl)
theorem mn71 : (parseMethodDescriptor (mtJ 71).1.desc).map (fun d => d.parameters.length) = some 1 := by decide +kernel
theorem mo72 : MOk 72 := ⟨(t_in3 (List.mem_of_getElem? (i := 228) rfl) rfl), (t_in1 (List.mem_of_getElem? (i := 2) rfl) rfl), ⟨by decide +kernel, by decide +kernel⟩, by decide +kernel, by decide +kernel⟩
theorem mi72 : Cond.instanceMethod (mtJ 72).1 ∈ wsG := (t_in3 (List.mem_of_getElem? (i := 226) rfl) rfl)
theorem msl72 : Cond.selects "SatchelSins$Roll" (mtJ 72).1 (mtJ 72).1 ∈ wsG := (t_in3 (List.mem_of_getElem? (i := 227) rfl) rfl)
theorem mn72 : (parseMethodDescriptor (mtJ 72).1.desc).map (fun d => d.parameters.length) = some 1 := by decide +kernel
theorem mo73 : MOk 73 := ⟨(t_in1 (List.mem_of_getElem? (i := 193) rfl) rfl), (t_in1 (List.mem_of_getElem? (i := 8) rfl) rfl), ⟨by decide +kernel, by decide +kernel⟩, by decide +kernel, by decide +kernel⟩
theorem mi73 : Cond.instanceMethod (mtJ 73).1 ∈ wsG := (t_in1 (List.mem_of_getElem? (i := 192) rfl) rfl)
theorem mn73 : (parseMethodDescriptor (mtJ 73).1.desc).map (fun d => d.parameters.length) = some 1 := by decide +kernel
theorem mo74 : MOk 74 := ⟨(t_in3 (List.mem_of_getElem? (i := 202) rfl) rfl), (t_in1 (List.mem_of_getElem? (i := 8) rfl) rfl), ⟨by decide +kernel, by decide +kernel⟩, by decide +kernel, by decide +kernel⟩
theorem mi74 : Cond.instanceMethod (mtJ 74).1 ∈ wsG := (t_in3 (List.mem_of_getElem? (i := 200) rfl) rfl)
theorem msl74 : Cond.selects "SatchelSins$Scale" (mtJ 74).1 (mtJ 74).1 ∈ wsG := (t_in3 (List.mem_of_getElem? (i := 201) rfl) rfl)
theorem mn74 : (parseMethodDescriptor (mtJ 74).1.desc).map (fun d => d.parameters.length) = some 1 := by decide +kernel
theorem mo75 : MOk 75 := ⟨(t_in3 (List.mem_of_getElem? (i := 215) rfl) rfl), (t_in1 (List.mem_of_getElem? (i := 8) rfl) rfl), ⟨by decide +kernel, by decide +kernel⟩, by decide +kernel, by decide +kernel⟩
theorem mi75 : Cond.instanceMethod (mtJ 75).1 ∈ wsG := (t_in3 (List.mem_of_getElem? (i := 213) rfl) rfl)
theorem msl75 : Cond.selects "SatchelSins$Scale" (mtJ 75).1 (mtJ 75).1 ∈ wsG := (t_in3 (List.mem_of_getElem? (i := 214) rfl) rfl)
theorem mn75 : (parseMethodDescriptor (mtJ 75).1.desc).map (fun d => d.parameters.length) = some 0 := by decide +kernel
theorem mo76 : MOk 76 := ⟨(t_in3 (List.mem_of_getElem? (i := 207) rfl) rfl), (t_in1 (List.mem_of_getElem? (i := 8) rfl) rfl), ⟨by decide +kernel, by decide +kernel⟩, by decide +kernel, by decide +kernel⟩
theorem mi76 : Cond.instanceMethod (mtJ 76).1 ∈ wsG := (t_in3 (List.mem_of_getElem? (i := 206) rfl) rfl)
theorem msl76 : Cond.selects "SatchelSins$Scale" (mtJ 76).1 (mtJ 76).1 ∈ wsG := t_sel (q := (⟨"SatchelSins$Scale", "weightOf", "(I)I"⟩, 5)) (List.mem_append_right _ (List.mem_append_left _ (List.mem_of_getElem? (i := 7) rfl))) rfl
theorem mn76 : (parseMethodDescriptor (mtJ 76).1.desc).map (fun d => d.parameters.length) = some 1 := by decide +kernel
theorem mo77 : MOk 77 := ⟨(t_in3 (List.mem_of_getElem? (i := 211) rfl) rfl), (t_in1 (List.mem_of_getElem? (i := 8) rfl) rfl), ⟨by decide +kernel, by decide +kernel⟩, by decide +kernel, by decide +kernel⟩
theorem mi77 : Cond.instanceMethod (mtJ 77).1 ∈ wsG := (t_in3 (List.mem_of_getElem? (i := 210) rfl) rfl)
theorem msl77 : Cond.selects "SatchelSins$Scale" (mtJ 77).1 (mtJ 77).1 ∈ wsG := t_sel (q := (⟨"SatchelSins$Scale", "count", "(I)V"⟩, 5)) (List.mem_append_right _ (List.mem_append_left _ (List.mem_of_getElem? (i := 8) rfl))) rfl
theorem mn77 : (parseMethodDescriptor (mtJ 77).1.desc).map (fun d => d.parameters.length) = some 1 := by decide +kernel
theorem mo78 : MOk 78 := ⟨(t_in1 (List.mem_of_getElem? (i := 218) rfl) rfl), (t_in1 (List.mem_of_getElem? (i := 9) rfl) rfl), ⟨by decide +kernel, by decide +kernel⟩, by decide +kernel, by decide +kernel⟩
theorem mi78 : Cond.instanceMethod (mtJ 78).1 ∈ wsG := (t_in1 (List.mem_of_getElem? (i := 217) rfl) rfl)
theorem mn78 : (parseMethodDescriptor (mtJ 78).1.desc).map (fun d => d.parameters.length) = some 0 := by decide +kernel
theorem mo79 : MOk 79 := ⟨(t_in2 (List.mem_of_getElem? (i := 177) rfl) rfl), (t_in1 (List.mem_of_getElem? (i := 9) rfl) rfl), ⟨by decide +kernel, by decide +kernel⟩, by decide +kernel, by decide +kernel⟩
theorem mi79 : Cond.instanceMethod (mtJ 79).1 ∈ wsG := (t_in2 (List.mem_of_getElem? (i := 175) rfl) rfl)
theorem msl79 : Cond.selects "SatchelSins$Slate" (mtJ 79).1 (mtJ 79).1 ∈ wsG := (t_in2 (List.mem_of_getElem? (i := 176) rfl) rfl)
theorem mn79 : (parseMethodDescriptor (mtJ 79).1.desc).map (fun d => d.parameters.length) = some 0 := by decide +kernel
theorem mo80 : MOk 80 := ⟨(t_in4 (List.mem_of_getElem? (i := 3) rfl) rfl), (t_in1 (List.mem_of_getElem? (i := 9) rfl) rfl), ⟨by decide +kernel, by decide +kernel⟩, by decide +kernel, by decide +kernel⟩
theorem mi80 : Cond.instanceMethod (mtJ 80).1 ∈ wsG := (t_in4 (List.mem_of_getElem? (i := 1) rfl) rfl)
theorem msl80 : Cond.selects "SatchelSins$Slate" (mtJ 80).1 (mtJ 80).1 ∈ wsG := (t_in4 (List.mem_of_getElem? (i := 2) rfl) rfl)
theorem mn80 : (parseMethodDescriptor (mtJ 80).1.desc).map (fun d => d.parameters.length) = some 3 := by decide +kernel
theorem mo81 : MOk 81 := ⟨(t_in4 (List.mem_of_getElem? (i := 23) rfl) rfl), (t_in1 (List.mem_of_getElem? (i := 9) rfl) rfl), ⟨by decide +kernel, by decide +kernel⟩, by decide +kernel, by decide +kernel⟩
theorem mi81 : Cond.instanceMethod (mtJ 81).1 ∈ wsG := (t_in4 (List.mem_of_getElem? (i := 21) rfl) rfl)
theorem msl81 : Cond.selects "SatchelSins$Slate" (mtJ 81).1 (mtJ 81).1 ∈ wsG := (t_in4 (List.mem_of_getElem? (i := 22) rfl) rfl)
theorem mn81 : (parseMethodDescriptor (mtJ 81).1.desc).map (fun d => d.parameters.length) = some 2 := by decide +kernel
theorem mo82 : MOk 82 := ⟨(t_in4 (List.mem_of_getElem? (i := 11) rfl) rfl), (t_in1 (List.mem_of_getElem? (i := 9) rfl) rfl), ⟨by decide +kernel, by decide +kernel⟩, by decide +kernel, by decide +kernel⟩
theorem mi82 : Cond.instanceMethod (mtJ 82).1 ∈ wsG := (t_in4 (List.mem_of_getElem? (i := 9) rfl) rfl)
theorem msl82 : Cond.selects "SatchelSins$Slate" (mtJ 82).1 (mtJ 82).1 ∈ wsG := (t_in4 (List.mem_of_getElem? (i := 10) rfl) rfl)
theorem mn82 : (parseMethodDescriptor (mtJ 82).1.desc).map (fun d => d.parameters.length) = some 1 := by decide +kernel
theorem mo83 : MOk 83 := ⟨(t_in4 (List.mem_of_getElem? (i := 35) rfl) rfl), (t_in1 (List.mem_of_getElem? (i := 9) rfl) rfl), ⟨by decide +kernel, by decide +kernel⟩, by decide +kernel, by decide +kernel⟩
theorem mi83 : Cond.instanceMethod (mtJ 83).1 ∈ wsG := (t_in4 (List.mem_of_getElem? (i := 33) rfl) rfl)
theorem msl83 : Cond.selects "SatchelSins$Slate" (mtJ 83).1 (mtJ 83).1 ∈ wsG := (t_in4 (List.mem_of_getElem? (i := 34) rfl) rfl)
theorem mn83 : (parseMethodDescriptor (mtJ 83).1.desc).map (fun d => d.parameters.length) = some 1 := by decide +kernel
theorem mo84 : MOk 84 := ⟨(t_in1 (List.mem_of_getElem? (i := 18) rfl) rfl), (t_in1 (List.mem_of_getElem? (i := 1) rfl) rfl), ⟨by decide +kernel, by decide +kernel⟩, by decide +kernel, by decide +kernel⟩
theorem mi84 : Cond.instanceMethod (mtJ 84).1 ∈ wsG := (t_in1 (List.mem_of_getElem? (i := 17) rfl) rfl)
theorem mn84 : (parseMethodDescriptor (mtJ 84).1.desc).map (fun d => d.parameters.length) = some 0 := by decide +kernel
theorem mo85 : MOk 85 := ⟨(t_in2 (List.mem_of_getElem? (i := 68) rfl) rfl), (t_in1 (List.mem_of_getElem? (i := 1) rfl) rfl), ⟨by decide +kernel, by decide +kernel⟩, by decide +kernel, by decide +kernel⟩
theorem mi85 : Cond.instanceMethod (mtJ 85).1 ∈ wsG := (t_in2 (List.mem_of_getElem? (i := 66) rfl) rfl)
theorem msl85 : Cond.selects "SatchelSins" (mtJ 85).1 (mtJ 85).1 ∈ wsG := (t_in2 (List.mem_of_getElem? (i := 67) rfl) rfl)
theorem mn85 : (parseMethodDescriptor (mtJ 85).1.desc).map (fun d => d.parameters.length) = some 1 := by decide +kernel
theorem mo86 : MOk 86 := ⟨(t_in2 (List.mem_of_getElem? (i := 74) rfl) rfl), (t_in1 (List.mem_of_getElem? (i := 1) rfl) rfl), ⟨by decide +kernel, by decide +kernel⟩, by decide +kernel, by decide +kernel⟩
theorem mi86 : Cond.instanceMethod (mtJ 86).1 ∈ wsG := (t_in2 (List.mem_of_getElem? (i := 72) rfl) rfl)
theorem msl86 : Cond.selects "SatchelSins" (mtJ 86).1 (mtJ 86).1 ∈ wsG := (t_in2 (List.mem_of_getElem? (i := 73) rfl) rfl)
theorem mn86 : (parseMethodDescriptor (mtJ 86).1.desc).map (fun d => d.parameters.length) = some 0 := by decide +kernel
theorem mo87 : MOk 87 := ⟨(t_in2 (List.mem_of_getElem? (i := 185) rfl) rfl), (t_in1 (List.mem_of_getElem? (i := 1) rfl) rfl), ⟨by decide +kernel, by decide +kernel⟩, by decide +kernel, by decide +kernel⟩
theorem mi87 : Cond.instanceMethod (mtJ 87).1 ∈ wsG := (t_in2 (List.mem_of_getElem? (i := 183) rfl) rfl)
theorem msl87 : Cond.selects "SatchelSins" (mtJ 87).1 (mtJ 87).1 ∈ wsG := (t_in2 (List.mem_of_getElem? (i := 184) rfl) rfl)
theorem mn87 : (parseMethodDescriptor (mtJ 87).1.desc).map (fun d => d.parameters.length) = some 0 := by decide +kernel
theorem mo88 : MOk 88 := ⟨(t_in2 (List.mem_of_getElem? (i := 189) rfl) rfl), (t_in1 (List.mem_of_getElem? (i := 1) rfl) rfl), ⟨by decide +kernel, by decide +kernel⟩, by decide +kernel, by decide +kernel⟩
theorem mi88 : Cond.instanceMethod (mtJ 88).1 ∈ wsG := (t_in2 (List.mem_of_getElem? (i := 187) rfl) rfl)
theorem msl88 : Cond.selects "SatchelSins" (mtJ 88).1 (mtJ 88).1 ∈ wsG := (t_in2 (List.mem_of_getElem? (i := 188) rfl) rfl)
theorem mn88 : (parseMethodDescriptor (mtJ 88).1.desc).map (fun d => d.parameters.length) = some 1 := by decide +kernel
theorem mo89 : MOk 89 := ⟨(t_in3 (List.mem_of_getElem? (i := 12) rfl) rfl), (t_in1 (List.mem_of_getElem? (i := 1) rfl) rfl), ⟨by decide +kernel, by decide +kernel⟩, by decide +kernel, by decide +kernel⟩
theorem mi89 : Cond.instanceMethod (mtJ 89).1 ∈ wsG := (t_in3 (List.mem_of_getElem? (i := 10) rfl) rfl)
theorem msl89 : Cond.selects "SatchelSins" (mtJ 89).1 (mtJ 89).1 ∈ wsG := (t_in3 (List.mem_of_getElem? (i := 11) rfl) rfl)
theorem mn89 : (parseMethodDescriptor (mtJ 89).1.desc).map (fun d => d.parameters.length) = some 2 := by decide +kernel
theorem mo90 : MOk 90 := ⟨(t_in3 (List.mem_of_getElem? (i := 29) rfl) rfl), (t_in1 (List.mem_of_getElem? (i := 1) rfl) rfl), ⟨by decide +kernel, by decide +kernel⟩, by decide +kernel, by decide +kernel⟩
theorem mi90 : Cond.instanceMethod (mtJ 90).1 ∈ wsG := (t_in3 (List.mem_of_getElem? (i := 27) rfl) rfl)
theorem msl90 : Cond.selects "SatchelSins" (mtJ 90).1 (mtJ 90).1 ∈ wsG := (t_in3 (List.mem_of_getElem? (i := 28) rfl) rfl)
theorem mn90 : (parseMethodDescriptor (mtJ 90).1.desc).map (fun d => d.parameters.length) = some 2 := by decide +kernel
theorem mo91 : MOk 91 := ⟨(t_in3 (List.mem_of_getElem? (i := 39) rfl) rfl), (t_in1 (List.mem_of_getElem? (i := 1) rfl) rfl), ⟨by decide +kernel, by decide +kernel⟩, by decide +kernel, by decide +kernel⟩
theorem mi91 : Cond.instanceMethod (mtJ 91).1 ∈ wsG := (t_in3 (List.mem_of_getElem? (i := 37) rfl) rfl)
theorem msl91 : Cond.selects "SatchelSins" (mtJ 91).1 (mtJ 91).1 ∈ wsG := (t_in3 (List.mem_of_getElem? (i := 38) rfl) rfl)
theorem mn91 : (parseMethodDescriptor (mtJ 91).1.desc).map (fun d => d.parameters.length) = some 1 := by decide +kernel
theorem mo92 : MOk 92 := ⟨(t_in3 (List.mem_of_getElem? (i := 62) rfl) rfl), (t_in1 (List.mem_of_getElem? (i := 1) rfl) rfl), ⟨by decide +kernel, by decide +kernel⟩, by decide +kernel, by decide +kernel⟩
theorem mi92 : Cond.instanceMethod (mtJ 92).1 ∈ wsG := (t_in3 (List.mem_of_getElem? (i := 60) rfl) rfl)
theorem msl92 : Cond.selects "SatchelSins" (mtJ 92).1 (mtJ 92).1 ∈ wsG := (t_in3 (List.mem_of_getElem? (i := 61) rfl) rfl)
theorem mn92 : (parseMethodDescriptor (mtJ 92).1.desc).map (fun d => d.parameters.length) = some 2 := by decide +kernel
theorem mo93 : MOk 93 := ⟨(t_in3 (List.mem_of_getElem? (i := 71) rfl) rfl), (t_in1 (List.mem_of_getElem? (i := 1) rfl) rfl), ⟨by decide +kernel, by decide +kernel⟩, by decide +kernel, by decide +kernel⟩
theorem mi93 : Cond.instanceMethod (mtJ 93).1 ∈ wsG := (t_in3 (List.mem_of_getElem? (i := 69) rfl) rfl)
theorem msl93 : Cond.selects "SatchelSins" (mtJ 93).1 (mtJ 93).1 ∈ wsG := (t_in3 (List.mem_of_getElem? (i := 70) rfl) rfl)
theorem mn93 : (parseMethodDescriptor (mtJ 93).1.desc).map (fun d => d.parameters.length) = some 2 := by decide +kernel
theorem mo94 : MOk 94 := ⟨(t_in3 (List.mem_of_getElem? (i := 83) rfl) rfl), (t_in1 (List.mem_of_getElem? (i := 1) rfl) rfl), ⟨by decide +kernel, by decide +kernel⟩, by decide +kernel, by decide +kernel⟩
theorem mi94 : Cond.instanceMethod (mtJ 94).1 ∈ wsG := (t_in3 (List.mem_of_getElem? (i := 81) rfl) rfl)
theorem msl94 : Cond.selects "SatchelSins" (mtJ 94).1 (mtJ 94).1 ∈ wsG := (t_in3 (List.mem_of_getElem? (i := 82) rfl) rfl)
theorem mn94 : (parseMethodDescriptor (mtJ 94).1.desc).map (fun d => d.parameters.length) = some 1 := by decide +kernel
theorem mo95 : MOk 95 := ⟨(t_in3 (List.mem_of_getElem? (i := 98) rfl) rfl), (t_in1 (List.mem_of_getElem? (i := 1) rfl) rfl), ⟨by decide +kernel, by decide +kernel⟩, by decide +kernel, by decide +kernel⟩
theorem mi95 : Cond.instanceMethod (mtJ 95).1 ∈ wsG := (t_in3 (List.mem_of_getElem? (i := 96) rfl) rfl)
theorem msl95 : Cond.selects "SatchelSins" (mtJ 95).1 (mtJ 95).1 ∈ wsG := (t_in3 (List.mem_of_getElem? (i := 97) rfl) rfl)
theorem mn95 : (parseMethodDescriptor (mtJ 95).1.desc).map (fun d => d.parameters.length) = some 0 := by decide +kernel
theorem mo96 : MOk 96 := ⟨(t_in3 (List.mem_of_getElem? (i := 107) rfl) rfl), (t_in1 (List.mem_of_getElem? (i := 1) rfl) rfl), ⟨by decide +kernel, by decide +kernel⟩, by decide +kernel, by decide +kernel⟩
theorem mi96 : Cond.instanceMethod (mtJ 96).1 ∈ wsG := (t_in3 (List.mem_of_getElem? (i := 105) rfl) rfl)
theorem msl96 : Cond.selects "SatchelSins" (mtJ 96).1 (mtJ 96).1 ∈ wsG := (t_in3 (List.mem_of_getElem? (i := 106) rfl) rfl)
theorem mn96 : (parseMethodDescriptor (mtJ 96).1.desc).map (fun d => d.parameters.length) = some 1 := by decide +kernel
theorem mo97 : MOk 97 := ⟨(t_in3 (List.mem_of_getElem? (i := 115) rfl) rfl), (t_in1 (List.mem_of_getElem? (i := 1) rfl) rfl), ⟨by decide +kernel, by decide +kernel⟩, by decide +kernel, by decide +kernel⟩
theorem mi97 : Cond.instanceMethod (mtJ 97).1 ∈ wsG := (t_in3 (List.mem_of_getElem? (i := 113) rfl) rfl)
theorem msl97 : Cond.selects "SatchelSins" (mtJ 97).1 (mtJ 97).1 ∈ wsG := (t_in3 (List.mem_of_getElem? (i := 114) rfl) rfl)
theorem mn97 : (parseMethodDescriptor (mtJ 97).1.desc).map (fun d => d.parameters.length) = some 1 := by decide +kernel
theorem mo98 : MOk 98 := ⟨(t_in3 (List.mem_of_getElem? (i := 135) rfl) rfl), (t_in1 (List.mem_of_getElem? (i := 1) rfl) rfl), ⟨by decide +kernel, by decide +kernel⟩, by decide +kernel, by decide +kernel⟩
theorem mi98 : Cond.instanceMethod (mtJ 98).1 ∈ wsG := (t_in3 (List.mem_of_getElem? (i := 133) rfl) rfl)
theorem msl98 : Cond.selects "SatchelSins" (mtJ 98).1 (mtJ 98).1 ∈ wsG := (t_in3 (List.mem_of_getElem? (i := 134) rfl) rfl)
theorem mn98 : (parseMethodDescriptor (mtJ 98).1.desc).map (fun d => d.parameters.length) = some 0 := by decide +kernel
theorem mo99 : MOk 99 := ⟨(t_in3 (List.mem_of_getElem? (i := 143) rfl) rfl), (t_in1 (List.mem_of_getElem? (i := 1) rfl) rfl), ⟨by decide +kernel, by decide +kernel⟩, by decide +kernel, by decide +kernel⟩
theorem mi99 : Cond.instanceMethod (mtJ 99).1 ∈ wsG := (t_in3 (List.mem_of_getElem? (i := 141) rfl) rfl)
theorem msl99 : Cond.selects "SatchelSins" (mtJ 99).1 (mtJ 99).1 ∈ wsG := (t_in3 (List.mem_of_getElem? (i := 142) rfl) rfl)
theorem mn99 : (parseMethodDescriptor (mtJ 99).1.desc).map (fun d => d.parameters.length) = some 1 := by decide +kernel
theorem mo100 : MOk 100 := ⟨(t_in3 (List.mem_of_getElem? (i := 185) rfl) rfl), (t_in1 (List.mem_of_getElem? (i := 1) rfl) rfl), ⟨by decide +kernel, by decide +kernel⟩, by decide +kernel, by decide +kernel⟩
theorem mi100 : Cond.instanceMethod (mtJ 100).1 ∈ wsG := (t_in3 (List.mem_of_getElem? (i := 183) rfl) rfl)
theorem msl100 : Cond.selects "SatchelSins" (mtJ 100).1 (mtJ 100).1 ∈ wsG := (t_in3 (List.mem_of_getElem? (i := 184) rfl) rfl)
theorem mn100 : (parseMethodDescriptor (mtJ 100).1.desc).map (fun d => d.parameters.length) = some 1 := by decide +kernel
theorem mo101 : MOk 101 := ⟨(t_in3 (List.mem_of_getElem? (i := 189) rfl) rfl), (t_in1 (List.mem_of_getElem? (i := 1) rfl) rfl), ⟨by decide +kernel, by decide +kernel⟩, by decide +kernel, by decide +kernel⟩
theorem mi101 : Cond.instanceMethod (mtJ 101).1 ∈ wsG := (t_in3 (List.mem_of_getElem? (i := 187) rfl) rfl)
theorem msl101 : Cond.selects "SatchelSins" (mtJ 101).1 (mtJ 101).1 ∈ wsG := (t_in3 (List.mem_of_getElem? (i := 188) rfl) rfl)
theorem mn101 : (parseMethodDescriptor (mtJ 101).1.desc).map (fun d => d.parameters.length) = some 1 := by decide +kernel
theorem mo102 : MOk 102 := ⟨(t_in3 (List.mem_of_getElem? (i := 198) rfl) rfl), (t_in1 (List.mem_of_getElem? (i := 1) rfl) rfl), ⟨by decide +kernel, by decide +kernel⟩, by decide +kernel, by decide +kernel⟩
theorem mi102 : Cond.instanceMethod (mtJ 102).1 ∈ wsG := (t_in3 (List.mem_of_getElem? (i := 196) rfl) rfl)
theorem msl102 : Cond.selects "SatchelSins" (mtJ 102).1 (mtJ 102).1 ∈ wsG := (t_in3 (List.mem_of_getElem? (i := 197) rfl) rfl)
theorem mn102 : (parseMethodDescriptor (mtJ 102).1.desc).map (fun d => d.parameters.length) = some 2 := by decide +kernel
theorem mo103 : MOk 103 := ⟨(t_in3 (List.mem_of_getElem? (i := 220) rfl) rfl), (t_in1 (List.mem_of_getElem? (i := 1) rfl) rfl), ⟨by decide +kernel, by decide +kernel⟩, by decide +kernel, by decide +kernel⟩
theorem mi103 : Cond.instanceMethod (mtJ 103).1 ∈ wsG := (t_in3 (List.mem_of_getElem? (i := 218) rfl) rfl)
theorem msl103 : Cond.selects "SatchelSins" (mtJ 103).1 (mtJ 103).1 ∈ wsG := (t_in3 (List.mem_of_getElem? (i := 219) rfl) rfl)
theorem mn103 : (parseMethodDescriptor (mtJ 103).1.desc).map (fun d => d.parameters.length) = some 2 := by decide +kernel
theorem mo104 : MOk 104 := ⟨(t_in3 (List.mem_of_getElem? (i := 233) rfl) rfl), (t_in1 (List.mem_of_getElem? (i := 1) rfl) rfl), ⟨by decide +kernel, by decide +kernel⟩, by decide +kernel, by decide +kernel⟩
theorem mi104 : Cond.instanceMethod (mtJ 104).1 ∈ wsG := (t_in3 (List.mem_of_getElem? (i := 231) rfl) rfl)
theorem msl104 : Cond.selects "SatchelSins" (mtJ 104).1 (mtJ 104).1 ∈ wsG := (t_in3 (List.mem_of_getElem? (i := 232) rfl) rfl)
theorem mn104 : (parseMethodDescriptor (mtJ 104).1.desc).map (fun d => d.parameters.length) = some 2 := by decide +kernel
theorem mo105 : MOk 105 := ⟨(t_in3 (List.mem_of_getElem? (i := 239) rfl) rfl), (t_in1 (List.mem_of_getElem? (i := 1) rfl) rfl), ⟨by decide +kernel, by decide +kernel⟩, by decide +kernel, by decide +kernel⟩
theorem mi105 : Cond.instanceMethod (mtJ 105).1 ∈ wsG := (t_in3 (List.mem_of_getElem? (i := 237) rfl) rfl)
theorem msl105 : Cond.selects "SatchelSins" (mtJ 105).1 (mtJ 105).1 ∈ wsG := (t_in3 (List.mem_of_getElem? (i := 238) rfl) rfl)
theorem mn105 : (parseMethodDescriptor (mtJ 105).1.desc).map (fun d => d.parameters.length) = some 3 := by decide +kernel
theorem mo106 : MOk 106 := ⟨(t_in4 (List.mem_of_getElem? (i := 7) rfl) rfl), (t_in1 (List.mem_of_getElem? (i := 1) rfl) rfl), ⟨by decide +kernel, by decide +kernel⟩, by decide +kernel, by decide +kernel⟩
theorem mi106 : Cond.instanceMethod (mtJ 106).1 ∈ wsG := (t_in4 (List.mem_of_getElem? (i := 5) rfl) rfl)
theorem msl106 : Cond.selects "SatchelSins" (mtJ 106).1 (mtJ 106).1 ∈ wsG := (t_in4 (List.mem_of_getElem? (i := 6) rfl) rfl)
theorem mn106 : (parseMethodDescriptor (mtJ 106).1.desc).map (fun d => d.parameters.length) = some 0 := by decide +kernel
theorem mo107 : MOk 107 := ⟨(t_in4 (List.mem_of_getElem? (i := 19) rfl) rfl), (t_in1 (List.mem_of_getElem? (i := 1) rfl) rfl), ⟨by decide +kernel, by decide +kernel⟩, by decide +kernel, by decide +kernel⟩
theorem mi107 : Cond.instanceMethod (mtJ 107).1 ∈ wsG := (t_in4 (List.mem_of_getElem? (i := 17) rfl) rfl)
theorem msl107 : Cond.selects "SatchelSins" (mtJ 107).1 (mtJ 107).1 ∈ wsG := (t_in4 (List.mem_of_getElem? (i := 18) rfl) rfl)
theorem mn107 : (parseMethodDescriptor (mtJ 107).1.desc).map (fun d => d.parameters.length) = some 2 := by decide +kernel
theorem mo108 : MOk 108 := ⟨(t_in4 (List.mem_of_getElem? (i := 27) rfl) rfl), (t_in1 (List.mem_of_getElem? (i := 1) rfl) rfl), ⟨by decide +kernel, by decide +kernel⟩, by decide +kernel, by decide +kernel⟩
theorem mi108 : Cond.instanceMethod (mtJ 108).1 ∈ wsG := (t_in4 (List.mem_of_getElem? (i := 25) rfl) rfl)
theorem msl108 : Cond.selects "SatchelSins" (mtJ 108).1 (mtJ 108).1 ∈ wsG := (t_in4 (List.mem_of_getElem? (i := 26) rfl) rfl)
theorem mn108 : (parseMethodDescriptor (mtJ 108).1.desc).map (fun d => d.parameters.length) = some 0 := by decide +kernel
theorem mo109 : MOk 109 := ⟨(t_in4 (List.mem_of_getElem? (i := 31) rfl) rfl), (t_in1 (List.mem_of_getElem? (i := 1) rfl) rfl), ⟨by decide +kernel, by decide +kernel⟩, by decide +kernel, by decide +kernel⟩
theorem mi109 : Cond.instanceMethod (mtJ 109).1 ∈ wsG := (t_in4 (List.mem_of_getElem? (i := 29) rfl) rfl)
theorem msl109 : Cond.selects "SatchelSins" (mtJ 109).1 (mtJ 109).1 ∈ wsG := (t_in4 (List.mem_of_getElem? (i := 30) rfl) rfl)
theorem mn109 : (parseMethodDescriptor (mtJ 109).1.desc).map (fun d => d.parameters.length) = some 0 := by decide +kernel
theorem mo110 : MOk 110 := ⟨(t_in4 (List.mem_of_getElem? (i := 40) rfl) rfl), (t_in1 (List.mem_of_getElem? (i := 1) rfl) rfl), ⟨by decide +kernel, by decide +kernel⟩, by decide +kernel, by decide +kernel⟩
theorem mi110 : Cond.instanceMethod (mtJ 110).1 ∈ wsG := (t_in4 (List.mem_of_getElem? (i := 38) rfl) rfl)
theorem msl110 : Cond.selects "SatchelSins" (mtJ 110).1 (mtJ 110).1 ∈ wsG := (t_in4 (List.mem_of_getElem? (i := 39) rfl) rfl)
theorem mn110 : (parseMethodDescriptor (mtJ 110).1.desc).map (fun d => d.parameters.length) = some 1 := by decide +kernel
theorem mo111 : MOk 111 := ⟨(t_in4 (List.mem_of_getElem? (i := 44) rfl) rfl), (t_in1 (List.mem_of_getElem? (i := 1) rfl) rfl), ⟨by decide +kernel, by decide +kernel⟩, by decide +kernel, by decide +kernel⟩
theorem mi111 : Cond.instanceMethod (mtJ 111).1 ∈ wsG := (t_in4 (List.mem_of_getElem? (i := 42) rfl) rfl)
theorem msl111 : Cond.selects "SatchelSins" (mtJ 111).1 (mtJ 111).1 ∈ wsG := (t_in4 (List.mem_of_getElem? (i := 43) rfl) rfl)
theorem mn111 : (parseMethodDescriptor (mtJ 111).1.desc).map (fun d => d.parameters.length) = some 1 := by decide +kernel
theorem mo112 : MOk 112 := ⟨(t_in4 (List.mem_of_getElem? (i := 53) rfl) rfl), (t_in1 (List.mem_of_getElem? (i := 1) rfl) rfl), ⟨by decide +kernel, by decide +kernel⟩, by decide +kernel, by decide +kernel⟩
theorem mi112 : Cond.instanceMethod (mtJ 112).1 ∈ wsG := (t_in4 (List.mem_of_getElem? (i := 51) rfl) rfl)
theorem msl112 : Cond.selects "SatchelSins" (mtJ 112).1 (mtJ 112).1 ∈ wsG := (t_in4 (List.mem_of_getElem? (i := 52) rfl) rfl)
theorem mn112 : (parseMethodDescriptor (mtJ 112).1.desc).map (fun d => d.parameters.length) = some 1 := by decide +kernel
theorem mo113 : MOk 113 := ⟨(t_in2 (List.mem_of_getElem? (i := 168) rfl) rfl), (t_in1 (List.mem_of_getElem? (i := 1) rfl) rfl), ⟨by decide +kernel, by decide +kernel⟩, by decide +kernel, by decide +kernel⟩
theorem mi113 : Cond.instanceMethod (mtJ 113).1 ∈ wsG := (t_in2 (List.mem_of_getElem? (i := 167) rfl) rfl)
theorem msl113 : Cond.selects "SatchelSins" (mtJ 113).1 (mtJ 113).1 ∈ wsG := t_sel (q := (⟨"SatchelSins", "beginAnew", "()V"⟩, 14)) (List.mem_append_left _ (List.mem_of_getElem? (i := 13) rfl)) rfl
theorem mn113 : (parseMethodDescriptor (mtJ 113).1.desc).map (fun d => d.parameters.length) = some 0 := by decide +kernel
theorem mo114 : MOk 114 := ⟨(t_in3 (List.mem_of_getElem? (i := 147) rfl) rfl), (t_in1 (List.mem_of_getElem? (i := 1) rfl) rfl), ⟨by decide +kernel, by decide +kernel⟩, by decide +kernel, by decide +kernel⟩
theorem mi114 : Cond.instanceMethod (mtJ 114).1 ∈ wsG := (t_in3 (List.mem_of_getElem? (i := 146) rfl) rfl)
theorem msl114 : Cond.selects "SatchelSins" (mtJ 114).1 (mtJ 114).1 ∈ wsG := t_sel (q := (⟨"SatchelSins", "packed", "(LSatchelSins$Packing;I)I"⟩, 14)) (List.mem_append_right _ (List.mem_append_left _ (List.mem_of_getElem? (i := 1) rfl))) rfl
theorem mn114 : (parseMethodDescriptor (mtJ 114).1.desc).map (fun d => d.parameters.length) = some 2 := by decide +kernel
theorem mo115 : MOk 115 := ⟨(t_in3 (List.mem_of_getElem? (i := 119) rfl) rfl), (t_in1 (List.mem_of_getElem? (i := 1) rfl) rfl), ⟨by decide +kernel, by decide +kernel⟩, by decide +kernel, by decide +kernel⟩
theorem mi115 : Cond.instanceMethod (mtJ 115).1 ∈ wsG := (t_in3 (List.mem_of_getElem? (i := 118) rfl) rfl)
theorem msl115 : Cond.selects "SatchelSins" (mtJ 115).1 (mtJ 115).1 ∈ wsG := t_sel (q := (⟨"SatchelSins", "driftOnce", "()V"⟩, 14)) (List.mem_append_left _ (List.mem_of_getElem? (i := 15) rfl)) rfl
theorem mn115 : (parseMethodDescriptor (mtJ 115).1.desc).map (fun d => d.parameters.length) = some 0 := by decide +kernel
theorem mo116 : MOk 116 := ⟨(t_in3 (List.mem_of_getElem? (i := 123) rfl) rfl), (t_in1 (List.mem_of_getElem? (i := 1) rfl) rfl), ⟨by decide +kernel, by decide +kernel⟩, by decide +kernel, by decide +kernel⟩
theorem mi116 : Cond.instanceMethod (mtJ 116).1 ∈ wsG := (t_in3 (List.mem_of_getElem? (i := 122) rfl) rfl)
theorem msl116 : Cond.selects "SatchelSins" (mtJ 116).1 (mtJ 116).1 ∈ wsG := t_sel (q := (⟨"SatchelSins", "draw", "(I)I"⟩, 14)) (List.mem_append_right _ (List.mem_append_left _ (List.mem_of_getElem? (i := 0) rfl))) rfl
theorem mn116 : (parseMethodDescriptor (mtJ 116).1.desc).map (fun d => d.parameters.length) = some 1 := by decide +kernel
theorem mo117 : MOk 117 := ⟨(t_in4 (List.mem_of_getElem? (i := 62) rfl) rfl), (t_in1 (List.mem_of_getElem? (i := 11) rfl) rfl), ⟨by decide +kernel, by decide +kernel⟩, by decide +kernel, by decide +kernel⟩
theorem mi117 : Cond.instanceMethod (mtJ 117).1 ∈ wsG := (t_in4 (List.mem_of_getElem? (i := 61) rfl) rfl)
theorem mn117 : (parseMethodDescriptor (mtJ 117).1.desc).map (fun d => d.parameters.length) = some 0 := by decide +kernel
theorem mo118 : MOk 118 := ⟨(t_in4 (List.mem_of_getElem? (i := 195) rfl) rfl), (t_in1 (List.mem_of_getElem? (i := 11) rfl) rfl), ⟨by decide +kernel, by decide +kernel⟩, by decide +kernel, by decide +kernel⟩
theorem ms118 : Cond.static (mtJ 118).1 ∈ wsG := (t_in4 (List.mem_of_getElem? (i := 194) rfl) rfl)
theorem mn118 : (parseMethodDescriptor (mtJ 118).1.desc).map (fun d => d.parameters.length) = some 3 := by decide +kernel
theorem mo119 : MOk 119 := ⟨(t_in5 (List.mem_of_getElem? (i := 181) rfl) rfl), (t_in1 (List.mem_of_getElem? (i := 11) rfl) rfl), ⟨by decide +kernel, by decide +kernel⟩, by decide +kernel, by decide +kernel⟩
theorem ms119 : Cond.static (mtJ 119).1 ∈ wsG := (t_in5 (List.mem_of_getElem? (i := 180) rfl) rfl)
theorem mn119 : (parseMethodDescriptor (mtJ 119).1.desc).map (fun d => d.parameters.length) = some 2 := by decide +kernel
theorem mo120 : MOk 120 := ⟨(t_in5 (List.mem_of_getElem? (i := 47) rfl) rfl), (t_in1 (List.mem_of_getElem? (i := 11) rfl) rfl), ⟨by decide +kernel, by decide +kernel⟩, by decide +kernel, by decide +kernel⟩
theorem mi120 : Cond.instanceMethod (mtJ 120).1 ∈ wsG := (t_in5 (List.mem_of_getElem? (i := 46) rfl) rfl)
theorem msl120 : Cond.selects "SatchelSinsModel" (mtJ 120).1 (mtJ 120).1 ∈ wsG := t_sel (q := (⟨"SatchelSinsModel", "isChild", "(I)Z"⟩, 41)) (List.mem_append_right _ (List.mem_append_right _ (List.mem_append_left _ (List.mem_of_getElem? (i := 10) rfl)))) rfl
theorem mn120 : (parseMethodDescriptor (mtJ 120).1.desc).map (fun d => d.parameters.length) = some 1 := by decide +kernel
theorem mo121 : MOk 121 := ⟨(t_in5 (List.mem_of_getElem? (i := 60) rfl) rfl), (t_in1 (List.mem_of_getElem? (i := 11) rfl) rfl), ⟨by decide +kernel, by decide +kernel⟩, by decide +kernel, by decide +kernel⟩
theorem mi121 : Cond.instanceMethod (mtJ 121).1 ∈ wsG := (t_in5 (List.mem_of_getElem? (i := 59) rfl) rfl)
theorem msl121 : Cond.selects "SatchelSinsModel" (mtJ 121).1 (mtJ 121).1 ∈ wsG := t_sel (q := (⟨"SatchelSinsModel", "isDeed", "(I)Z"⟩, 41)) (List.mem_append_right _ (List.mem_append_right _ (List.mem_append_left _ (List.mem_of_getElem? (i := 12) rfl)))) rfl
theorem mn121 : (parseMethodDescriptor (mtJ 121).1.desc).map (fun d => d.parameters.length) = some 1 := by decide +kernel
theorem mo122 : MOk 122 := ⟨(t_in4 (List.mem_of_getElem? (i := 191) rfl) rfl), (t_in1 (List.mem_of_getElem? (i := 11) rfl) rfl), ⟨by decide +kernel, by decide +kernel⟩, by decide +kernel, by decide +kernel⟩
theorem mi122 : Cond.instanceMethod (mtJ 122).1 ∈ wsG := (t_in4 (List.mem_of_getElem? (i := 189) rfl) rfl)
theorem msl122 : Cond.selects "SatchelSinsModel" (mtJ 122).1 (mtJ 122).1 ∈ wsG := (t_in4 (List.mem_of_getElem? (i := 190) rfl) rfl)
theorem mn122 : (parseMethodDescriptor (mtJ 122).1.desc).map (fun d => d.parameters.length) = some 1 := by decide +kernel
theorem mo123 : MOk 123 := ⟨(t_in4 (List.mem_of_getElem? (i := 205) rfl) rfl), (t_in1 (List.mem_of_getElem? (i := 11) rfl) rfl), ⟨by decide +kernel, by decide +kernel⟩, by decide +kernel, by decide +kernel⟩
theorem mi123 : Cond.instanceMethod (mtJ 123).1 ∈ wsG := (t_in4 (List.mem_of_getElem? (i := 204) rfl) rfl)
theorem msl123 : Cond.selects "SatchelSinsModel" (mtJ 123).1 (mtJ 123).1 ∈ wsG := t_sel (q := (⟨"SatchelSinsModel", "here", "()I"⟩, 41)) (List.mem_append_right _ (List.mem_append_left _ (List.mem_of_getElem? (i := 9) rfl))) rfl
theorem mn123 : (parseMethodDescriptor (mtJ 123).1.desc).map (fun d => d.parameters.length) = some 0 := by decide +kernel
theorem mo124 : MOk 124 := ⟨(t_in4 (List.mem_of_getElem? (i := 213) rfl) rfl), (t_in1 (List.mem_of_getElem? (i := 11) rfl) rfl), ⟨by decide +kernel, by decide +kernel⟩, by decide +kernel, by decide +kernel⟩
theorem mi124 : Cond.instanceMethod (mtJ 124).1 ∈ wsG := (t_in4 (List.mem_of_getElem? (i := 212) rfl) rfl)
theorem msl124 : Cond.selects "SatchelSinsModel" (mtJ 124).1 (mtJ 124).1 ∈ wsG := t_sel (q := (⟨"SatchelSinsModel", "fails", "(II)I"⟩, 41)) (List.mem_append_right _ (List.mem_append_left _ (List.mem_of_getElem? (i := 11) rfl))) rfl
theorem mn124 : (parseMethodDescriptor (mtJ 124).1.desc).map (fun d => d.parameters.length) = some 2 := by decide +kernel
theorem mo125 : MOk 125 := ⟨(t_in4 (List.mem_of_getElem? (i := 221) rfl) rfl), (t_in1 (List.mem_of_getElem? (i := 11) rfl) rfl), ⟨by decide +kernel, by decide +kernel⟩, by decide +kernel, by decide +kernel⟩
theorem mi125 : Cond.instanceMethod (mtJ 125).1 ∈ wsG := (t_in4 (List.mem_of_getElem? (i := 220) rfl) rfl)
theorem msl125 : Cond.selects "SatchelSinsModel" (mtJ 125).1 (mtJ 125).1 ∈ wsG := t_sel (q := (⟨"SatchelSinsModel", "takeNumber", "(II)I"⟩, 41)) (List.mem_append_right _ (List.mem_append_left _ (List.mem_of_getElem? (i := 13) rfl))) rfl
theorem mn125 : (parseMethodDescriptor (mtJ 125).1.desc).map (fun d => d.parameters.length) = some 2 := by decide +kernel
theorem mo126 : MOk 126 := ⟨(t_in4 (List.mem_of_getElem? (i := 231) rfl) rfl), (t_in1 (List.mem_of_getElem? (i := 11) rfl) rfl), ⟨by decide +kernel, by decide +kernel⟩, by decide +kernel, by decide +kernel⟩
theorem mi126 : Cond.instanceMethod (mtJ 126).1 ∈ wsG := (t_in4 (List.mem_of_getElem? (i := 230) rfl) rfl)
theorem msl126 : Cond.selects "SatchelSinsModel" (mtJ 126).1 (mtJ 126).1 ∈ wsG := t_sel (q := (⟨"SatchelSinsModel", "into", "([IIII)I"⟩, 41)) (List.mem_append_right _ (List.mem_append_left _ (List.mem_of_getElem? (i := 15) rfl))) rfl
theorem mn126 : (parseMethodDescriptor (mtJ 126).1.desc).map (fun d => d.parameters.length) = some 4 := by decide +kernel
theorem mo127 : MOk 127 := ⟨(t_in4 (List.mem_of_getElem? (i := 217) rfl) rfl), (t_in1 (List.mem_of_getElem? (i := 11) rfl) rfl), ⟨by decide +kernel, by decide +kernel⟩, by decide +kernel, by decide +kernel⟩
theorem mi127 : Cond.instanceMethod (mtJ 127).1 ∈ wsG := (t_in4 (List.mem_of_getElem? (i := 216) rfl) rfl)
theorem msl127 : Cond.selects "SatchelSinsModel" (mtJ 127).1 (mtJ 127).1 ∈ wsG := t_sel (q := (⟨"SatchelSinsModel", "takeBrook", "()I"⟩, 41)) (List.mem_append_right _ (List.mem_append_left _ (List.mem_of_getElem? (i := 12) rfl))) rfl
theorem mn127 : (parseMethodDescriptor (mtJ 127).1.desc).map (fun d => d.parameters.length) = some 0 := by decide +kernel
theorem mo128 : MOk 128 := ⟨(t_in4 (List.mem_of_getElem? (i := 227) rfl) rfl), (t_in1 (List.mem_of_getElem? (i := 11) rfl) rfl), ⟨by decide +kernel, by decide +kernel⟩, by decide +kernel, by decide +kernel⟩
theorem mi128 : Cond.instanceMethod (mtJ 128).1 ∈ wsG := (t_in4 (List.mem_of_getElem? (i := 226) rfl) rfl)
theorem msl128 : Cond.selects "SatchelSinsModel" (mtJ 128).1 (mtJ 128).1 ∈ wsG := t_sel (q := (⟨"SatchelSinsModel", "takeChild", "()I"⟩, 41)) (List.mem_append_right _ (List.mem_append_left _ (List.mem_of_getElem? (i := 14) rfl))) rfl
theorem mn128 : (parseMethodDescriptor (mtJ 128).1.desc).map (fun d => d.parameters.length) = some 0 := by decide +kernel
theorem mo129 : MOk 129 := ⟨(t_in4 (List.mem_of_getElem? (i := 235) rfl) rfl), (t_in1 (List.mem_of_getElem? (i := 11) rfl) rfl), ⟨by decide +kernel, by decide +kernel⟩, by decide +kernel, by decide +kernel⟩
theorem mi129 : Cond.instanceMethod (mtJ 129).1 ∈ wsG := (t_in4 (List.mem_of_getElem? (i := 234) rfl) rfl)
theorem msl129 : Cond.selects "SatchelSinsModel" (mtJ 129).1 (mtJ 129).1 ∈ wsG := t_sel (q := (⟨"SatchelSinsModel", "takeDeed", "()I"⟩, 41)) (List.mem_append_right _ (List.mem_append_right _ (List.mem_append_left _ (List.mem_of_getElem? (i := 0) rfl)))) rfl
theorem mn129 : (parseMethodDescriptor (mtJ 129).1.desc).map (fun d => d.parameters.length) = some 0 := by decide +kernel
theorem mo130 : MOk 130 := ⟨(t_in4 (List.mem_of_getElem? (i := 239) rfl) rfl), (t_in1 (List.mem_of_getElem? (i := 11) rfl) rfl), ⟨by decide +kernel, by decide +kernel⟩, by decide +kernel, by decide +kernel⟩
theorem mi130 : Cond.instanceMethod (mtJ 130).1 ∈ wsG := (t_in4 (List.mem_of_getElem? (i := 238) rfl) rfl)
theorem msl130 : Cond.selects "SatchelSinsModel" (mtJ 130).1 (mtJ 130).1 ∈ wsG := t_sel (q := (⟨"SatchelSinsModel", "takeHanded", "()I"⟩, 41)) (List.mem_append_right _ (List.mem_append_right _ (List.mem_append_left _ (List.mem_of_getElem? (i := 1) rfl)))) rfl
theorem mn130 : (parseMethodDescriptor (mtJ 130).1.desc).map (fun d => d.parameters.length) = some 0 := by decide +kernel
theorem mo131 : MOk 131 := ⟨(t_in4 (List.mem_of_getElem? (i := 209) rfl) rfl), (t_in1 (List.mem_of_getElem? (i := 11) rfl) rfl), ⟨by decide +kernel, by decide +kernel⟩, by decide +kernel, by decide +kernel⟩
theorem mi131 : Cond.instanceMethod (mtJ 131).1 ∈ wsG := (t_in4 (List.mem_of_getElem? (i := 208) rfl) rfl)
theorem msl131 : Cond.selects "SatchelSinsModel" (mtJ 131).1 (mtJ 131).1 ∈ wsG := t_sel (q := (⟨"SatchelSinsModel", "takeClause", "()I"⟩, 41)) (List.mem_append_right _ (List.mem_append_left _ (List.mem_of_getElem? (i := 10) rfl))) rfl
theorem mn131 : (parseMethodDescriptor (mtJ 131).1.desc).map (fun d => d.parameters.length) = some 0 := by decide +kernel
theorem mo132 : MOk 132 := ⟨(t_in5 (List.mem_of_getElem? (i := 3) rfl) rfl), (t_in1 (List.mem_of_getElem? (i := 11) rfl) rfl), ⟨by decide +kernel, by decide +kernel⟩, by decide +kernel, by decide +kernel⟩
theorem mi132 : Cond.instanceMethod (mtJ 132).1 ∈ wsG := (t_in5 (List.mem_of_getElem? (i := 2) rfl) rfl)
theorem msl132 : Cond.selects "SatchelSinsModel" (mtJ 132).1 (mtJ 132).1 ∈ wsG := t_sel (q := (⟨"SatchelSinsModel", "takeRead", "()V"⟩, 41)) (List.mem_append_right _ (List.mem_append_right _ (List.mem_append_left _ (List.mem_of_getElem? (i := 2) rfl)))) rfl
theorem mn132 : (parseMethodDescriptor (mtJ 132).1.desc).map (fun d => d.parameters.length) = some 0 := by decide +kernel
theorem mo133 : MOk 133 := ⟨(t_in4 (List.mem_of_getElem? (i := 201) rfl) rfl), (t_in1 (List.mem_of_getElem? (i := 11) rfl) rfl), ⟨by decide +kernel, by decide +kernel⟩, by decide +kernel, by decide +kernel⟩
theorem mi133 : Cond.instanceMethod (mtJ 133).1 ∈ wsG := (t_in4 (List.mem_of_getElem? (i := 199) rfl) rfl)
theorem msl133 : Cond.selects "SatchelSinsModel" (mtJ 133).1 (mtJ 133).1 ∈ wsG := (t_in4 (List.mem_of_getElem? (i := 200) rfl) rfl)
theorem mn133 : (parseMethodDescriptor (mtJ 133).1.desc).map (fun d => d.parameters.length) = some 0 := by decide +kernel
theorem mo134 : MOk 134 := ⟨(t_in5 (List.mem_of_getElem? (i := 7) rfl) rfl), (t_in1 (List.mem_of_getElem? (i := 11) rfl) rfl), ⟨by decide +kernel, by decide +kernel⟩, by decide +kernel, by decide +kernel⟩
theorem mi134 : Cond.instanceMethod (mtJ 134).1 ∈ wsG := (t_in5 (List.mem_of_getElem? (i := 5) rfl) rfl)
theorem msl134 : Cond.selects "SatchelSinsModel" (mtJ 134).1 (mtJ 134).1 ∈ wsG := (t_in5 (List.mem_of_getElem? (i := 6) rfl) rfl)
theorem mn134 : (parseMethodDescriptor (mtJ 134).1.desc).map (fun d => d.parameters.length) = some 0 := by decide +kernel
theorem mo135 : MOk 135 := ⟨(t_in5 (List.mem_of_getElem? (i := 23) rfl) rfl), (t_in1 (List.mem_of_getElem? (i := 11) rfl) rfl), ⟨by decide +kernel, by decide +kernel⟩, by decide +kernel, by decide +kernel⟩
theorem mi135 : Cond.instanceMethod (mtJ 135).1 ∈ wsG := (t_in5 (List.mem_of_getElem? (i := 22) rfl) rfl)
theorem msl135 : Cond.selects "SatchelSinsModel" (mtJ 135).1 (mtJ 135).1 ∈ wsG := t_sel (q := (⟨"SatchelSinsModel", "isWith", "(III)Z"⟩, 41)) (List.mem_append_right _ (List.mem_append_right _ (List.mem_append_left _ (List.mem_of_getElem? (i := 5) rfl)))) rfl
theorem mn135 : (parseMethodDescriptor (mtJ 135).1.desc).map (fun d => d.parameters.length) = some 3 := by decide +kernel
theorem mo136 : MOk 136 := ⟨(t_in5 (List.mem_of_getElem? (i := 52) rfl) rfl), (t_in1 (List.mem_of_getElem? (i := 11) rfl) rfl), ⟨by decide +kernel, by decide +kernel⟩, by decide +kernel, by decide +kernel⟩
theorem mi136 : Cond.instanceMethod (mtJ 136).1 ∈ wsG := (t_in5 (List.mem_of_getElem? (i := 51) rfl) rfl)
theorem msl136 : Cond.selects "SatchelSinsModel" (mtJ 136).1 (mtJ 136).1 ∈ wsG := t_sel (q := (⟨"SatchelSinsModel", "deedsWith", "(II)I"⟩, 41)) (List.mem_append_right _ (List.mem_append_right _ (List.mem_append_left _ (List.mem_of_getElem? (i := 11) rfl)))) rfl
theorem mn136 : (parseMethodDescriptor (mtJ 136).1.desc).map (fun d => d.parameters.length) = some 2 := by decide +kernel
theorem mo137 : MOk 137 := ⟨(t_in5 (List.mem_of_getElem? (i := 19) rfl) rfl), (t_in1 (List.mem_of_getElem? (i := 11) rfl) rfl), ⟨by decide +kernel, by decide +kernel⟩, by decide +kernel, by decide +kernel⟩
theorem mi137 : Cond.instanceMethod (mtJ 137).1 ∈ wsG := (t_in5 (List.mem_of_getElem? (i := 18) rfl) rfl)
theorem msl137 : Cond.selects "SatchelSinsModel" (mtJ 137).1 (mtJ 137).1 ∈ wsG := t_sel (q := (⟨"SatchelSinsModel", "load", "(I)I"⟩, 41)) (List.mem_append_right _ (List.mem_append_right _ (List.mem_append_left _ (List.mem_of_getElem? (i := 4) rfl)))) rfl
theorem mn137 : (parseMethodDescriptor (mtJ 137).1.desc).map (fun d => d.parameters.length) = some 1 := by decide +kernel
theorem mo138 : MOk 138 := ⟨(t_in5 (List.mem_of_getElem? (i := 39) rfl) rfl), (t_in1 (List.mem_of_getElem? (i := 11) rfl) rfl), ⟨by decide +kernel, by decide +kernel⟩, by decide +kernel, by decide +kernel⟩
theorem mi138 : Cond.instanceMethod (mtJ 138).1 ∈ wsG := (t_in5 (List.mem_of_getElem? (i := 38) rfl) rfl)
theorem msl138 : Cond.selects "SatchelSinsModel" (mtJ 138).1 (mtJ 138).1 ∈ wsG := t_sel (q := (⟨"SatchelSinsModel", "minutes", "(I)I"⟩, 41)) (List.mem_append_right _ (List.mem_append_right _ (List.mem_append_left _ (List.mem_of_getElem? (i := 9) rfl)))) rfl
theorem mn138 : (parseMethodDescriptor (mtJ 138).1.desc).map (fun d => d.parameters.length) = some 1 := by decide +kernel
theorem mo139 : MOk 139 := ⟨(t_in5 (List.mem_of_getElem? (i := 15) rfl) rfl), (t_in1 (List.mem_of_getElem? (i := 11) rfl) rfl), ⟨by decide +kernel, by decide +kernel⟩, by decide +kernel, by decide +kernel⟩
theorem mi139 : Cond.instanceMethod (mtJ 139).1 ∈ wsG := (t_in5 (List.mem_of_getElem? (i := 14) rfl) rfl)
theorem msl139 : Cond.selects "SatchelSinsModel" (mtJ 139).1 (mtJ 139).1 ∈ wsG := t_sel (q := (⟨"SatchelSinsModel", "lamed", "()I"⟩, 41)) (List.mem_append_right _ (List.mem_append_right _ (List.mem_append_left _ (List.mem_of_getElem? (i := 3) rfl)))) rfl
theorem mn139 : (parseMethodDescriptor (mtJ 139).1.desc).map (fun d => d.parameters.length) = some 0 := by decide +kernel
theorem mo140 : MOk 140 := ⟨(t_in5 (List.mem_of_getElem? (i := 27) rfl) rfl), (t_in1 (List.mem_of_getElem? (i := 11) rfl) rfl), ⟨by decide +kernel, by decide +kernel⟩, by decide +kernel, by decide +kernel⟩
theorem mi140 : Cond.instanceMethod (mtJ 140).1 ∈ wsG := (t_in5 (List.mem_of_getElem? (i := 26) rfl) rfl)
theorem msl140 : Cond.selects "SatchelSinsModel" (mtJ 140).1 (mtJ 140).1 ∈ wsG := t_sel (q := (⟨"SatchelSinsModel", "lamedDays", "()I"⟩, 41)) (List.mem_append_right _ (List.mem_append_right _ (List.mem_append_left _ (List.mem_of_getElem? (i := 6) rfl)))) rfl
theorem mn140 : (parseMethodDescriptor (mtJ 140).1.desc).map (fun d => d.parameters.length) = some 0 := by decide +kernel
theorem mo141 : MOk 141 := ⟨(t_in5 (List.mem_of_getElem? (i := 31) rfl) rfl), (t_in1 (List.mem_of_getElem? (i := 11) rfl) rfl), ⟨by decide +kernel, by decide +kernel⟩, by decide +kernel, by decide +kernel⟩
theorem mi141 : Cond.instanceMethod (mtJ 141).1 ∈ wsG := (t_in5 (List.mem_of_getElem? (i := 30) rfl) rfl)
theorem msl141 : Cond.selects "SatchelSinsModel" (mtJ 141).1 (mtJ 141).1 ∈ wsG := t_sel (q := (⟨"SatchelSinsModel", "made", "()I"⟩, 41)) (List.mem_append_right _ (List.mem_append_right _ (List.mem_append_left _ (List.mem_of_getElem? (i := 7) rfl)))) rfl
theorem mn141 : (parseMethodDescriptor (mtJ 141).1.desc).map (fun d => d.parameters.length) = some 0 := by decide +kernel
theorem mo142 : MOk 142 := ⟨(t_in5 (List.mem_of_getElem? (i := 35) rfl) rfl), (t_in1 (List.mem_of_getElem? (i := 11) rfl) rfl), ⟨by decide +kernel, by decide +kernel⟩, by decide +kernel, by decide +kernel⟩
theorem mi142 : Cond.instanceMethod (mtJ 142).1 ∈ wsG := (t_in5 (List.mem_of_getElem? (i := 34) rfl) rfl)
theorem msl142 : Cond.selects "SatchelSinsModel" (mtJ 142).1 (mtJ 142).1 ∈ wsG := t_sel (q := (⟨"SatchelSinsModel", "lastHome", "()I"⟩, 41)) (List.mem_append_right _ (List.mem_append_right _ (List.mem_append_left _ (List.mem_of_getElem? (i := 8) rfl)))) rfl
theorem mn142 : (parseMethodDescriptor (mtJ 142).1.desc).map (fun d => d.parameters.length) = some 0 := by decide +kernel
theorem mo143 : MOk 143 := ⟨(t_in5 (List.mem_of_getElem? (i := 11) rfl) rfl), (t_in1 (List.mem_of_getElem? (i := 11) rfl) rfl), ⟨by decide +kernel, by decide +kernel⟩, by decide +kernel, by decide +kernel⟩
theorem mi143 : Cond.instanceMethod (mtJ 143).1 ∈ wsG := (t_in5 (List.mem_of_getElem? (i := 9) rfl) rfl)
theorem msl143 : Cond.selects "SatchelSinsModel" (mtJ 143).1 (mtJ 143).1 ∈ wsG := (t_in5 (List.mem_of_getElem? (i := 10) rfl) rfl)
theorem mn143 : (parseMethodDescriptor (mtJ 143).1.desc).map (fun d => d.parameters.length) = some 1 := by decide +kernel
theorem mo144 : MOk 144 := ⟨(t_in5 (List.mem_of_getElem? (i := 43) rfl) rfl), (t_in1 (List.mem_of_getElem? (i := 11) rfl) rfl), ⟨by decide +kernel, by decide +kernel⟩, by decide +kernel, by decide +kernel⟩
theorem mi144 : Cond.instanceMethod (mtJ 144).1 ∈ wsG := (t_in5 (List.mem_of_getElem? (i := 41) rfl) rfl)
theorem msl144 : Cond.selects "SatchelSinsModel" (mtJ 144).1 (mtJ 144).1 ∈ wsG := (t_in5 (List.mem_of_getElem? (i := 42) rfl) rfl)
theorem mn144 : (parseMethodDescriptor (mtJ 144).1.desc).map (fun d => d.parameters.length) = some 2 := by decide +kernel
theorem mo145 : MOk 145 := ⟨(t_in5 (List.mem_of_getElem? (i := 56) rfl) rfl), (t_in1 (List.mem_of_getElem? (i := 11) rfl) rfl), ⟨by decide +kernel, by decide +kernel⟩, by decide +kernel, by decide +kernel⟩
theorem mi145 : Cond.instanceMethod (mtJ 145).1 ∈ wsG := (t_in5 (List.mem_of_getElem? (i := 54) rfl) rfl)
theorem msl145 : Cond.selects "SatchelSinsModel" (mtJ 145).1 (mtJ 145).1 ∈ wsG := (t_in5 (List.mem_of_getElem? (i := 55) rfl) rfl)
theorem mn145 : (parseMethodDescriptor (mtJ 145).1.desc).map (fun d => d.parameters.length) = some 2 := by decide +kernel
theorem mo146 : MOk 146 := ⟨(t_in5 (List.mem_of_getElem? (i := 69) rfl) rfl), (t_in1 (List.mem_of_getElem? (i := 11) rfl) rfl), ⟨by decide +kernel, by decide +kernel⟩, by decide +kernel, by decide +kernel⟩
theorem mi146 : Cond.instanceMethod (mtJ 146).1 ∈ wsG := (t_in5 (List.mem_of_getElem? (i := 68) rfl) rfl)
theorem msl146 : Cond.selects "SatchelSinsModel" (mtJ 146).1 (mtJ 146).1 ∈ wsG := t_sel (q := (⟨"SatchelSinsModel", "remember", "()V"⟩, 41)) (List.mem_append_right _ (List.mem_append_right _ (List.mem_append_left _ (List.mem_of_getElem? (i := 13) rfl)))) rfl
theorem mn146 : (parseMethodDescriptor (mtJ 146).1.desc).map (fun d => d.parameters.length) = some 0 := by decide +kernel
theorem mo147 : MOk 147 := ⟨(t_in5 (List.mem_of_getElem? (i := 73) rfl) rfl), (t_in1 (List.mem_of_getElem? (i := 11) rfl) rfl), ⟨by decide +kernel, by decide +kernel⟩, by decide +kernel, by decide +kernel⟩
theorem mi147 : Cond.instanceMethod (mtJ 147).1 ∈ wsG := (t_in5 (List.mem_of_getElem? (i := 72) rfl) rfl)
theorem msl147 : Cond.selects "SatchelSinsModel" (mtJ 147).1 (mtJ 147).1 ∈ wsG := t_sel (q := (⟨"SatchelSinsModel", "lay", "(III)V"⟩, 41)) (List.mem_append_right _ (List.mem_append_right _ (List.mem_append_left _ (List.mem_of_getElem? (i := 14) rfl)))) rfl
theorem mn147 : (parseMethodDescriptor (mtJ 147).1.desc).map (fun d => d.parameters.length) = some 3 := by decide +kernel
theorem mo148 : MOk 148 := ⟨(t_in5 (List.mem_of_getElem? (i := 64) rfl) rfl), (t_in1 (List.mem_of_getElem? (i := 11) rfl) rfl), ⟨by decide +kernel, by decide +kernel⟩, by decide +kernel, by decide +kernel⟩
theorem mi148 : Cond.instanceMethod (mtJ 148).1 ∈ wsG := (t_in5 (List.mem_of_getElem? (i := 62) rfl) rfl)
theorem msl148 : Cond.selects "SatchelSinsModel" (mtJ 148).1 (mtJ 148).1 ∈ wsG := (t_in5 (List.mem_of_getElem? (i := 63) rfl) rfl)
theorem mn148 : (parseMethodDescriptor (mtJ 148).1.desc).map (fun d => d.parameters.length) = some 1 := by decide +kernel
theorem mo149 : MOk 149 := ⟨(t_in5 (List.mem_of_getElem? (i := 77) rfl) rfl), (t_in1 (List.mem_of_getElem? (i := 11) rfl) rfl), ⟨by decide +kernel, by decide +kernel⟩, by decide +kernel, by decide +kernel⟩
theorem mi149 : Cond.instanceMethod (mtJ 149).1 ∈ wsG := (t_in5 (List.mem_of_getElem? (i := 75) rfl) rfl)
theorem msl149 : Cond.selects "SatchelSinsModel" (mtJ 149).1 (mtJ 149).1 ∈ wsG := (t_in5 (List.mem_of_getElem? (i := 76) rfl) rfl)
theorem mn149 : (parseMethodDescriptor (mtJ 149).1.desc).map (fun d => d.parameters.length) = some 2 := by decide +kernel
theorem mo150 : MOk 150 := ⟨(t_in5 (List.mem_of_getElem? (i := 85) rfl) rfl), (t_in1 (List.mem_of_getElem? (i := 11) rfl) rfl), ⟨by decide +kernel, by decide +kernel⟩, by decide +kernel, by decide +kernel⟩
theorem mi150 : Cond.instanceMethod (mtJ 150).1 ∈ wsG := (t_in5 (List.mem_of_getElem? (i := 84) rfl) rfl)
theorem msl150 : Cond.selects "SatchelSinsModel" (mtJ 150).1 (mtJ 150).1 ∈ wsG := t_sel (q := (⟨"SatchelSinsModel", "canSwap", "(II)Z"⟩, 41)) (List.mem_append_right _ (List.mem_append_right _ (List.mem_append_left _ (List.mem_of_getElem? (i := 15) rfl)))) rfl
theorem mn150 : (parseMethodDescriptor (mtJ 150).1.desc).map (fun d => d.parameters.length) = some 2 := by decide +kernel
theorem mo151 : MOk 151 := ⟨(t_in5 (List.mem_of_getElem? (i := 81) rfl) rfl), (t_in1 (List.mem_of_getElem? (i := 11) rfl) rfl), ⟨by decide +kernel, by decide +kernel⟩, by decide +kernel, by decide +kernel⟩
theorem mi151 : Cond.instanceMethod (mtJ 151).1 ∈ wsG := (t_in5 (List.mem_of_getElem? (i := 79) rfl) rfl)
theorem msl151 : Cond.selects "SatchelSinsModel" (mtJ 151).1 (mtJ 151).1 ∈ wsG := (t_in5 (List.mem_of_getElem? (i := 80) rfl) rfl)
theorem mn151 : (parseMethodDescriptor (mtJ 151).1.desc).map (fun d => d.parameters.length) = some 2 := by decide +kernel
theorem mo152 : MOk 152 := ⟨(t_in5 (List.mem_of_getElem? (i := 93) rfl) rfl), (t_in1 (List.mem_of_getElem? (i := 11) rfl) rfl), ⟨by decide +kernel, by decide +kernel⟩, by decide +kernel, by decide +kernel⟩
theorem mi152 : Cond.instanceMethod (mtJ 152).1 ∈ wsG := (t_in5 (List.mem_of_getElem? (i := 92) rfl) rfl)
theorem msl152 : Cond.selects "SatchelSinsModel" (mtJ 152).1 (mtJ 152).1 ∈ wsG := t_sel (q := (⟨"SatchelSinsModel", "canThrow", "(I)Z"⟩, 41)) (List.mem_append_right _ (List.mem_append_right _ (List.mem_append_right _ (List.mem_of_getElem? (i := 0) rfl)))) rfl
theorem mn152 : (parseMethodDescriptor (mtJ 152).1.desc).map (fun d => d.parameters.length) = some 1 := by decide +kernel
theorem mo153 : MOk 153 := ⟨(t_in5 (List.mem_of_getElem? (i := 97) rfl) rfl), (t_in1 (List.mem_of_getElem? (i := 11) rfl) rfl), ⟨by decide +kernel, by decide +kernel⟩, by decide +kernel, by decide +kernel⟩
theorem mi153 : Cond.instanceMethod (mtJ 153).1 ∈ wsG := (t_in5 (List.mem_of_getElem? (i := 96) rfl) rfl)
theorem msl153 : Cond.selects "SatchelSinsModel" (mtJ 153).1 (mtJ 153).1 ∈ wsG := t_sel (q := (⟨"SatchelSinsModel", "throwNow", "(I)V"⟩, 41)) (List.mem_append_right _ (List.mem_append_right _ (List.mem_append_right _ (List.mem_of_getElem? (i := 1) rfl)))) rfl
theorem mn153 : (parseMethodDescriptor (mtJ 153).1.desc).map (fun d => d.parameters.length) = some 1 := by decide +kernel
theorem mo154 : MOk 154 := ⟨(t_in5 (List.mem_of_getElem? (i := 89) rfl) rfl), (t_in1 (List.mem_of_getElem? (i := 11) rfl) rfl), ⟨by decide +kernel, by decide +kernel⟩, by decide +kernel, by decide +kernel⟩
theorem mi154 : Cond.instanceMethod (mtJ 154).1 ∈ wsG := (t_in5 (List.mem_of_getElem? (i := 87) rfl) rfl)
theorem msl154 : Cond.selects "SatchelSinsModel" (mtJ 154).1 (mtJ 154).1 ∈ wsG := (t_in5 (List.mem_of_getElem? (i := 88) rfl) rfl)
theorem mn154 : (parseMethodDescriptor (mtJ 154).1.desc).map (fun d => d.parameters.length) = some 1 := by decide +kernel
theorem mo155 : MOk 155 := ⟨(t_in5 (List.mem_of_getElem? (i := 106) rfl) rfl), (t_in1 (List.mem_of_getElem? (i := 11) rfl) rfl), ⟨by decide +kernel, by decide +kernel⟩, by decide +kernel, by decide +kernel⟩
theorem mi155 : Cond.instanceMethod (mtJ 155).1 ∈ wsG := (t_in5 (List.mem_of_getElem? (i := 105) rfl) rfl)
theorem msl155 : Cond.selects "SatchelSinsModel" (mtJ 155).1 (mtJ 155).1 ∈ wsG := t_sel (q := (⟨"SatchelSinsModel", "goHome", "()I"⟩, 41)) (List.mem_append_right _ (List.mem_append_right _ (List.mem_append_right _ (List.mem_of_getElem? (i := 2) rfl)))) rfl
theorem mn155 : (parseMethodDescriptor (mtJ 155).1.desc).map (fun d => d.parameters.length) = some 0 := by decide +kernel
theorem mo156 : MOk 156 := ⟨(t_in5 (List.mem_of_getElem? (i := 102) rfl) rfl), (t_in1 (List.mem_of_getElem? (i := 11) rfl) rfl), ⟨by decide +kernel, by decide +kernel⟩, by decide +kernel, by decide +kernel⟩
theorem mi156 : Cond.instanceMethod (mtJ 156).1 ∈ wsG := (t_in5 (List.mem_of_getElem? (i := 100) rfl) rfl)
theorem msl156 : Cond.selects "SatchelSinsModel" (mtJ 156).1 (mtJ 156).1 ∈ wsG := (t_in5 (List.mem_of_getElem? (i := 101) rfl) rfl)
theorem mn156 : (parseMethodDescriptor (mtJ 156).1.desc).map (fun d => d.parameters.length) = some 0 := by decide +kernel
theorem mo157 : MOk 157 := ⟨(t_in5 (List.mem_of_getElem? (i := 110) rfl) rfl), (t_in1 (List.mem_of_getElem? (i := 11) rfl) rfl), ⟨by decide +kernel, by decide +kernel⟩, by decide +kernel, by decide +kernel⟩
theorem mi157 : Cond.instanceMethod (mtJ 157).1 ∈ wsG := (t_in5 (List.mem_of_getElem? (i := 108) rfl) rfl)
theorem msl157 : Cond.selects "SatchelSinsModel" (mtJ 157).1 (mtJ 157).1 ∈ wsG := (t_in5 (List.mem_of_getElem? (i := 109) rfl) rfl)
theorem mn157 : (parseMethodDescriptor (mtJ 157).1.desc).map (fun d => d.parameters.length) = some 1 := by decide +kernel
theorem mo158 : MOk 158 := ⟨(t_in5 (List.mem_of_getElem? (i := 123) rfl) rfl), (t_in1 (List.mem_of_getElem? (i := 11) rfl) rfl), ⟨by decide +kernel, by decide +kernel⟩, by decide +kernel, by decide +kernel⟩
theorem mi158 : Cond.instanceMethod (mtJ 158).1 ∈ wsG := (t_in5 (List.mem_of_getElem? (i := 122) rfl) rfl)
theorem msl158 : Cond.selects "SatchelSinsModel" (mtJ 158).1 (mtJ 158).1 ∈ wsG := t_sel (q := (⟨"SatchelSinsModel", "draw", "(I)I"⟩, 41)) (List.mem_append_right _ (List.mem_append_right _ (List.mem_append_right _ (List.mem_of_getElem? (i := 4) rfl)))) rfl
theorem mn158 : (parseMethodDescriptor (mtJ 158).1.desc).map (fun d => d.parameters.length) = some 1 := by decide +kernel
theorem mo159 : MOk 159 := ⟨(t_in5 (List.mem_of_getElem? (i := 119) rfl) rfl), (t_in1 (List.mem_of_getElem? (i := 11) rfl) rfl), ⟨by decide +kernel, by decide +kernel⟩, by decide +kernel, by decide +kernel⟩
theorem mi159 : Cond.instanceMethod (mtJ 159).1 ∈ wsG := (t_in5 (List.mem_of_getElem? (i := 118) rfl) rfl)
theorem msl159 : Cond.selects "SatchelSinsModel" (mtJ 159).1 (mtJ 159).1 ∈ wsG := t_sel (q := (⟨"SatchelSinsModel", "chance", "()I"⟩, 41)) (List.mem_append_right _ (List.mem_append_right _ (List.mem_append_right _ (List.mem_of_getElem? (i := 3) rfl)))) rfl
theorem mn159 : (parseMethodDescriptor (mtJ 159).1.desc).map (fun d => d.parameters.length) = some 0 := by decide +kernel
theorem mo160 : MOk 160 := ⟨(t_in5 (List.mem_of_getElem? (i := 114) rfl) rfl), (t_in1 (List.mem_of_getElem? (i := 11) rfl) rfl), ⟨by decide +kernel, by decide +kernel⟩, by decide +kernel, by decide +kernel⟩
theorem mi160 : Cond.instanceMethod (mtJ 160).1 ∈ wsG := (t_in5 (List.mem_of_getElem? (i := 112) rfl) rfl)
theorem msl160 : Cond.selects "SatchelSinsModel" (mtJ 160).1 (mtJ 160).1 ∈ wsG := (t_in5 (List.mem_of_getElem? (i := 113) rfl) rfl)
theorem mn160 : (parseMethodDescriptor (mtJ 160).1.desc).map (fun d => d.parameters.length) = some 1 := by decide +kernel
theorem mo161 : MOk 161 := ⟨(t_in5 (List.mem_of_getElem? (i := 131) rfl) rfl), (t_in1 (List.mem_of_getElem? (i := 11) rfl) rfl), ⟨by decide +kernel, by decide +kernel⟩, by decide +kernel, by decide +kernel⟩
theorem mi161 : Cond.instanceMethod (mtJ 161).1 ∈ wsG := (t_in5 (List.mem_of_getElem? (i := 129) rfl) rfl)
theorem msl161 : Cond.selects "SatchelSinsModel" (mtJ 161).1 (mtJ 161).1 ∈ wsG := (t_in5 (List.mem_of_getElem? (i := 130) rfl) rfl)
theorem mn161 : (parseMethodDescriptor (mtJ 161).1.desc).map (fun d => d.parameters.length) = some 0 := by decide +kernel
theorem mo162 : MOk 162 := ⟨(t_in5 (List.mem_of_getElem? (i := 140) rfl) rfl), (t_in1 (List.mem_of_getElem? (i := 11) rfl) rfl), ⟨by decide +kernel, by decide +kernel⟩, by decide +kernel, by decide +kernel⟩
theorem mi162 : Cond.instanceMethod (mtJ 162).1 ∈ wsG := (t_in5 (List.mem_of_getElem? (i := 139) rfl) rfl)
theorem msl162 : Cond.selects "SatchelSinsModel" (mtJ 162).1 (mtJ 162).1 ∈ wsG := t_sel (q := (⟨"SatchelSinsModel", "waysToGive", "()I"⟩, 41)) (List.mem_append_right _ (List.mem_append_right _ (List.mem_append_right _ (List.mem_of_getElem? (i := 5) rfl)))) rfl
theorem mn162 : (parseMethodDescriptor (mtJ 162).1.desc).map (fun d => d.parameters.length) = some 0 := by decide +kernel
theorem mo163 : MOk 163 := ⟨(t_in5 (List.mem_of_getElem? (i := 144) rfl) rfl), (t_in1 (List.mem_of_getElem? (i := 11) rfl) rfl), ⟨by decide +kernel, by decide +kernel⟩, by decide +kernel, by decide +kernel⟩
theorem mi163 : Cond.instanceMethod (mtJ 163).1 ∈ wsG := (t_in5 (List.mem_of_getElem? (i := 143) rfl) rfl)
theorem msl163 : Cond.selects "SatchelSinsModel" (mtJ 163).1 (mtJ 163).1 ∈ wsG := t_sel (q := (⟨"SatchelSinsModel", "giveBy", "(I)I"⟩, 41)) (List.mem_append_right _ (List.mem_append_right _ (List.mem_append_right _ (List.mem_of_getElem? (i := 6) rfl)))) rfl
theorem mn163 : (parseMethodDescriptor (mtJ 163).1.desc).map (fun d => d.parameters.length) = some 1 := by decide +kernel
theorem mo164 : MOk 164 := ⟨(t_in5 (List.mem_of_getElem? (i := 148) rfl) rfl), (t_in1 (List.mem_of_getElem? (i := 11) rfl) rfl), ⟨by decide +kernel, by decide +kernel⟩, by decide +kernel, by decide +kernel⟩
theorem mi164 : Cond.instanceMethod (mtJ 164).1 ∈ wsG := (t_in5 (List.mem_of_getElem? (i := 147) rfl) rfl)
theorem msl164 : Cond.selects "SatchelSinsModel" (mtJ 164).1 (mtJ 164).1 ∈ wsG := t_sel (q := (⟨"SatchelSinsModel", "isBorne", "()Z"⟩, 41)) (List.mem_append_right _ (List.mem_append_right _ (List.mem_append_right _ (List.mem_of_getElem? (i := 7) rfl)))) rfl
theorem mn164 : (parseMethodDescriptor (mtJ 164).1.desc).map (fun d => d.parameters.length) = some 0 := by decide +kernel
theorem mo165 : MOk 165 := ⟨(t_in5 (List.mem_of_getElem? (i := 160) rfl) rfl), (t_in1 (List.mem_of_getElem? (i := 11) rfl) rfl), ⟨by decide +kernel, by decide +kernel⟩, by decide +kernel, by decide +kernel⟩
theorem mi165 : Cond.instanceMethod (mtJ 165).1 ∈ wsG := (t_in5 (List.mem_of_getElem? (i := 159) rfl) rfl)
theorem msl165 : Cond.selects "SatchelSinsModel" (mtJ 165).1 (mtJ 165).1 ∈ wsG := t_sel (q := (⟨"SatchelSinsModel", "greatest", "()I"⟩, 41)) (List.mem_append_right _ (List.mem_append_right _ (List.mem_append_right _ (List.mem_of_getElem? (i := 9) rfl)))) rfl
theorem mn165 : (parseMethodDescriptor (mtJ 165).1.desc).map (fun d => d.parameters.length) = some 0 := by decide +kernel
theorem mo166 : MOk 166 := ⟨(t_in5 (List.mem_of_getElem? (i := 152) rfl) rfl), (t_in1 (List.mem_of_getElem? (i := 11) rfl) rfl), ⟨by decide +kernel, by decide +kernel⟩, by decide +kernel, by decide +kernel⟩
theorem mi166 : Cond.instanceMethod (mtJ 166).1 ∈ wsG := (t_in5 (List.mem_of_getElem? (i := 151) rfl) rfl)
theorem msl166 : Cond.selects "SatchelSinsModel" (mtJ 166).1 (mtJ 166).1 ∈ wsG := t_sel (q := (⟨"SatchelSinsModel", "keepGiven", "()V"⟩, 41)) (List.mem_append_right _ (List.mem_append_right _ (List.mem_append_right _ (List.mem_of_getElem? (i := 8) rfl)))) rfl
theorem mn166 : (parseMethodDescriptor (mtJ 166).1.desc).map (fun d => d.parameters.length) = some 0 := by decide +kernel
theorem mo167 : MOk 167 := ⟨(t_in5 (List.mem_of_getElem? (i := 135) rfl) rfl), (t_in1 (List.mem_of_getElem? (i := 11) rfl) rfl), ⟨by decide +kernel, by decide +kernel⟩, by decide +kernel, by decide +kernel⟩
theorem mi167 : Cond.instanceMethod (mtJ 167).1 ∈ wsG := (t_in5 (List.mem_of_getElem? (i := 133) rfl) rfl)
theorem msl167 : Cond.selects "SatchelSinsModel" (mtJ 167).1 (mtJ 167).1 ∈ wsG := (t_in5 (List.mem_of_getElem? (i := 134) rfl) rfl)
theorem mn167 : (parseMethodDescriptor (mtJ 167).1.desc).map (fun d => d.parameters.length) = some 1 := by decide +kernel
theorem mo168 : MOk 168 := ⟨(t_in5 (List.mem_of_getElem? (i := 156) rfl) rfl), (t_in1 (List.mem_of_getElem? (i := 11) rfl) rfl), ⟨by decide +kernel, by decide +kernel⟩, by decide +kernel, by decide +kernel⟩
theorem mi168 : Cond.instanceMethod (mtJ 168).1 ∈ wsG := (t_in5 (List.mem_of_getElem? (i := 154) rfl) rfl)
theorem msl168 : Cond.selects "SatchelSinsModel" (mtJ 168).1 (mtJ 168).1 ∈ wsG := (t_in5 (List.mem_of_getElem? (i := 155) rfl) rfl)
theorem mn168 : (parseMethodDescriptor (mtJ 168).1.desc).map (fun d => d.parameters.length) = some 1 := by decide +kernel
theorem mo169 : MOk 169 := ⟨(t_in5 (List.mem_of_getElem? (i := 168) rfl) rfl), (t_in1 (List.mem_of_getElem? (i := 11) rfl) rfl), ⟨by decide +kernel, by decide +kernel⟩, by decide +kernel, by decide +kernel⟩
theorem mi169 : Cond.instanceMethod (mtJ 169).1 ∈ wsG := (t_in5 (List.mem_of_getElem? (i := 167) rfl) rfl)
theorem msl169 : Cond.selects "SatchelSinsModel" (mtJ 169).1 (mtJ 169).1 ∈ wsG := t_sel (q := (⟨"SatchelSinsModel", "isLighter", "(II)Z"⟩, 41)) (List.mem_append_right _ (List.mem_append_right _ (List.mem_append_right _ (List.mem_of_getElem? (i := 10) rfl)))) rfl
theorem mn169 : (parseMethodDescriptor (mtJ 169).1.desc).map (fun d => d.parameters.length) = some 2 := by decide +kernel
theorem mo170 : MOk 170 := ⟨(t_in5 (List.mem_of_getElem? (i := 164) rfl) rfl), (t_in1 (List.mem_of_getElem? (i := 11) rfl) rfl), ⟨by decide +kernel, by decide +kernel⟩, by decide +kernel, by decide +kernel⟩
theorem mi170 : Cond.instanceMethod (mtJ 170).1 ∈ wsG := (t_in5 (List.mem_of_getElem? (i := 162) rfl) rfl)
theorem msl170 : Cond.selects "SatchelSinsModel" (mtJ 170).1 (mtJ 170).1 ∈ wsG := (t_in5 (List.mem_of_getElem? (i := 163) rfl) rfl)
theorem mn170 : (parseMethodDescriptor (mtJ 170).1.desc).map (fun d => d.parameters.length) = some 1 := by decide +kernel
theorem mo171 : MOk 171 := ⟨(t_in5 (List.mem_of_getElem? (i := 178) rfl) rfl), (t_in1 (List.mem_of_getElem? (i := 11) rfl) rfl), ⟨by decide +kernel, by decide +kernel⟩, by decide +kernel, by decide +kernel⟩
theorem mi171 : Cond.instanceMethod (mtJ 171).1 ∈ wsG := (t_in5 (List.mem_of_getElem? (i := 177) rfl) rfl)
theorem msl171 : Cond.selects "SatchelSinsModel" (mtJ 171).1 (mtJ 171).1 ∈ wsG := t_sel (q := (⟨"SatchelSinsModel", "weightOf", "(I)I"⟩, 41)) (List.mem_append_right _ (List.mem_append_right _ (List.mem_append_right _ (List.mem_of_getElem? (i := 11) rfl)))) rfl
theorem mn171 : (parseMethodDescriptor (mtJ 171).1.desc).map (fun d => d.parameters.length) = some 1 := by decide +kernel
theorem mo172 : MOk 172 := ⟨(t_in5 (List.mem_of_getElem? (i := 185) rfl) rfl), (t_in1 (List.mem_of_getElem? (i := 11) rfl) rfl), ⟨by decide +kernel, by decide +kernel⟩, by decide +kernel, by decide +kernel⟩
theorem mi172 : Cond.instanceMethod (mtJ 172).1 ∈ wsG := (t_in5 (List.mem_of_getElem? (i := 184) rfl) rfl)
theorem msl172 : Cond.selects "SatchelSinsModel" (mtJ 172).1 (mtJ 172).1 ∈ wsG := t_sel (q := (⟨"SatchelSinsModel", "lookFor", "(I)I"⟩, 41)) (List.mem_append_right _ (List.mem_append_right _ (List.mem_append_right _ (List.mem_of_getElem? (i := 12) rfl)))) rfl
theorem mn172 : (parseMethodDescriptor (mtJ 172).1.desc).map (fun d => d.parameters.length) = some 1 := by decide +kernel
theorem mo173 : MOk 173 := ⟨(t_in5 (List.mem_of_getElem? (i := 172) rfl) rfl), (t_in1 (List.mem_of_getElem? (i := 11) rfl) rfl), ⟨by decide +kernel, by decide +kernel⟩, by decide +kernel, by decide +kernel⟩
theorem mi173 : Cond.instanceMethod (mtJ 173).1 ∈ wsG := (t_in5 (List.mem_of_getElem? (i := 170) rfl) rfl)
theorem msl173 : Cond.selects "SatchelSinsModel" (mtJ 173).1 (mtJ 173).1 ∈ wsG := (t_in5 (List.mem_of_getElem? (i := 171) rfl) rfl)
theorem mn173 : (parseMethodDescriptor (mtJ 173).1.desc).map (fun d => d.parameters.length) = some 2 := by decide +kernel
theorem mo174 : MOk 174 := ⟨(t_in5 (List.mem_of_getElem? (i := 193) rfl) rfl), (t_in1 (List.mem_of_getElem? (i := 11) rfl) rfl), ⟨by decide +kernel, by decide +kernel⟩, by decide +kernel, by decide +kernel⟩
theorem mi174 : Cond.instanceMethod (mtJ 174).1 ∈ wsG := (t_in5 (List.mem_of_getElem? (i := 192) rfl) rfl)
theorem msl174 : Cond.selects "SatchelSinsModel" (mtJ 174).1 (mtJ 174).1 ∈ wsG := t_sel (q := (⟨"SatchelSinsModel", "firstOf", "(I)I"⟩, 41)) (List.mem_append_right _ (List.mem_append_right _ (List.mem_append_right _ (List.mem_of_getElem? (i := 13) rfl)))) rfl
theorem mn174 : (parseMethodDescriptor (mtJ 174).1.desc).map (fun d => d.parameters.length) = some 1 := by decide +kernel
theorem mo175 : MOk 175 := ⟨(t_in5 (List.mem_of_getElem? (i := 189) rfl) rfl), (t_in1 (List.mem_of_getElem? (i := 11) rfl) rfl), ⟨by decide +kernel, by decide +kernel⟩, by decide +kernel, by decide +kernel⟩
theorem mi175 : Cond.instanceMethod (mtJ 175).1 ∈ wsG := (t_in5 (List.mem_of_getElem? (i := 187) rfl) rfl)
theorem msl175 : Cond.selects "SatchelSinsModel" (mtJ 175).1 (mtJ 175).1 ∈ wsG := (t_in5 (List.mem_of_getElem? (i := 188) rfl) rfl)
theorem mn175 : (parseMethodDescriptor (mtJ 175).1.desc).map (fun d => d.parameters.length) = some 2 := by decide +kernel
theorem mo176 : MOk 176 := ⟨(t_in5 (List.mem_of_getElem? (i := 197) rfl) rfl), (t_in1 (List.mem_of_getElem? (i := 11) rfl) rfl), ⟨by decide +kernel, by decide +kernel⟩, by decide +kernel, by decide +kernel⟩
theorem mi176 : Cond.instanceMethod (mtJ 176).1 ∈ wsG := (t_in5 (List.mem_of_getElem? (i := 195) rfl) rfl)
theorem msl176 : Cond.selects "SatchelSinsModel" (mtJ 176).1 (mtJ 176).1 ∈ wsG := (t_in5 (List.mem_of_getElem? (i := 196) rfl) rfl)
theorem mn176 : (parseMethodDescriptor (mtJ 176).1.desc).map (fun d => d.parameters.length) = some 2 := by decide +kernel
theorem mo177 : MOk 177 := ⟨(t_in5 (List.mem_of_getElem? (i := 203) rfl) rfl), (t_in1 (List.mem_of_getElem? (i := 11) rfl) rfl), ⟨by decide +kernel, by decide +kernel⟩, by decide +kernel, by decide +kernel⟩
theorem mi177 : Cond.instanceMethod (mtJ 177).1 ∈ wsG := (t_in5 (List.mem_of_getElem? (i := 201) rfl) rfl)
theorem msl177 : Cond.selects "SatchelSinsModel" (mtJ 177).1 (mtJ 177).1 ∈ wsG := (t_in5 (List.mem_of_getElem? (i := 202) rfl) rfl)
theorem mn177 : (parseMethodDescriptor (mtJ 177).1.desc).map (fun d => d.parameters.length) = some 3 := by decide +kernel
theorem mo178 : MOk 178 := ⟨(t_in5 (List.mem_of_getElem? (i := 211) rfl) rfl), (t_in1 (List.mem_of_getElem? (i := 11) rfl) rfl), ⟨by decide +kernel, by decide +kernel⟩, by decide +kernel, by decide +kernel⟩
theorem mi178 : Cond.instanceMethod (mtJ 178).1 ∈ wsG := (t_in5 (List.mem_of_getElem? (i := 210) rfl) rfl)
theorem msl178 : Cond.selects "SatchelSinsModel" (mtJ 178).1 (mtJ 178).1 ∈ wsG := t_sel (q := (⟨"SatchelSinsModel", "lies", "(II)Z"⟩, 41)) (List.mem_append_right _ (List.mem_append_right _ (List.mem_append_right _ (List.mem_of_getElem? (i := 14) rfl)))) rfl
theorem mn178 : (parseMethodDescriptor (mtJ 178).1.desc).map (fun d => d.parameters.length) = some 2 := by decide +kernel
theorem mo179 : MOk 179 := ⟨(t_in5 (List.mem_of_getElem? (i := 207) rfl) rfl), (t_in1 (List.mem_of_getElem? (i := 11) rfl) rfl), ⟨by decide +kernel, by decide +kernel⟩, by decide +kernel, by decide +kernel⟩
theorem mi179 : Cond.instanceMethod (mtJ 179).1 ∈ wsG := (t_in5 (List.mem_of_getElem? (i := 205) rfl) rfl)
theorem msl179 : Cond.selects "SatchelSinsModel" (mtJ 179).1 (mtJ 179).1 ∈ wsG := (t_in5 (List.mem_of_getElem? (i := 206) rfl) rfl)
theorem mn179 : (parseMethodDescriptor (mtJ 179).1.desc).map (fun d => d.parameters.length) = some 0 := by decide +kernel
theorem mo180 : MOk 180 := ⟨(t_in5 (List.mem_of_getElem? (i := 215) rfl) rfl), (t_in1 (List.mem_of_getElem? (i := 11) rfl) rfl), ⟨by decide +kernel, by decide +kernel⟩, by decide +kernel, by decide +kernel⟩
theorem mi180 : Cond.instanceMethod (mtJ 180).1 ∈ wsG := (t_in5 (List.mem_of_getElem? (i := 213) rfl) rfl)
theorem msl180 : Cond.selects "SatchelSinsModel" (mtJ 180).1 (mtJ 180).1 ∈ wsG := (t_in5 (List.mem_of_getElem? (i := 214) rfl) rfl)
theorem mn180 : (parseMethodDescriptor (mtJ 180).1.desc).map (fun d => d.parameters.length) = some 2 := by decide +kernel
theorem mo181 : MOk 181 := ⟨(t_in5 (List.mem_of_getElem? (i := 219) rfl) rfl), (t_in1 (List.mem_of_getElem? (i := 11) rfl) rfl), ⟨by decide +kernel, by decide +kernel⟩, by decide +kernel, by decide +kernel⟩
theorem mi181 : Cond.instanceMethod (mtJ 181).1 ∈ wsG := (t_in5 (List.mem_of_getElem? (i := 217) rfl) rfl)
theorem msl181 : Cond.selects "SatchelSinsModel" (mtJ 181).1 (mtJ 181).1 ∈ wsG := (t_in5 (List.mem_of_getElem? (i := 218) rfl) rfl)
theorem mn181 : (parseMethodDescriptor (mtJ 181).1.desc).map (fun d => d.parameters.length) = some 0 := by decide +kernel
theorem mo182 : MOk 182 := ⟨(t_in5 (List.mem_of_getElem? (i := 223) rfl) rfl), (t_in1 (List.mem_of_getElem? (i := 11) rfl) rfl), ⟨by decide +kernel, by decide +kernel⟩, by decide +kernel, by decide +kernel⟩
theorem mi182 : Cond.instanceMethod (mtJ 182).1 ∈ wsG := (t_in5 (List.mem_of_getElem? (i := 221) rfl) rfl)
theorem msl182 : Cond.selects "SatchelSinsModel" (mtJ 182).1 (mtJ 182).1 ∈ wsG := (t_in5 (List.mem_of_getElem? (i := 222) rfl) rfl)
theorem mn182 : (parseMethodDescriptor (mtJ 182).1.desc).map (fun d => d.parameters.length) = some 0 := by decide +kernel
theorem mo183 : MOk 183 := ⟨(t_in5 (List.mem_of_getElem? (i := 227) rfl) rfl), (t_in1 (List.mem_of_getElem? (i := 11) rfl) rfl), ⟨by decide +kernel, by decide +kernel⟩, by decide +kernel, by decide +kernel⟩
theorem mi183 : Cond.instanceMethod (mtJ 183).1 ∈ wsG := (t_in5 (List.mem_of_getElem? (i := 225) rfl) rfl)
theorem msl183 : Cond.selects "SatchelSinsModel" (mtJ 183).1 (mtJ 183).1 ∈ wsG := (t_in5 (List.mem_of_getElem? (i := 226) rfl) rfl)
theorem mn183 : (parseMethodDescriptor (mtJ 183).1.desc).map (fun d => d.parameters.length) = some 1 := by decide +kernel
theorem mo184 : MOk 184 := ⟨(t_in5 (List.mem_of_getElem? (i := 231) rfl) rfl), (t_in1 (List.mem_of_getElem? (i := 11) rfl) rfl), ⟨by decide +kernel, by decide +kernel⟩, by decide +kernel, by decide +kernel⟩
theorem mi184 : Cond.instanceMethod (mtJ 184).1 ∈ wsG := (t_in5 (List.mem_of_getElem? (i := 229) rfl) rfl)
theorem msl184 : Cond.selects "SatchelSinsModel" (mtJ 184).1 (mtJ 184).1 ∈ wsG := (t_in5 (List.mem_of_getElem? (i := 230) rfl) rfl)
theorem mn184 : (parseMethodDescriptor (mtJ 184).1.desc).map (fun d => d.parameters.length) = some 1 := by decide +kernel
theorem mo185 : MOk 185 := ⟨(t_in5 (List.mem_of_getElem? (i := 235) rfl) rfl), (t_in1 (List.mem_of_getElem? (i := 11) rfl) rfl), ⟨by decide +kernel, by decide +kernel⟩, by decide +kernel, by decide +kernel⟩
theorem mi185 : Cond.instanceMethod (mtJ 185).1 ∈ wsG := (t_in5 (List.mem_of_getElem? (i := 233) rfl) rfl)
theorem msl185 : Cond.selects "SatchelSinsModel" (mtJ 185).1 (mtJ 185).1 ∈ wsG := (t_in5 (List.mem_of_getElem? (i := 234) rfl) rfl)
theorem mn185 : (parseMethodDescriptor (mtJ 185).1.desc).map (fun d => d.parameters.length) = some 1 := by decide +kernel
theorem mo186 : MOk 186 := ⟨(t_in1 (List.mem_of_getElem? (i := 124) rfl) rfl), (t_in1 (List.mem_of_getElem? (i := 5) rfl) rfl), ⟨by decide +kernel, by decide +kernel⟩, by decide +kernel, by decide +kernel⟩
theorem ms186 : Cond.static (mtJ 186).1 ∈ wsG := (t_in1 (List.mem_of_getElem? (i := 123) rfl) rfl)
theorem mn186 : (parseMethodDescriptor (mtJ 186).1.desc).map (fun d => d.parameters.length) = some 2 := by decide +kernel
theorem ml8_1 : Cond.methodLink "SatchelSins" 1 Lib.objectInit ∈ wsG := (t_in1 (List.mem_of_getElem? (i := 19) rfl) rfl)
theorem ml8_29 : Cond.methodLink "SatchelSins" 29 (mtJ 46).1 ∈ wsG := (t_in1 (List.mem_of_getElem? (i := 86) rfl) rfl)
theorem ml8_38 : Cond.methodLink "SatchelSins" 38 (mtJ 0).1 ∈ wsG := (t_in1 (List.mem_of_getElem? (i := 114) rfl) rfl)
theorem ml8_60 : Cond.methodLink "SatchelSins" 60 (mtJ 33).1 ∈ wsG := (t_in1 (List.mem_of_getElem? (i := 154) rfl) rfl)
theorem ml8_72 : Cond.methodLink "SatchelSins" 72 (mtJ 73).1 ∈ wsG := (t_in1 (List.mem_of_getElem? (i := 191) rfl) rfl)
theorem ml8_90 : Cond.methodLink "SatchelSins" 90 (mtJ 47).1 ∈ wsG := (t_in2 (List.mem_of_getElem? (i := 75) rfl) rfl)
theorem ml8_94 : Cond.methodLink "SatchelSins" 94 (mtJ 48).1 ∈ wsG := (t_in2 (List.mem_of_getElem? (i := 154) rfl) rfl)
theorem ml8_98 : Cond.methodLink "SatchelSins" 98 (mtJ 63).1 ∈ wsG := (t_in2 (List.mem_of_getElem? (i := 158) rfl) rfl)
theorem ml8_101 : Cond.methodLink "SatchelSins" 101 (mtJ 113).1 ∈ wsG := (t_in2 (List.mem_of_getElem? (i := 165) rfl) rfl)
theorem ml8_113 : Cond.methodLink "SatchelSins" 113 (mtJ 2).1 ∈ wsG := (t_in2 (List.mem_of_getElem? (i := 190) rfl) rfl)
theorem ml8_116 : Cond.methodLink "SatchelSins" 116 (mtJ 3).1 ∈ wsG := (t_in2 (List.mem_of_getElem? (i := 194) rfl) rfl)
theorem ml8_119 : Cond.methodLink "SatchelSins" 119 (mtJ 4).1 ∈ wsG := (t_in2 (List.mem_of_getElem? (i := 198) rfl) rfl)
theorem ml8_122 : Cond.methodLink "SatchelSins" 122 (mtJ 11).1 ∈ wsG := (t_in2 (List.mem_of_getElem? (i := 202) rfl) rfl)
theorem ml8_125 : Cond.methodLink "SatchelSins" 125 (mtJ 12).1 ∈ wsG := (t_in2 (List.mem_of_getElem? (i := 222) rfl) rfl)
theorem ml8_128 : Cond.methodLink "SatchelSins" 128 (mtJ 15).1 ∈ wsG := (t_in2 (List.mem_of_getElem? (i := 230) rfl) rfl)
theorem ml8_131 : Cond.methodLink "SatchelSins" 131 (mtJ 14).1 ∈ wsG := (t_in2 (List.mem_of_getElem? (i := 238) rfl) rfl)
theorem ml8_143 : Cond.methodLink "SatchelSins" 143 (mtJ 66).1 ∈ wsG := (t_in3 (List.mem_of_getElem? (i := 13) rfl) rfl)
theorem ml8_154 : Cond.methodLink "SatchelSins" 154 (mtJ 9).1 ∈ wsG := (t_in3 (List.mem_of_getElem? (i := 15) rfl) rfl)
theorem ml8_157 : Cond.methodLink "SatchelSins" 157 (mtJ 13).1 ∈ wsG := (t_in3 (List.mem_of_getElem? (i := 16) rfl) rfl)
theorem ml8_160 : Cond.methodLink "SatchelSins" 160 (mtJ 17).1 ∈ wsG := (t_in3 (List.mem_of_getElem? (i := 17) rfl) rfl)
theorem ml8_164 : Cond.methodLink "SatchelSins" 164 (mtJ 5).1 ∈ wsG := (t_in3 (List.mem_of_getElem? (i := 25) rfl) rfl)
theorem ml8_170 : Cond.methodLink "SatchelSins" 170 (mtJ 67).1 ∈ wsG := (t_in3 (List.mem_of_getElem? (i := 30) rfl) rfl)
theorem ml8_179 : Cond.methodLink "SatchelSins" 179 (mtJ 6).1 ∈ wsG := (t_in3 (List.mem_of_getElem? (i := 34) rfl) rfl)
theorem ml8_182 : Cond.methodLink "SatchelSins" 182 (mtJ 7).1 ∈ wsG := (t_in3 (List.mem_of_getElem? (i := 35) rfl) rfl)
theorem ml8_185 : Cond.methodLink "SatchelSins" 185 (mtJ 19).1 ∈ wsG := (t_in3 (List.mem_of_getElem? (i := 40) rfl) rfl)
theorem ml8_192 : Cond.methodLink "SatchelSins" 192 (mtJ 43).1 ∈ wsG := (t_in3 (List.mem_of_getElem? (i := 45) rfl) rfl)
theorem ml8_196 : Cond.methodLink "SatchelSins" 196 (mtJ 24).1 ∈ wsG := (t_in3 (List.mem_of_getElem? (i := 51) rfl) rfl)
theorem ml8_200 : Cond.methodLink "SatchelSins" 200 (mtJ 20).1 ∈ wsG := (t_in3 (List.mem_of_getElem? (i := 63) rfl) rfl)
theorem ml8_204 : Cond.methodLink "SatchelSins" 204 (mtJ 25).1 ∈ wsG := (t_in3 (List.mem_of_getElem? (i := 67) rfl) rfl)
theorem ml8_208 : Cond.methodLink "SatchelSins" 208 (mtJ 22).1 ∈ wsG := (t_in3 (List.mem_of_getElem? (i := 72) rfl) rfl)
theorem ml8_211 : Cond.methodLink "SatchelSins" 211 (mtJ 26).1 ∈ wsG := (t_in3 (List.mem_of_getElem? (i := 76) rfl) rfl)
theorem ml8_214 : Cond.methodLink "SatchelSins" 214 (mtJ 21).1 ∈ wsG := (t_in3 (List.mem_of_getElem? (i := 84) rfl) rfl)
theorem ml8_217 : Cond.methodLink "SatchelSins" 217 (mtJ 27).1 ∈ wsG := (t_in3 (List.mem_of_getElem? (i := 89) rfl) rfl)
theorem ml8_224 : Cond.methodLink "SatchelSins" 224 (mtJ 29).1 ∈ wsG := (t_in3 (List.mem_of_getElem? (i := 99) rfl) rfl)
theorem ml8_227 : Cond.methodLink "SatchelSins" 227 (mtJ 28).1 ∈ wsG := (t_in3 (List.mem_of_getElem? (i := 108) rfl) rfl)
theorem ml8_230 : Cond.methodLink "SatchelSins" 230 (mtJ 115).1 ∈ wsG := (t_in3 (List.mem_of_getElem? (i := 116) rfl) rfl)
theorem ml8_233 : Cond.methodLink "SatchelSins" 233 (mtJ 44).1 ∈ wsG := (t_in3 (List.mem_of_getElem? (i := 136) rfl) rfl)
theorem ml8_236 : Cond.methodLink "SatchelSins" 236 (mtJ 114).1 ∈ wsG := (t_in3 (List.mem_of_getElem? (i := 144) rfl) rfl)
theorem ml8_240 : Cond.methodLink "SatchelSins" 240 (mtJ 23).1 ∈ wsG := (t_in3 (List.mem_of_getElem? (i := 190) rfl) rfl)
theorem ml8_243 : Cond.methodLink "SatchelSins" 243 (mtJ 74).1 ∈ wsG := (t_in3 (List.mem_of_getElem? (i := 199) rfl) rfl)
theorem ml8_255 : Cond.methodLink "SatchelSins" 255 (mtJ 75).1 ∈ wsG := (t_in3 (List.mem_of_getElem? (i := 212) rfl) rfl)
theorem ml8_258 : Cond.methodLink "SatchelSins" 258 (mtJ 71).1 ∈ wsG := (t_in3 (List.mem_of_getElem? (i := 221) rfl) rfl)
theorem ml8_261 : Cond.methodLink "SatchelSins" 261 (mtJ 72).1 ∈ wsG := (t_in3 (List.mem_of_getElem? (i := 225) rfl) rfl)
theorem ml8_268 : Cond.methodLink "SatchelSins" 268 (mtJ 80).1 ∈ wsG := (t_in4 (List.mem_of_getElem? (i := 0) rfl) rfl)
theorem ml8_272 : Cond.methodLink "SatchelSins" 272 (mtJ 82).1 ∈ wsG := (t_in4 (List.mem_of_getElem? (i := 8) rfl) rfl)
theorem ml8_276 : Cond.methodLink "SatchelSins" 276 (mtJ 81).1 ∈ wsG := (t_in4 (List.mem_of_getElem? (i := 20) rfl) rfl)
theorem ml8_279 : Cond.methodLink "SatchelSins" 279 (mtJ 79).1 ∈ wsG := (t_in2 (List.mem_of_getElem? (i := 174) rfl) rfl)
theorem ml8_282 : Cond.methodLink "SatchelSins" 282 (mtJ 83).1 ∈ wsG := (t_in4 (List.mem_of_getElem? (i := 32) rfl) rfl)
theorem ml8_288 : Cond.methodLink "SatchelSins" 288 (mtJ 31).1 ∈ wsG := (t_in4 (List.mem_of_getElem? (i := 45) rfl) rfl)
theorem ml8_292 : Cond.methodLink "SatchelSins" 292 (mtJ 45).1 ∈ wsG := (t_in2 (List.mem_of_getElem? (i := 170) rfl) rfl)
theorem ml8_296 : Cond.methodLink "SatchelSins" 296 (mtJ 32).1 ∈ wsG := (t_in4 (List.mem_of_getElem? (i := 54) rfl) rfl)
theorem ml8_300 : Cond.methodLink "SatchelSins" 300 (mtJ 1).1 ∈ wsG := (t_in2 (List.mem_of_getElem? (i := 169) rfl) rfl)
theorem ml8_301 : Cond.methodLink "SatchelSins" 301 (mtJ 34).1 ∈ wsG := (t_in2 (List.mem_of_getElem? (i := 178) rfl) rfl)
theorem ml8_304 : Cond.methodLink "SatchelSins" 304 (mtJ 35).1 ∈ wsG := (t_in3 (List.mem_of_getElem? (i := 148) rfl) rfl)
theorem ml8_307 : Cond.methodLink "SatchelSins" 307 (mtJ 36).1 ∈ wsG := (t_in3 (List.mem_of_getElem? (i := 178) rfl) rfl)
theorem ml8_310 : Cond.methodLink "SatchelSins" 310 (mtJ 116).1 ∈ wsG := (t_in3 (List.mem_of_getElem? (i := 120) rfl) rfl)
theorem ml8_313 : Cond.methodLink "SatchelSins" 313 (mtJ 68).1 ∈ wsG := (t_in3 (List.mem_of_getElem? (i := 128) rfl) rfl)
theorem ml0_5 : Cond.methodLink "SatchelSins$Day" 5 Lib.objectInit ∈ wsG := (t_in1 (List.mem_of_getElem? (i := 117) rfl) rfl)
theorem ml0_19 : Cond.methodLink "SatchelSins$Day" 19 (mtJ 1).1 ∈ wsG := (t_in1 (List.mem_of_getElem? (i := 118) rfl) rfl)
theorem ml0_22 : Cond.methodLink "SatchelSins$Day" 22 (mtJ 186).1 ∈ wsG := (t_in1 (List.mem_of_getElem? (i := 122) rfl) rfl)
theorem ml0_34 : Cond.methodLink "SatchelSins$Day" 34 (mtJ 8).1 ∈ wsG := (t_in2 (List.mem_of_getElem? (i := 214) rfl) rfl)
theorem ml0_38 : Cond.methodLink "SatchelSins$Day" 38 (mtJ 7).1 ∈ wsG := (t_in2 (List.mem_of_getElem? (i := 218) rfl) rfl)
theorem ml0_45 : Cond.methodLink "SatchelSins$Day" 45 (mtJ 9).1 ∈ wsG := (t_in2 (List.mem_of_getElem? (i := 210) rfl) rfl)
theorem ml0_54 : Cond.methodLink "SatchelSins$Day" 54 (mtJ 10).1 ∈ wsG := (t_in2 (List.mem_of_getElem? (i := 206) rfl) rfl)
theorem ml0_57 : Cond.methodLink "SatchelSins$Day" 57 (mtJ 5).1 ∈ wsG := (t_in2 (List.mem_of_getElem? (i := 226) rfl) rfl)
theorem ml0_60 : Cond.methodLink "SatchelSins$Day" 60 Lib.Math.max.name ∈ wsG := (t_in3 (List.mem_of_getElem? (i := 6) rfl) rfl)
theorem ml0_69 : Cond.methodLink "SatchelSins$Day" 69 (mtJ 13).1 ∈ wsG := (t_in3 (List.mem_of_getElem? (i := 2) rfl) rfl)
theorem ml0_72 : Cond.methodLink "SatchelSins$Day" 72 (mtJ 16).1 ∈ wsG := (t_in2 (List.mem_of_getElem? (i := 234) rfl) rfl)
theorem ml0_78 : Cond.methodLink "SatchelSins$Day" 78 (mtJ 6).1 ∈ wsG := (t_in3 (List.mem_of_getElem? (i := 21) rfl) rfl)
theorem ml0_81 : Cond.methodLink "SatchelSins$Day" 81 (mtJ 3).1 ∈ wsG := (t_in3 (List.mem_of_getElem? (i := 88) rfl) rfl)
theorem ml0_88 : Cond.methodLink "SatchelSins$Day" 88 (mtJ 22).1 ∈ wsG := (t_in3 (List.mem_of_getElem? (i := 194) rfl) rfl)
theorem ml0_92 : Cond.methodLink "SatchelSins$Day" 92 (mtJ 25).1 ∈ wsG := (t_in3 (List.mem_of_getElem? (i := 55) rfl) rfl)
theorem ml0_97 : Cond.methodLink "SatchelSins$Day" 97 Lib.Math.min.name ∈ wsG := (t_in3 (List.mem_of_getElem? (i := 94) rfl) rfl)
theorem ml0_100 : Cond.methodLink "SatchelSins$Day" 100 (mtJ 11).1 ∈ wsG := (t_in3 (List.mem_of_getElem? (i := 103) rfl) rfl)
theorem ml1_1 : Cond.methodLink "SatchelSins$Image" 1 Lib.objectInit ∈ wsG := (t_in2 (List.mem_of_getElem? (i := 9) rfl) rfl)
theorem ml1_15 : Cond.methodLink "SatchelSins$Image" 15 arraycopyName ∈ wsG := (t_in4 (List.mem_of_getElem? (i := 49) rfl) rfl)
theorem ml2_3 : Cond.methodLink "SatchelSins$Packing" 3 Lib.objectInit ∈ wsG := (t_in1 (List.mem_of_getElem? (i := 157) rfl) rfl)
theorem ml2_39 : Cond.methodLink "SatchelSins$Packing" 39 (mtJ 37).1 ∈ wsG := (t_in3 (List.mem_of_getElem? (i := 152) rfl) rfl)
theorem ml2_46 : Cond.methodLink "SatchelSins$Packing" 46 (mtJ 39).1 ∈ wsG := (t_in3 (List.mem_of_getElem? (i := 156) rfl) rfl)
theorem ml2_50 : Cond.methodLink "SatchelSins$Packing" 50 (mtJ 40).1 ∈ wsG := (t_in3 (List.mem_of_getElem? (i := 160) rfl) rfl)
theorem ml2_54 : Cond.methodLink "SatchelSins$Packing" 54 (mtJ 186).1 ∈ wsG := (t_in3 (List.mem_of_getElem? (i := 167) rfl) rfl)
theorem ml2_60 : Cond.methodLink "SatchelSins$Packing" 60 (mtJ 38).1 ∈ wsG := (t_in3 (List.mem_of_getElem? (i := 168) rfl) rfl)
theorem ml2_72 : Cond.methodLink "SatchelSins$Packing" 72 (mtJ 41).1 ∈ wsG := (t_in3 (List.mem_of_getElem? (i := 173) rfl) rfl)
theorem ml2_82 : Cond.methodLink "SatchelSins$Packing" 82 Lib.Math.max.name ∈ wsG := (t_in3 (List.mem_of_getElem? (i := 172) rfl) rfl)
theorem ml2_88 : Cond.methodLink "SatchelSins$Packing" 88 (mtJ 67).1 ∈ wsG := (t_in3 (List.mem_of_getElem? (i := 164) rfl) rfl)
theorem ml2_92 : Cond.methodLink "SatchelSins$Packing" 92 (mtJ 8).1 ∈ wsG := (t_in3 (List.mem_of_getElem? (i := 165) rfl) rfl)
theorem ml2_97 : Cond.methodLink "SatchelSins$Packing" 97 (mtJ 7).1 ∈ wsG := (t_in3 (List.mem_of_getElem? (i := 166) rfl) rfl)
theorem ml2_100 : Cond.methodLink "SatchelSins$Packing" 100 arraycopyName ∈ wsG := (t_in3 (List.mem_of_getElem? (i := 177) rfl) rfl)
theorem ml3_3 : Cond.methodLink "SatchelSins$Past" 3 Lib.objectInit ∈ wsG := (t_in1 (List.mem_of_getElem? (i := 138) rfl) rfl)
theorem ml3_21 : Cond.methodLink "SatchelSins$Past" 21 arraycopyName ∈ wsG := (t_in3 (List.mem_of_getElem? (i := 49) rfl) rfl)
theorem ml3_30 : Cond.methodLink "SatchelSins$Past" 30 Lib.Math.min.name ∈ wsG := (t_in3 (List.mem_of_getElem? (i := 50) rfl) rfl)
theorem ml4_3 : Cond.methodLink "SatchelSins$Reader" 3 Lib.objectInit ∈ wsG := (t_in1 (List.mem_of_getElem? (i := 89) rfl) rfl)
theorem ml4_19 : Cond.methodLink "SatchelSins$Reader" 19 Lib.Math.min.name ∈ wsG := (t_in2 (List.mem_of_getElem? (i := 79) rfl) rfl)
theorem ml4_38 : Cond.methodLink "SatchelSins$Reader" 38 (mtJ 62).1 ∈ wsG := (t_in2 (List.mem_of_getElem? (i := 82) rfl) rfl)
theorem ml4_43 : Cond.methodLink "SatchelSins$Reader" 43 (mtJ 58).1 ∈ wsG := (t_in2 (List.mem_of_getElem? (i := 86) rfl) rfl)
theorem ml4_46 : Cond.methodLink "SatchelSins$Reader" 46 (mtJ 49).1 ∈ wsG := (t_in2 (List.mem_of_getElem? (i := 94) rfl) rfl)
theorem ml4_49 : Cond.methodLink "SatchelSins$Reader" 49 (mtJ 59).1 ∈ wsG := (t_in2 (List.mem_of_getElem? (i := 90) rfl) rfl)
theorem ml4_57 : Cond.methodLink "SatchelSins$Reader" 57 (mtJ 60).1 ∈ wsG := (t_in2 (List.mem_of_getElem? (i := 98) rfl) rfl)
theorem ml4_61 : Cond.methodLink "SatchelSins$Reader" 61 (mtJ 50).1 ∈ wsG := (t_in2 (List.mem_of_getElem? (i := 102) rfl) rfl)
theorem ml4_64 : Cond.methodLink "SatchelSins$Reader" 64 (mtJ 51).1 ∈ wsG := (t_in2 (List.mem_of_getElem? (i := 122) rfl) rfl)
theorem ml4_67 : Cond.methodLink "SatchelSins$Reader" 67 (mtJ 52).1 ∈ wsG := (t_in2 (List.mem_of_getElem? (i := 130) rfl) rfl)
theorem ml4_70 : Cond.methodLink "SatchelSins$Reader" 70 (mtJ 53).1 ∈ wsG := (t_in2 (List.mem_of_getElem? (i := 138) rfl) rfl)
theorem ml4_73 : Cond.methodLink "SatchelSins$Reader" 73 (mtJ 54).1 ∈ wsG := (t_in2 (List.mem_of_getElem? (i := 106) rfl) rfl)
theorem ml4_77 : Cond.methodLink "SatchelSins$Reader" 77 (mtJ 56).1 ∈ wsG := (t_in2 (List.mem_of_getElem? (i := 110) rfl) rfl)
theorem ml4_80 : Cond.methodLink "SatchelSins$Reader" 80 (mtJ 55).1 ∈ wsG := (t_in2 (List.mem_of_getElem? (i := 118) rfl) rfl)
theorem ml4_89 : Cond.methodLink "SatchelSins$Reader" 89 (mtJ 64).1 ∈ wsG := (t_in2 (List.mem_of_getElem? (i := 126) rfl) rfl)
theorem ml4_95 : Cond.methodLink "SatchelSins$Reader" 95 (mtJ 65).1 ∈ wsG := (t_in2 (List.mem_of_getElem? (i := 134) rfl) rfl)
theorem ml4_98 : Cond.methodLink "SatchelSins$Reader" 98 (mtJ 69).1 ∈ wsG := (t_in2 (List.mem_of_getElem? (i := 142) rfl) rfl)
theorem ml4_108 : Cond.methodLink "SatchelSins$Reader" 108 (mtJ 57).1 ∈ wsG := (t_in2 (List.mem_of_getElem? (i := 114) rfl) rfl)
theorem ml5_3 : Cond.methodLink "SatchelSins$Roll" 3 Lib.objectInit ∈ wsG := (t_in1 (List.mem_of_getElem? (i := 27) rfl) rfl)
theorem ml5_41 : Cond.methodLink "SatchelSins$Roll" 41 arraycopyName ∈ wsG := (t_in2 (List.mem_of_getElem? (i := 162) rfl) rfl)
theorem ml5_47 : Cond.methodLink "SatchelSins$Roll" 47 (mtJ 66).1 ∈ wsG := (t_in2 (List.mem_of_getElem? (i := 150) rfl) rfl)
theorem ml5_51 : Cond.methodLink "SatchelSins$Roll" 51 (mtJ 70).1 ∈ wsG := (t_in2 (List.mem_of_getElem? (i := 146) rfl) rfl)
theorem ml5_55 : Cond.methodLink "SatchelSins$Roll" 55 (mtJ 71).1 ∈ wsG := (t_in3 (List.mem_of_getElem? (i := 229) rfl) rfl)
theorem ml6_3 : Cond.methodLink "SatchelSins$Scale" 3 Lib.objectInit ∈ wsG := (t_in1 (List.mem_of_getElem? (i := 194) rfl) rfl)
theorem ml6_29 : Cond.methodLink "SatchelSins$Scale" 29 (mtJ 186).1 ∈ wsG := (t_in3 (List.mem_of_getElem? (i := 203) rfl) rfl)
theorem ml6_40 : Cond.methodLink "SatchelSins$Scale" 40 (mtJ 76).1 ∈ wsG := (t_in3 (List.mem_of_getElem? (i := 204) rfl) rfl)
theorem ml6_44 : Cond.methodLink "SatchelSins$Scale" 44 (mtJ 77).1 ∈ wsG := (t_in3 (List.mem_of_getElem? (i := 208) rfl) rfl)
theorem ml6_48 : Cond.methodLink "SatchelSins$Scale" 48 Lib.Math.max.name ∈ wsG := (t_in3 (List.mem_of_getElem? (i := 216) rfl) rfl)
theorem ml7_3 : Cond.methodLink "SatchelSins$Slate" 3 Lib.objectInit ∈ wsG := (t_in1 (List.mem_of_getElem? (i := 219) rfl) rfl)
theorem ml7_35 : Cond.methodLink "SatchelSins$Slate" 35 (mtJ 18).1 ∈ wsG := (t_in4 (List.mem_of_getElem? (i := 12) rfl) rfl)
theorem ml7_41 : Cond.methodLink "SatchelSins$Slate" 41 (mtJ 9).1 ∈ wsG := (t_in4 (List.mem_of_getElem? (i := 36) rfl) rfl)
theorem mlL_9 : Cond.methodLink "SatchelSinsLaw" 9 (mtJ 84).1 ∈ wsG := (t_in1 (List.mem_of_getElem? (i := 16) rfl) rfl)
theorem mlL_12 : Cond.methodLink "SatchelSinsLaw" 12 (mtJ 117).1 ∈ wsG := (t_in4 (List.mem_of_getElem? (i := 60) rfl) rfl)
theorem mlL_13 : Cond.methodLink "SatchelSinsLaw" 13 (mtJ 85).1 ∈ wsG := (t_in2 (List.mem_of_getElem? (i := 65) rfl) rfl)
theorem mlL_17 : Cond.methodLink "SatchelSinsLaw" 17 (mtJ 122).1 ∈ wsG := (t_in4 (List.mem_of_getElem? (i := 188) rfl) rfl)
theorem mlL_18 : Cond.methodLink "SatchelSinsLaw" 18 (mtJ 86).1 ∈ wsG := (t_in2 (List.mem_of_getElem? (i := 71) rfl) rfl)
theorem mlL_22 : Cond.methodLink "SatchelSinsLaw" 22 (mtJ 133).1 ∈ wsG := (t_in4 (List.mem_of_getElem? (i := 198) rfl) rfl)
theorem mlL_23 : Cond.methodLink "SatchelSinsLaw" 23 (mtJ 87).1 ∈ wsG := (t_in2 (List.mem_of_getElem? (i := 182) rfl) rfl)
theorem mlL_26 : Cond.methodLink "SatchelSinsLaw" 26 (mtJ 134).1 ∈ wsG := (t_in5 (List.mem_of_getElem? (i := 4) rfl) rfl)
theorem mlL_27 : Cond.methodLink "SatchelSinsLaw" 27 (mtJ 88).1 ∈ wsG := (t_in2 (List.mem_of_getElem? (i := 186) rfl) rfl)
theorem mlL_30 : Cond.methodLink "SatchelSinsLaw" 30 (mtJ 143).1 ∈ wsG := (t_in5 (List.mem_of_getElem? (i := 8) rfl) rfl)
theorem mlL_31 : Cond.methodLink "SatchelSinsLaw" 31 (mtJ 89).1 ∈ wsG := (t_in3 (List.mem_of_getElem? (i := 9) rfl) rfl)
theorem mlL_35 : Cond.methodLink "SatchelSinsLaw" 35 (mtJ 144).1 ∈ wsG := (t_in5 (List.mem_of_getElem? (i := 40) rfl) rfl)
theorem mlL_36 : Cond.methodLink "SatchelSinsLaw" 36 (mtJ 90).1 ∈ wsG := (t_in3 (List.mem_of_getElem? (i := 26) rfl) rfl)
theorem mlL_39 : Cond.methodLink "SatchelSinsLaw" 39 (mtJ 145).1 ∈ wsG := (t_in5 (List.mem_of_getElem? (i := 53) rfl) rfl)
theorem mlL_40 : Cond.methodLink "SatchelSinsLaw" 40 (mtJ 91).1 ∈ wsG := (t_in3 (List.mem_of_getElem? (i := 36) rfl) rfl)
theorem mlL_43 : Cond.methodLink "SatchelSinsLaw" 43 (mtJ 148).1 ∈ wsG := (t_in5 (List.mem_of_getElem? (i := 61) rfl) rfl)
theorem mlL_44 : Cond.methodLink "SatchelSinsLaw" 44 (mtJ 92).1 ∈ wsG := (t_in3 (List.mem_of_getElem? (i := 59) rfl) rfl)
theorem mlL_47 : Cond.methodLink "SatchelSinsLaw" 47 (mtJ 149).1 ∈ wsG := (t_in5 (List.mem_of_getElem? (i := 74) rfl) rfl)
theorem mlL_48 : Cond.methodLink "SatchelSinsLaw" 48 (mtJ 93).1 ∈ wsG := (t_in3 (List.mem_of_getElem? (i := 68) rfl) rfl)
theorem mlL_51 : Cond.methodLink "SatchelSinsLaw" 51 (mtJ 151).1 ∈ wsG := (t_in5 (List.mem_of_getElem? (i := 78) rfl) rfl)
theorem mlL_52 : Cond.methodLink "SatchelSinsLaw" 52 (mtJ 94).1 ∈ wsG := (t_in3 (List.mem_of_getElem? (i := 80) rfl) rfl)
theorem mlL_55 : Cond.methodLink "SatchelSinsLaw" 55 (mtJ 154).1 ∈ wsG := (t_in5 (List.mem_of_getElem? (i := 86) rfl) rfl)
theorem mlL_56 : Cond.methodLink "SatchelSinsLaw" 56 (mtJ 95).1 ∈ wsG := (t_in3 (List.mem_of_getElem? (i := 95) rfl) rfl)
theorem mlL_59 : Cond.methodLink "SatchelSinsLaw" 59 (mtJ 156).1 ∈ wsG := (t_in5 (List.mem_of_getElem? (i := 99) rfl) rfl)
theorem mlL_60 : Cond.methodLink "SatchelSinsLaw" 60 (mtJ 96).1 ∈ wsG := (t_in3 (List.mem_of_getElem? (i := 104) rfl) rfl)
theorem mlL_63 : Cond.methodLink "SatchelSinsLaw" 63 (mtJ 157).1 ∈ wsG := (t_in5 (List.mem_of_getElem? (i := 107) rfl) rfl)
theorem mlL_64 : Cond.methodLink "SatchelSinsLaw" 64 (mtJ 97).1 ∈ wsG := (t_in3 (List.mem_of_getElem? (i := 112) rfl) rfl)
theorem mlL_67 : Cond.methodLink "SatchelSinsLaw" 67 (mtJ 160).1 ∈ wsG := (t_in5 (List.mem_of_getElem? (i := 111) rfl) rfl)
theorem mlL_68 : Cond.methodLink "SatchelSinsLaw" 68 (mtJ 98).1 ∈ wsG := (t_in3 (List.mem_of_getElem? (i := 132) rfl) rfl)
theorem mlL_71 : Cond.methodLink "SatchelSinsLaw" 71 (mtJ 161).1 ∈ wsG := (t_in5 (List.mem_of_getElem? (i := 128) rfl) rfl)
theorem mlL_72 : Cond.methodLink "SatchelSinsLaw" 72 (mtJ 99).1 ∈ wsG := (t_in3 (List.mem_of_getElem? (i := 140) rfl) rfl)
theorem mlL_75 : Cond.methodLink "SatchelSinsLaw" 75 (mtJ 167).1 ∈ wsG := (t_in5 (List.mem_of_getElem? (i := 132) rfl) rfl)
theorem mlL_76 : Cond.methodLink "SatchelSinsLaw" 76 (mtJ 100).1 ∈ wsG := (t_in3 (List.mem_of_getElem? (i := 182) rfl) rfl)
theorem mlL_79 : Cond.methodLink "SatchelSinsLaw" 79 (mtJ 168).1 ∈ wsG := (t_in5 (List.mem_of_getElem? (i := 153) rfl) rfl)
theorem mlL_80 : Cond.methodLink "SatchelSinsLaw" 80 (mtJ 101).1 ∈ wsG := (t_in3 (List.mem_of_getElem? (i := 186) rfl) rfl)
theorem mlL_83 : Cond.methodLink "SatchelSinsLaw" 83 (mtJ 170).1 ∈ wsG := (t_in5 (List.mem_of_getElem? (i := 161) rfl) rfl)
theorem mlL_84 : Cond.methodLink "SatchelSinsLaw" 84 (mtJ 102).1 ∈ wsG := (t_in3 (List.mem_of_getElem? (i := 195) rfl) rfl)
theorem mlL_87 : Cond.methodLink "SatchelSinsLaw" 87 (mtJ 173).1 ∈ wsG := (t_in5 (List.mem_of_getElem? (i := 169) rfl) rfl)
theorem mlL_88 : Cond.methodLink "SatchelSinsLaw" 88 (mtJ 103).1 ∈ wsG := (t_in3 (List.mem_of_getElem? (i := 217) rfl) rfl)
theorem mlL_91 : Cond.methodLink "SatchelSinsLaw" 91 (mtJ 175).1 ∈ wsG := (t_in5 (List.mem_of_getElem? (i := 186) rfl) rfl)
theorem mlL_92 : Cond.methodLink "SatchelSinsLaw" 92 (mtJ 104).1 ∈ wsG := (t_in3 (List.mem_of_getElem? (i := 230) rfl) rfl)
theorem mlL_95 : Cond.methodLink "SatchelSinsLaw" 95 (mtJ 176).1 ∈ wsG := (t_in5 (List.mem_of_getElem? (i := 194) rfl) rfl)
theorem mlL_96 : Cond.methodLink "SatchelSinsLaw" 96 (mtJ 105).1 ∈ wsG := (t_in3 (List.mem_of_getElem? (i := 236) rfl) rfl)
theorem mlL_100 : Cond.methodLink "SatchelSinsLaw" 100 (mtJ 177).1 ∈ wsG := (t_in5 (List.mem_of_getElem? (i := 200) rfl) rfl)
theorem mlL_101 : Cond.methodLink "SatchelSinsLaw" 101 (mtJ 106).1 ∈ wsG := (t_in4 (List.mem_of_getElem? (i := 4) rfl) rfl)
theorem mlL_104 : Cond.methodLink "SatchelSinsLaw" 104 (mtJ 179).1 ∈ wsG := (t_in5 (List.mem_of_getElem? (i := 204) rfl) rfl)
theorem mlL_105 : Cond.methodLink "SatchelSinsLaw" 105 (mtJ 107).1 ∈ wsG := (t_in4 (List.mem_of_getElem? (i := 16) rfl) rfl)
theorem mlL_108 : Cond.methodLink "SatchelSinsLaw" 108 (mtJ 180).1 ∈ wsG := (t_in5 (List.mem_of_getElem? (i := 212) rfl) rfl)
theorem mlL_109 : Cond.methodLink "SatchelSinsLaw" 109 (mtJ 108).1 ∈ wsG := (t_in4 (List.mem_of_getElem? (i := 24) rfl) rfl)
theorem mlL_112 : Cond.methodLink "SatchelSinsLaw" 112 (mtJ 181).1 ∈ wsG := (t_in5 (List.mem_of_getElem? (i := 216) rfl) rfl)
theorem mlL_113 : Cond.methodLink "SatchelSinsLaw" 113 (mtJ 109).1 ∈ wsG := (t_in4 (List.mem_of_getElem? (i := 28) rfl) rfl)
theorem mlL_116 : Cond.methodLink "SatchelSinsLaw" 116 (mtJ 182).1 ∈ wsG := (t_in5 (List.mem_of_getElem? (i := 220) rfl) rfl)
theorem mlL_117 : Cond.methodLink "SatchelSinsLaw" 117 (mtJ 110).1 ∈ wsG := (t_in4 (List.mem_of_getElem? (i := 37) rfl) rfl)
theorem mlL_120 : Cond.methodLink "SatchelSinsLaw" 120 (mtJ 183).1 ∈ wsG := (t_in5 (List.mem_of_getElem? (i := 224) rfl) rfl)
theorem mlL_121 : Cond.methodLink "SatchelSinsLaw" 121 (mtJ 111).1 ∈ wsG := (t_in4 (List.mem_of_getElem? (i := 41) rfl) rfl)
theorem mlL_124 : Cond.methodLink "SatchelSinsLaw" 124 (mtJ 184).1 ∈ wsG := (t_in5 (List.mem_of_getElem? (i := 228) rfl) rfl)
theorem mlL_125 : Cond.methodLink "SatchelSinsLaw" 125 (mtJ 112).1 ∈ wsG := (t_in4 (List.mem_of_getElem? (i := 50) rfl) rfl)
theorem mlL_128 : Cond.methodLink "SatchelSinsLaw" 128 (mtJ 185).1 ∈ wsG := (t_in5 (List.mem_of_getElem? (i := 232) rfl) rfl)
theorem ml9_1 : Cond.methodLink "SatchelSinsModel" 1 Lib.objectInit ∈ wsG := (t_in4 (List.mem_of_getElem? (i := 63) rfl) rfl)
theorem ml9_94 : Cond.methodLink "SatchelSinsModel" 94 (mtJ 118).1 ∈ wsG := (t_in4 (List.mem_of_getElem? (i := 193) rfl) rfl)
theorem ml9_111 : Cond.methodLink "SatchelSinsModel" 111 (mtJ 123).1 ∈ wsG := (t_in4 (List.mem_of_getElem? (i := 202) rfl) rfl)
theorem ml9_119 : Cond.methodLink "SatchelSinsModel" 119 (mtJ 124).1 ∈ wsG := (t_in4 (List.mem_of_getElem? (i := 210) rfl) rfl)
theorem ml9_129 : Cond.methodLink "SatchelSinsModel" 129 (mtJ 125).1 ∈ wsG := (t_in4 (List.mem_of_getElem? (i := 218) rfl) rfl)
theorem ml9_141 : Cond.methodLink "SatchelSinsModel" 141 (mtJ 126).1 ∈ wsG := (t_in4 (List.mem_of_getElem? (i := 228) rfl) rfl)
theorem ml9_148 : Cond.methodLink "SatchelSinsModel" 148 (mtJ 127).1 ∈ wsG := (t_in4 (List.mem_of_getElem? (i := 214) rfl) rfl)
theorem ml9_151 : Cond.methodLink "SatchelSinsModel" 151 (mtJ 128).1 ∈ wsG := (t_in4 (List.mem_of_getElem? (i := 224) rfl) rfl)
theorem ml9_154 : Cond.methodLink "SatchelSinsModel" 154 (mtJ 129).1 ∈ wsG := (t_in4 (List.mem_of_getElem? (i := 232) rfl) rfl)
theorem ml9_157 : Cond.methodLink "SatchelSinsModel" 157 (mtJ 130).1 ∈ wsG := (t_in4 (List.mem_of_getElem? (i := 236) rfl) rfl)
theorem ml9_163 : Cond.methodLink "SatchelSinsModel" 163 (mtJ 131).1 ∈ wsG := (t_in4 (List.mem_of_getElem? (i := 206) rfl) rfl)
theorem ml9_166 : Cond.methodLink "SatchelSinsModel" 166 (mtJ 132).1 ∈ wsG := (t_in5 (List.mem_of_getElem? (i := 0) rfl) rfl)
theorem ml9_178 : Cond.methodLink "SatchelSinsModel" 178 (mtJ 135).1 ∈ wsG := (t_in5 (List.mem_of_getElem? (i := 20) rfl) rfl)
theorem ml9_182 : Cond.methodLink "SatchelSinsModel" 182 (mtJ 137).1 ∈ wsG := (t_in5 (List.mem_of_getElem? (i := 16) rfl) rfl)
theorem ml9_186 : Cond.methodLink "SatchelSinsModel" 186 (mtJ 138).1 ∈ wsG := (t_in5 (List.mem_of_getElem? (i := 36) rfl) rfl)
theorem ml9_189 : Cond.methodLink "SatchelSinsModel" 189 (mtJ 139).1 ∈ wsG := (t_in5 (List.mem_of_getElem? (i := 12) rfl) rfl)
theorem ml9_192 : Cond.methodLink "SatchelSinsModel" 192 (mtJ 140).1 ∈ wsG := (t_in5 (List.mem_of_getElem? (i := 24) rfl) rfl)
theorem ml9_195 : Cond.methodLink "SatchelSinsModel" 195 (mtJ 141).1 ∈ wsG := (t_in5 (List.mem_of_getElem? (i := 28) rfl) rfl)
theorem ml9_198 : Cond.methodLink "SatchelSinsModel" 198 (mtJ 142).1 ∈ wsG := (t_in5 (List.mem_of_getElem? (i := 32) rfl) rfl)
theorem ml9_201 : Cond.methodLink "SatchelSinsModel" 201 (mtJ 120).1 ∈ wsG := (t_in5 (List.mem_of_getElem? (i := 44) rfl) rfl)
theorem ml9_206 : Cond.methodLink "SatchelSinsModel" 206 (mtJ 136).1 ∈ wsG := (t_in5 (List.mem_of_getElem? (i := 49) rfl) rfl)
theorem ml9_209 : Cond.methodLink "SatchelSinsModel" 209 (mtJ 121).1 ∈ wsG := (t_in5 (List.mem_of_getElem? (i := 57) rfl) rfl)
theorem ml9_213 : Cond.methodLink "SatchelSinsModel" 213 (mtJ 146).1 ∈ wsG := (t_in5 (List.mem_of_getElem? (i := 66) rfl) rfl)
theorem ml9_216 : Cond.methodLink "SatchelSinsModel" 216 (mtJ 147).1 ∈ wsG := (t_in5 (List.mem_of_getElem? (i := 70) rfl) rfl)
theorem ml9_220 : Cond.methodLink "SatchelSinsModel" 220 (mtJ 150).1 ∈ wsG := (t_in5 (List.mem_of_getElem? (i := 82) rfl) rfl)
theorem ml9_225 : Cond.methodLink "SatchelSinsModel" 225 (mtJ 152).1 ∈ wsG := (t_in5 (List.mem_of_getElem? (i := 90) rfl) rfl)
theorem ml9_228 : Cond.methodLink "SatchelSinsModel" 228 (mtJ 153).1 ∈ wsG := (t_in5 (List.mem_of_getElem? (i := 94) rfl) rfl)
theorem ml9_232 : Cond.methodLink "SatchelSinsModel" 232 (mtJ 155).1 ∈ wsG := (t_in5 (List.mem_of_getElem? (i := 103) rfl) rfl)
theorem ml9_245 : Cond.methodLink "SatchelSinsModel" 245 (mtJ 158).1 ∈ wsG := (t_in5 (List.mem_of_getElem? (i := 120) rfl) rfl)
theorem ml9_250 : Cond.methodLink "SatchelSinsModel" 250 (mtJ 159).1 ∈ wsG := (t_in5 (List.mem_of_getElem? (i := 116) rfl) rfl)
theorem ml9_254 : Cond.methodLink "SatchelSinsModel" 254 (mtJ 162).1 ∈ wsG := (t_in5 (List.mem_of_getElem? (i := 137) rfl) rfl)
theorem ml9_257 : Cond.methodLink "SatchelSinsModel" 257 (mtJ 163).1 ∈ wsG := (t_in5 (List.mem_of_getElem? (i := 141) rfl) rfl)
theorem ml9_260 : Cond.methodLink "SatchelSinsModel" 260 (mtJ 164).1 ∈ wsG := (t_in5 (List.mem_of_getElem? (i := 145) rfl) rfl)
theorem ml9_264 : Cond.methodLink "SatchelSinsModel" 264 (mtJ 166).1 ∈ wsG := (t_in5 (List.mem_of_getElem? (i := 149) rfl) rfl)
theorem ml9_267 : Cond.methodLink "SatchelSinsModel" 267 (mtJ 165).1 ∈ wsG := (t_in5 (List.mem_of_getElem? (i := 157) rfl) rfl)
theorem ml9_270 : Cond.methodLink "SatchelSinsModel" 270 (mtJ 169).1 ∈ wsG := (t_in5 (List.mem_of_getElem? (i := 165) rfl) rfl)
theorem ml9_273 : Cond.methodLink "SatchelSinsModel" 273 (mtJ 119).1 ∈ wsG := (t_in5 (List.mem_of_getElem? (i := 179) rfl) rfl)
theorem ml9_280 : Cond.methodLink "SatchelSinsModel" 280 (mtJ 171).1 ∈ wsG := (t_in5 (List.mem_of_getElem? (i := 175) rfl) rfl)
theorem ml9_283 : Cond.methodLink "SatchelSinsModel" 283 (mtJ 172).1 ∈ wsG := (t_in5 (List.mem_of_getElem? (i := 182) rfl) rfl)
theorem ml9_286 : Cond.methodLink "SatchelSinsModel" 286 (mtJ 174).1 ∈ wsG := (t_in5 (List.mem_of_getElem? (i := 190) rfl) rfl)
theorem ml9_293 : Cond.methodLink "SatchelSinsModel" 293 (mtJ 178).1 ∈ wsG := (t_in5 (List.mem_of_getElem? (i := 208) rfl) rfl)
theorem oi1 : Cond.instanceMethod Lib.objectInit ∈ wsG := (t_in1 (List.mem_of_getElem? (i := 20) rfl) rfl)
theorem oi2 : Cond.code Lib.objectInit ⟨#[0xb1]⟩ 1 none ∈ wsG := (t_in1 (List.mem_of_getElem? (i := 21) rfl) rfl)
theorem cp1 : Cond.native arraycopyName ∈ wsG := (t_in2 (List.mem_of_getElem? (i := 164) rfl) rfl)
theorem cp2 : Cond.static arraycopyName ∈ wsG := (t_in2 (List.mem_of_getElem? (i := 163) rfl) rfl)
theorem cp3 : Cond.initialized "java/lang/System" ∈ wsG := (t_in1 (List.mem_of_getElem? (i := 13) rfl) rfl)
theorem mmax1 : Cond.static Lib.Math.max.name ∈ wsG := (t_in3 (List.mem_of_getElem? (i := 7) rfl) rfl)
theorem mmax2 : Cond.initialized "java/lang/Math" ∈ wsG := (t_in1 (List.mem_of_getElem? (i := 12) rfl) rfl)
theorem mmax3 : Cond.code Lib.Math.max.name Lib.Math.max.code 2 (some .int) ∈ wsG := (t_in3 (List.mem_of_getElem? (i := 8) rfl) rfl)
theorem mmin1 : Cond.static Lib.Math.min.name ∈ wsG := (t_in2 (List.mem_of_getElem? (i := 80) rfl) rfl)
theorem mmin2 : Cond.initialized "java/lang/Math" ∈ wsG := (t_in1 (List.mem_of_getElem? (i := 12) rfl) rfl)
theorem mmin3 : Cond.code Lib.Math.min.name Lib.Math.min.code 2 (some .int) ∈ wsG := (t_in2 (List.mem_of_getElem? (i := 81) rfl) rfl)
theorem ac1 : Cond.arrayClass .int ∈ wsG := (t_in1 (List.mem_of_getElem? (i := 83) rfl) rfl)
theorem ac2 : Cond.arrayClass .boolean ∈ wsG := (t_in2 (List.mem_of_getElem? (i := 4) rfl) rfl)
theorem ki8_85 : Cond.constant "SatchelSins" 85 (-1000000002) ∈ wsG := (t_in2 (List.mem_of_getElem? (i := 69) rfl) rfl)
theorem ki8_89 : Cond.constant "SatchelSins" 89 (-1000000004) ∈ wsG := (t_in2 (List.mem_of_getElem? (i := 70) rfl) rfl)
theorem ki8_147 : Cond.constant "SatchelSins" 147 (-1000000001) ∈ wsG := (t_in3 (List.mem_of_getElem? (i := 14) rfl) rfl)
theorem ki8_188 : Cond.constant "SatchelSins" 188 (-1000000003) ∈ wsG := (t_in3 (List.mem_of_getElem? (i := 44) rfl) rfl)
theorem ki8_322 : Cond.constant "SatchelSins" 322 65536 ∈ wsG := (t_in3 (List.mem_of_getElem? (i := 127) rfl) rfl)
theorem ki0_96 : Cond.constant "SatchelSins$Day" 96 999999 ∈ wsG := (t_in3 (List.mem_of_getElem? (i := 93) rfl) rfl)
theorem ki9_103 : Cond.constant "SatchelSinsModel" 103 (-1000000002) ∈ wsG := (t_in4 (List.mem_of_getElem? (i := 196) rfl) rfl)
theorem ki9_107 : Cond.constant "SatchelSinsModel" 107 (-1000000004) ∈ wsG := (t_in4 (List.mem_of_getElem? (i := 197) rfl) rfl)
theorem ki9_205 : Cond.constant "SatchelSinsModel" 205 (-1000000001) ∈ wsG := (t_in5 (List.mem_of_getElem? (i := 48) rfl) rfl)
theorem ki9_212 : Cond.constant "SatchelSinsModel" 212 (-1000000003) ∈ wsG := (t_in5 (List.mem_of_getElem? (i := 65) rfl) rfl)
theorem ki9_224 : Cond.constant "SatchelSinsModel" 224 999999 ∈ wsG := (t_in5 (List.mem_of_getElem? (i := 98) rfl) rfl)
theorem ki9_244 : Cond.constant "SatchelSinsModel" 244 65536 ∈ wsG := (t_in5 (List.mem_of_getElem? (i := 127) rfl) rfl)
theorem ki9_253 : Cond.constant "SatchelSinsModel" 253 100000 ∈ wsG := (t_in5 (List.mem_of_getElem? (i := 136) rfl) rfl)
theorem kl8_264 : Cond.constantLong "SatchelSins" 264 1000000000 ∈ wsG := (t_in3 (List.mem_of_getElem? (i := 234) rfl) rfl)
theorem kl8_266 : Cond.constantLong "SatchelSins" 266 100 ∈ wsG := (t_in3 (List.mem_of_getElem? (i := 235) rfl) rfl)
theorem kl8_316 : Cond.constantLong "SatchelSins" 316 1103515245 ∈ wsG := (t_in3 (List.mem_of_getElem? (i := 124) rfl) rfl)
theorem kl8_318 : Cond.constantLong "SatchelSins" 318 12345 ∈ wsG := (t_in3 (List.mem_of_getElem? (i := 125) rfl) rfl)
theorem kl8_320 : Cond.constantLong "SatchelSins" 320 2147483647 ∈ wsG := (t_in3 (List.mem_of_getElem? (i := 126) rfl) rfl)
theorem kl9_101 : Cond.constantLong "SatchelSinsModel" 101 255 ∈ wsG := (t_in4 (List.mem_of_getElem? (i := 192) rfl) rfl)
theorem kl9_115 : Cond.constantLong "SatchelSinsModel" 115 48 ∈ wsG := (t_in4 (List.mem_of_getElem? (i := 222) rfl) rfl)
theorem kl9_117 : Cond.constantLong "SatchelSinsModel" 117 57 ∈ wsG := (t_in4 (List.mem_of_getElem? (i := 223) rfl) rfl)
theorem kl9_238 : Cond.constantLong "SatchelSinsModel" 238 1103515245 ∈ wsG := (t_in5 (List.mem_of_getElem? (i := 124) rfl) rfl)
theorem kl9_240 : Cond.constantLong "SatchelSinsModel" 240 12345 ∈ wsG := (t_in5 (List.mem_of_getElem? (i := 125) rfl) rfl)
theorem kl9_242 : Cond.constantLong "SatchelSinsModel" 242 2147483648 ∈ wsG := (t_in5 (List.mem_of_getElem? (i := 126) rfl) rfl)
theorem kl9_248 : Cond.constantLong "SatchelSinsModel" 248 60 ∈ wsG := (t_in5 (List.mem_of_getElem? (i := 115) rfl) rfl)
theorem kl9_276 : Cond.constantLong "SatchelSinsModel" 276 999 ∈ wsG := (t_in5 (List.mem_of_getElem? (i := 173) rfl) rfl)
theorem kl9_278 : Cond.constantLong "SatchelSinsModel" 278 3 ∈ wsG := (t_in5 (List.mem_of_getElem? (i := 174) rfl) rfl)
theorem kl9_289 : Cond.constantLong "SatchelSinsModel" 289 100 ∈ wsG := (t_in5 (List.mem_of_getElem? (i := 198) rfl) rfl)
theorem kl9_291 : Cond.constantLong "SatchelSinsModel" 291 1000000000 ∈ wsG := (t_in5 (List.mem_of_getElem? (i := 199) rfl) rfl)
theorem ck8_17 : Cond.classLink "SatchelSins" 17 "SatchelSins$Roll" ∈ wsG := (t_in1 (List.mem_of_getElem? (i := 22) rfl) rfl)
theorem ck8_27 : Cond.classLink "SatchelSins" 27 "SatchelSins$Reader" ∈ wsG := (t_in1 (List.mem_of_getElem? (i := 84) rfl) rfl)
theorem ck8_36 : Cond.classLink "SatchelSins" 36 "SatchelSins$Day" ∈ wsG := (t_in1 (List.mem_of_getElem? (i := 112) rfl) rfl)
theorem ck8_45 : Cond.classLink "SatchelSins" 45 "SatchelSins$Past" ∈ wsG := (t_in1 (List.mem_of_getElem? (i := 133) rfl) rfl)
theorem ck8_52 : Cond.classLink "SatchelSins" 52 "SatchelSins$Image" ∈ wsG := (t_in1 (List.mem_of_getElem? (i := 150) rfl) rfl)
theorem ck8_58 : Cond.classLink "SatchelSins" 58 "SatchelSins$Packing" ∈ wsG := (t_in1 (List.mem_of_getElem? (i := 152) rfl) rfl)
theorem ck8_70 : Cond.classLink "SatchelSins" 70 "SatchelSins$Scale" ∈ wsG := (t_in1 (List.mem_of_getElem? (i := 189) rfl) rfl)
theorem ck8_77 : Cond.classLink "SatchelSins" 77 "SatchelSins$Slate" ∈ wsG := (t_in1 (List.mem_of_getElem? (i := 214) rfl) rfl)
theorem ckL_7 : Cond.classLink "SatchelSinsLaw" 7 "SatchelSins" ∈ wsG := (t_in1 (List.mem_of_getElem? (i := 14) rfl) rfl)
theorem ckL_10 : Cond.classLink "SatchelSinsLaw" 10 "SatchelSinsModel" ∈ wsG := (t_in4 (List.mem_of_getElem? (i := 58) rfl) rfl)
theorem ci8 : Cond.instantiable "SatchelSins" 14 ∈ wsG := (t_in1 (List.mem_of_getElem? (i := 15) rfl) rfl)
theorem ci0 : Cond.instantiable "SatchelSins$Day" 2 ∈ wsG := (t_in1 (List.mem_of_getElem? (i := 113) rfl) rfl)
theorem ci1 : Cond.instantiable "SatchelSins$Image" 3 ∈ wsG := (t_in2 (List.mem_of_getElem? (i := 5) rfl) rfl)
theorem ci2 : Cond.instantiable "SatchelSins$Packing" 10 ∈ wsG := (t_in1 (List.mem_of_getElem? (i := 153) rfl) rfl)
theorem ci3 : Cond.instantiable "SatchelSins$Past" 3 ∈ wsG := (t_in1 (List.mem_of_getElem? (i := 134) rfl) rfl)
theorem ci4 : Cond.instantiable "SatchelSins$Reader" 7 ∈ wsG := (t_in1 (List.mem_of_getElem? (i := 85) rfl) rfl)
theorem ci5 : Cond.instantiable "SatchelSins$Roll" 9 ∈ wsG := (t_in1 (List.mem_of_getElem? (i := 23) rfl) rfl)
theorem ci6 : Cond.instantiable "SatchelSins$Scale" 5 ∈ wsG := (t_in1 (List.mem_of_getElem? (i := 190) rfl) rfl)
theorem ci7 : Cond.instantiable "SatchelSins$Slate" 7 ∈ wsG := (t_in1 (List.mem_of_getElem? (i := 215) rfl) rfl)
theorem ci9 : Cond.instantiable "SatchelSinsModel" 41 ∈ wsG := (t_in4 (List.mem_of_getElem? (i := 59) rfl) rfl)
theorem in_8 : Cond.initialized "SatchelSins" ∈ wsG := (t_in1 (List.mem_of_getElem? (i := 1) rfl) rfl)
theorem in_0 : Cond.initialized "SatchelSins$Day" ∈ wsG := (t_in1 (List.mem_of_getElem? (i := 4) rfl) rfl)
theorem in_1 : Cond.initialized "SatchelSins$Image" ∈ wsG := (t_in1 (List.mem_of_getElem? (i := 10) rfl) rfl)
theorem in_2 : Cond.initialized "SatchelSins$Packing" ∈ wsG := (t_in1 (List.mem_of_getElem? (i := 7) rfl) rfl)
theorem in_3 : Cond.initialized "SatchelSins$Past" ∈ wsG := (t_in1 (List.mem_of_getElem? (i := 6) rfl) rfl)
theorem in_4 : Cond.initialized "SatchelSins$Reader" ∈ wsG := (t_in1 (List.mem_of_getElem? (i := 3) rfl) rfl)
theorem in_5 : Cond.initialized "SatchelSins$Roll" ∈ wsG := (t_in1 (List.mem_of_getElem? (i := 2) rfl) rfl)
theorem in_6 : Cond.initialized "SatchelSins$Scale" ∈ wsG := (t_in1 (List.mem_of_getElem? (i := 8) rfl) rfl)
theorem in_7 : Cond.initialized "SatchelSins$Slate" ∈ wsG := (t_in1 (List.mem_of_getElem? (i := 9) rfl) rfl)
theorem in_9 : Cond.initialized "SatchelSinsModel" ∈ wsG := (t_in1 (List.mem_of_getElem? (i := 11) rfl) rfl)
theorem ok0 : ∀ q, q < 2 → okTy (fty 0 q) = true := by decide +kernel
theorem ok1 : ∀ q, q < 3 → okTy (fty 1 q) = true := by decide +kernel
theorem ok2 : ∀ q, q < 10 → okTy (fty 2 q) = true := by decide +kernel
theorem ok3 : ∀ q, q < 3 → okTy (fty 3 q) = true := by decide +kernel
theorem ok4 : ∀ q, q < 7 → okTy (fty 4 q) = true := by decide +kernel
theorem ok5 : ∀ q, q < 9 → okTy (fty 5 q) = true := by decide +kernel
theorem ok6 : ∀ q, q < 5 → okTy (fty 6 q) = true := by decide +kernel
theorem ok7 : ∀ q, q < 7 → okTy (fty 7 q) = true := by decide +kernel
theorem ok8 : ∀ q, q < 14 → okTy (fty 8 q) = true := by decide +kernel
theorem ok9 : ∀ q, q < 41 → okTy (fty 9 q) = true := by decide +kernel
