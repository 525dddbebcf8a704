theorem tb1 (i : Nat) {w : Cond} (h : tables_1_1[i]? = some w) (g : goodWord w = true) : w ∈ TB := TB_of (List.mem_append_right _ (show w ∈ tables_1 from by
  have h := List.mem_of_getElem? h
  exact List.mem_append_left _ h)) g
theorem tb2 (i : Nat) {w : Cond} (h : tables_1_2[i]? = some w) (g : goodWord w = true) : w ∈ TB := TB_of (List.mem_append_right _ (show w ∈ tables_1 from by
  have h := List.mem_of_getElem? h
  exact List.mem_append_right _ (List.mem_append_left _ h))) g
theorem tb3 (i : Nat) {w : Cond} (h : tables_1_3[i]? = some w) (g : goodWord w = true) : w ∈ TB := TB_of (List.mem_append_right _ (show w ∈ tables_1 from by
  have h := List.mem_of_getElem? h
  exact List.mem_append_right _ (List.mem_append_right _ (List.mem_append_left _ h)))) g
theorem tb4 (i : Nat) {w : Cond} (h : tables_1_4[i]? = some w) (g : goodWord w = true) : w ∈ TB := TB_of (List.mem_append_right _ (show w ∈ tables_1 from by
  have h := List.mem_of_getElem? h
  exact List.mem_append_right _ (List.mem_append_right _ (List.mem_append_right _ (List.mem_append_left _ h))))) g
theorem tb5 (i : Nat) {w : Cond} (h : tables_1_5[i]? = some w) (g : goodWord w = true) : w ∈ TB := TB_of (List.mem_append_right _ (show w ∈ tables_1 from by
  have h := List.mem_of_getElem? h
  exact List.mem_append_right _ (List.mem_append_right _ (List.mem_append_right _ (List.mem_append_right _ (List.mem_append_left _ h)))))) g
theorem tb6 (i : Nat) {w : Cond} (h : tables_1_6[i]? = some w) (g : goodWord w = true) : w ∈ TB := TB_of (List.mem_append_right _ (show w ∈ tables_1 from by
  have h := List.mem_of_getElem? h
  exact List.mem_append_right _ (List.mem_append_right _ (List.mem_append_right _ (List.mem_append_right _ (List.mem_append_right _ (List.mem_append_left _ h))))))) g
theorem tb7 (i : Nat) {w : Cond} (h : tables_1_7[i]? = some w) (g : goodWord w = true) : w ∈ TB := TB_of (List.mem_append_right _ (show w ∈ tables_1 from by
  have h := List.mem_of_getElem? h
  exact List.mem_append_right _ (List.mem_append_right _ (List.mem_append_right _ (List.mem_append_right _ (List.mem_append_right _ (List.mem_append_right _ (List.mem_append_left _ h)))))))) g
theorem tb8 (i : Nat) {w : Cond} (h : tables_1_8[i]? = some w) (g : goodWord w = true) : w ∈ TB := TB_of (List.mem_append_right _ (show w ∈ tables_1 from by
  have h := List.mem_of_getElem? h
  exact List.mem_append_right _ (List.mem_append_right _ (List.mem_append_right _ (List.mem_append_right _ (List.mem_append_right _ (List.mem_append_right _ (List.mem_append_right _ (h))))))))) g
theorem tbp (i : Nat) {w : Cond} (h : (k2_sels lw_privs)[i]? = some w) (g : goodWord w = true) : w ∈ TB := TB_of (List.mem_append_left _ (List.mem_of_getElem? h)) g
theorem cw_X0 : ∀ w ∈ u_ws RX0 TX0 3, w ∈ TB := by
  intro w hw
  obtain ⟨j, hj, rfl⟩ := List.mem_map.mp hw
  rw [List.mem_range] at hj
  match j, hj with
  | 0, _ => exact tb2 101 (by decide +kernel) (by decide +kernel)
  | 1, _ => exact tb2 103 (by decide +kernel) (by decide +kernel)
  | 2, _ => exact tb2 105 (by decide +kernel) (by decide +kernel)
  | j + 3, hj => omega
theorem cf_X0 : CF 0 (RX0, TX0, 3) tyX0 := ⟨rfl, cw_X0, tyX0_ok, nmX0⟩
theorem cw_X1 : ∀ w ∈ u_ws RX1 TX1 4, w ∈ TB := by
  intro w hw
  obtain ⟨j, hj, rfl⟩ := List.mem_map.mp hw
  rw [List.mem_range] at hj
  match j, hj with
  | 0, _ => exact tb2 5 (by decide +kernel) (by decide +kernel)
  | 1, _ => exact tb2 7 (by decide +kernel) (by decide +kernel)
  | 2, _ => exact tb2 9 (by decide +kernel) (by decide +kernel)
  | 3, _ => exact tb2 11 (by decide +kernel) (by decide +kernel)
  | j + 4, hj => omega
theorem cf_X1 : CF 1 (RX1, TX1, 4) tyX1 := ⟨rfl, cw_X1, tyX1_ok, nmX1⟩
theorem cw_X2 : ∀ w ∈ u_ws RX2 TX2 2, w ∈ TB := by
  intro w hw
  obtain ⟨j, hj, rfl⟩ := List.mem_map.mp hw
  rw [List.mem_range] at hj
  match j, hj with
  | 0, _ => exact tb2 154 (by decide +kernel) (by decide +kernel)
  | 1, _ => exact tb2 156 (by decide +kernel) (by decide +kernel)
  | j + 2, hj => omega
theorem cf_X2 : CF 2 (RX2, TX2, 2) tyX2 := ⟨rfl, cw_X2, tyX2_ok, nmX2⟩
theorem cw_X3 : ∀ w ∈ u_ws RX3 TX3 6, w ∈ TB := by
  intro w hw
  obtain ⟨j, hj, rfl⟩ := List.mem_map.mp hw
  rw [List.mem_range] at hj
  match j, hj with
  | 0, _ => exact tb2 124 (by decide +kernel) (by decide +kernel)
  | 1, _ => exact tb2 126 (by decide +kernel) (by decide +kernel)
  | 2, _ => exact tb2 128 (by decide +kernel) (by decide +kernel)
  | 3, _ => exact tb2 130 (by decide +kernel) (by decide +kernel)
  | 4, _ => exact tb2 132 (by decide +kernel) (by decide +kernel)
  | 5, _ => exact tb2 134 (by decide +kernel) (by decide +kernel)
  | j + 6, hj => omega
theorem cf_X3 : CF 3 (RX3, TX3, 6) tyX3 := ⟨rfl, cw_X3, tyX3_ok, nmX3⟩
theorem cw_X4 : ∀ w ∈ u_ws RX4 TX4 6, w ∈ TB := by
  intro w hw
  obtain ⟨j, hj, rfl⟩ := List.mem_map.mp hw
  rw [List.mem_range] at hj
  match j, hj with
  | 0, _ => exact tb2 76 (by decide +kernel) (by decide +kernel)
  | 1, _ => exact tb2 78 (by decide +kernel) (by decide +kernel)
  | 2, _ => exact tb2 80 (by decide +kernel) (by decide +kernel)
  | 3, _ => exact tb2 82 (by decide +kernel) (by decide +kernel)
  | 4, _ => exact tb2 84 (by decide +kernel) (by decide +kernel)
  | 5, _ => exact tb2 86 (by decide +kernel) (by decide +kernel)
  | j + 6, hj => omega
theorem cf_X4 : CF 4 (RX4, TX4, 6) tyX4 := ⟨rfl, cw_X4, tyX4_ok, nmX4⟩
theorem cw_X5 : ∀ w ∈ u_ws RX5 TX5 5, w ∈ TB := by
  intro w hw
  obtain ⟨j, hj, rfl⟩ := List.mem_map.mp hw
  rw [List.mem_range] at hj
  match j, hj with
  | 0, _ => exact tb2 27 (by decide +kernel) (by decide +kernel)
  | 1, _ => exact tb2 29 (by decide +kernel) (by decide +kernel)
  | 2, _ => exact tb2 31 (by decide +kernel) (by decide +kernel)
  | 3, _ => exact tb2 33 (by decide +kernel) (by decide +kernel)
  | 4, _ => exact tb2 35 (by decide +kernel) (by decide +kernel)
  | j + 5, hj => omega
theorem cf_X5 : CF 5 (RX5, TX5, 5) tyX5 := ⟨rfl, cw_X5, tyX5_ok, nmX5⟩
theorem cw_X6 : ∀ w ∈ u_ws RX6 TX6 7, w ∈ TB := by
  intro w hw
  obtain ⟨j, hj, rfl⟩ := List.mem_map.mp hw
  rw [List.mem_range] at hj
  match j, hj with
  | 0, _ => exact tb1 47 (by decide +kernel) (by decide +kernel)
  | 1, _ => exact tb1 49 (by decide +kernel) (by decide +kernel)
  | 2, _ => exact tb1 51 (by decide +kernel) (by decide +kernel)
  | 3, _ => exact tb1 53 (by decide +kernel) (by decide +kernel)
  | 4, _ => exact tb1 55 (by decide +kernel) (by decide +kernel)
  | 5, _ => exact tb1 57 (by decide +kernel) (by decide +kernel)
  | 6, _ => exact tb1 59 (by decide +kernel) (by decide +kernel)
  | j + 7, hj => omega
theorem cf_X6 : CF 6 (RX6, TX6, 7) tyX6 := ⟨rfl, cw_X6, tyX6_ok, nmX6⟩
theorem cw_X7 : ∀ w ∈ u_ws RX7 TX7 5, w ∈ TB := by
  intro w hw
  obtain ⟨j, hj, rfl⟩ := List.mem_map.mp hw
  rw [List.mem_range] at hj
  match j, hj with
  | 0, _ => exact tb2 51 (by decide +kernel) (by decide +kernel)
  | 1, _ => exact tb2 53 (by decide +kernel) (by decide +kernel)
  | 2, _ => exact tb2 55 (by decide +kernel) (by decide +kernel)
  | 3, _ => exact tb2 57 (by decide +kernel) (by decide +kernel)
  | 4, _ => exact tb2 59 (by decide +kernel) (by decide +kernel)
  | j + 5, hj => omega
theorem cf_X7 : CF 7 (RX7, TX7, 5) tyX7 := ⟨rfl, cw_X7, tyX7_ok, nmX7⟩
theorem cw_X8 : ∀ w ∈ u_ws RX8 TX8 17, w ∈ TB := by
  intro w hw
  obtain ⟨j, hj, rfl⟩ := List.mem_map.mp hw
  rw [List.mem_range] at hj
  match j, hj with
  | 0, _ => exact tb1 184 (by decide +kernel) (by decide +kernel)
  | 1, _ => exact tb1 186 (by decide +kernel) (by decide +kernel)
  | 2, _ => exact tb1 188 (by decide +kernel) (by decide +kernel)
  | 3, _ => exact tb1 190 (by decide +kernel) (by decide +kernel)
  | 4, _ => exact tb1 192 (by decide +kernel) (by decide +kernel)
  | 5, _ => exact tb1 194 (by decide +kernel) (by decide +kernel)
  | 6, _ => exact tb1 196 (by decide +kernel) (by decide +kernel)
  | 7, _ => exact tb1 198 (by decide +kernel) (by decide +kernel)
  | 8, _ => exact tb1 200 (by decide +kernel) (by decide +kernel)
  | 9, _ => exact tb1 202 (by decide +kernel) (by decide +kernel)
  | 10, _ => exact tb1 204 (by decide +kernel) (by decide +kernel)
  | 11, _ => exact tb1 206 (by decide +kernel) (by decide +kernel)
  | 12, _ => exact tb1 208 (by decide +kernel) (by decide +kernel)
  | 13, _ => exact tb1 210 (by decide +kernel) (by decide +kernel)
  | 14, _ => exact tb1 212 (by decide +kernel) (by decide +kernel)
  | 15, _ => exact tb1 214 (by decide +kernel) (by decide +kernel)
  | 16, _ => exact tb1 216 (by decide +kernel) (by decide +kernel)
  | j + 17, hj => omega
theorem cf_X8 : CF 8 (RX8, TX8, 17) tyX8 := ⟨rfl, cw_X8, tyX8_ok, nmX8⟩
theorem cw_X9 : ∀ w ∈ u_ws RX9 TX9 3, w ∈ TB := by
  intro w hw
  obtain ⟨j, hj, rfl⟩ := List.mem_map.mp hw
  rw [List.mem_range] at hj
  match j, hj with
  | 0, _ => exact tb1 228 (by decide +kernel) (by decide +kernel)
  | 1, _ => exact tb1 230 (by decide +kernel) (by decide +kernel)
  | 2, _ => exact tb1 232 (by decide +kernel) (by decide +kernel)
  | j + 3, hj => omega
theorem cf_X9 : CF 9 (RX9, TX9, 3) tyX9 := ⟨rfl, cw_X9, tyX9_ok, nmX9⟩
theorem cw_X10 : ∀ w ∈ u_ws RX10 TX10 9, w ∈ TB := by
  intro w hw
  obtain ⟨j, hj, rfl⟩ := List.mem_map.mp hw
  rw [List.mem_range] at hj
  match j, hj with
  | 0, _ => exact tb1 104 (by decide +kernel) (by decide +kernel)
  | 1, _ => exact tb1 106 (by decide +kernel) (by decide +kernel)
  | 2, _ => exact tb1 108 (by decide +kernel) (by decide +kernel)
  | 3, _ => exact tb1 110 (by decide +kernel) (by decide +kernel)
  | 4, _ => exact tb1 112 (by decide +kernel) (by decide +kernel)
  | 5, _ => exact tb1 114 (by decide +kernel) (by decide +kernel)
  | 6, _ => exact tb1 116 (by decide +kernel) (by decide +kernel)
  | 7, _ => exact tb1 118 (by decide +kernel) (by decide +kernel)
  | 8, _ => exact tb1 120 (by decide +kernel) (by decide +kernel)
  | j + 9, hj => omega
theorem cf_X10 : CF 10 (RX10, TX10, 9) tyX10 := ⟨rfl, cw_X10, tyX10_ok, nmX10⟩
theorem cw_X11 : ∀ w ∈ u_ws RX11 TX11 19, w ∈ TB := by
  intro w hw
  obtain ⟨j, hj, rfl⟩ := List.mem_map.mp hw
  rw [List.mem_range] at hj
  match j, hj with
  | 0, _ => exact tb2 178 (by decide +kernel) (by decide +kernel)
  | 1, _ => exact tb2 180 (by decide +kernel) (by decide +kernel)
  | 2, _ => exact tb2 182 (by decide +kernel) (by decide +kernel)
  | 3, _ => exact tb2 184 (by decide +kernel) (by decide +kernel)
  | 4, _ => exact tb2 186 (by decide +kernel) (by decide +kernel)
  | 5, _ => exact tb2 188 (by decide +kernel) (by decide +kernel)
  | 6, _ => exact tb2 190 (by decide +kernel) (by decide +kernel)
  | 7, _ => exact tb2 192 (by decide +kernel) (by decide +kernel)
  | 8, _ => exact tb2 194 (by decide +kernel) (by decide +kernel)
  | 9, _ => exact tb2 196 (by decide +kernel) (by decide +kernel)
  | 10, _ => exact tb2 198 (by decide +kernel) (by decide +kernel)
  | 11, _ => exact tb2 200 (by decide +kernel) (by decide +kernel)
  | 12, _ => exact tb2 202 (by decide +kernel) (by decide +kernel)
  | 13, _ => exact tb2 204 (by decide +kernel) (by decide +kernel)
  | 14, _ => exact tb2 206 (by decide +kernel) (by decide +kernel)
  | 15, _ => exact tb2 208 (by decide +kernel) (by decide +kernel)
  | 16, _ => exact tb2 210 (by decide +kernel) (by decide +kernel)
  | 17, _ => exact tb2 212 (by decide +kernel) (by decide +kernel)
  | 18, _ => exact tb2 214 (by decide +kernel) (by decide +kernel)
  | j + 19, hj => omega
theorem cf_X11 : CF 11 (RX11, TX11, 19) tyX11 := ⟨rfl, cw_X11, tyX11_ok, nmX11⟩
theorem cw_X12 : ∀ w ∈ u_ws RX12 TX12 42, w ∈ TB := by
  intro w hw
  obtain ⟨j, hj, rfl⟩ := List.mem_map.mp hw
  rw [List.mem_range] at hj
  match j, hj with
  | 0, _ => exact tb6 42 (by decide +kernel) (by decide +kernel)
  | 1, _ => exact tb6 44 (by decide +kernel) (by decide +kernel)
  | 2, _ => exact tb6 46 (by decide +kernel) (by decide +kernel)
  | 3, _ => exact tb6 48 (by decide +kernel) (by decide +kernel)
  | 4, _ => exact tb6 50 (by decide +kernel) (by decide +kernel)
  | 5, _ => exact tb6 52 (by decide +kernel) (by decide +kernel)
  | 6, _ => exact tb6 54 (by decide +kernel) (by decide +kernel)
  | 7, _ => exact tb6 56 (by decide +kernel) (by decide +kernel)
  | 8, _ => exact tb6 58 (by decide +kernel) (by decide +kernel)
  | 9, _ => exact tb6 60 (by decide +kernel) (by decide +kernel)
  | 10, _ => exact tb6 62 (by decide +kernel) (by decide +kernel)
  | 11, _ => exact tb6 64 (by decide +kernel) (by decide +kernel)
  | 12, _ => exact tb6 66 (by decide +kernel) (by decide +kernel)
  | 13, _ => exact tb6 68 (by decide +kernel) (by decide +kernel)
  | 14, _ => exact tb6 70 (by decide +kernel) (by decide +kernel)
  | 15, _ => exact tb6 72 (by decide +kernel) (by decide +kernel)
  | 16, _ => exact tb6 74 (by decide +kernel) (by decide +kernel)
  | 17, _ => exact tb6 76 (by decide +kernel) (by decide +kernel)
  | 18, _ => exact tb6 78 (by decide +kernel) (by decide +kernel)
  | 19, _ => exact tb6 80 (by decide +kernel) (by decide +kernel)
  | 20, _ => exact tb6 82 (by decide +kernel) (by decide +kernel)
  | 21, _ => exact tb6 84 (by decide +kernel) (by decide +kernel)
  | 22, _ => exact tb6 86 (by decide +kernel) (by decide +kernel)
  | 23, _ => exact tb6 88 (by decide +kernel) (by decide +kernel)
  | 24, _ => exact tb6 90 (by decide +kernel) (by decide +kernel)
  | 25, _ => exact tb6 92 (by decide +kernel) (by decide +kernel)
  | 26, _ => exact tb6 94 (by decide +kernel) (by decide +kernel)
  | 27, _ => exact tb6 96 (by decide +kernel) (by decide +kernel)
  | 28, _ => exact tb6 98 (by decide +kernel) (by decide +kernel)
  | 29, _ => exact tb6 100 (by decide +kernel) (by decide +kernel)
  | 30, _ => exact tb6 102 (by decide +kernel) (by decide +kernel)
  | 31, _ => exact tb6 104 (by decide +kernel) (by decide +kernel)
  | 32, _ => exact tb6 106 (by decide +kernel) (by decide +kernel)
  | 33, _ => exact tb6 108 (by decide +kernel) (by decide +kernel)
  | 34, _ => exact tb6 110 (by decide +kernel) (by decide +kernel)
  | 35, _ => exact tb6 112 (by decide +kernel) (by decide +kernel)
  | 36, _ => exact tb6 114 (by decide +kernel) (by decide +kernel)
  | 37, _ => exact tb6 116 (by decide +kernel) (by decide +kernel)
  | 38, _ => exact tb6 118 (by decide +kernel) (by decide +kernel)
  | 39, _ => exact tb6 120 (by decide +kernel) (by decide +kernel)
  | 40, _ => exact tb6 122 (by decide +kernel) (by decide +kernel)
  | 41, _ => exact tb6 124 (by decide +kernel) (by decide +kernel)
  | j + 42, hj => omega
theorem cf_X12 : CF 12 (RX12, TX12, 42) tyX12 := ⟨rfl, cw_X12, tyX12_ok, nmX12⟩
def mX0_init : MD := (yX0_init, cX0_init, 1, none)
theorem mnX0_init : MN mX0_init 0 := ⟨⟨tb2 93 (by decide +kernel) (by decide +kernel), tb1 11 (by decide +kernel) (by decide +kernel), by decide +kernel, by decide +kernel⟩, tb2 92 (by decide +kernel) (by decide +kernel), by decide +kernel, rfl⟩
def mX0_forget : MD := (yX0_forget, cX0_forget, 1, none)
theorem mfX0_forget : MI mX0_forget 0 := ⟨⟨tb4 18 (by decide +kernel) (by decide +kernel), tb1 11 (by decide +kernel) (by decide +kernel), by decide +kernel, by decide +kernel⟩, tb4 16 (by decide +kernel) (by decide +kernel), tb4 17 (by decide +kernel) (by decide +kernel)⟩
def mX0_add : MD := (yX0_add, cX0_add, 3, (some .boolean))
theorem mfX0_add : MI mX0_add 2 := ⟨⟨tb2 236 (by decide +kernel) (by decide +kernel), tb1 11 (by decide +kernel) (by decide +kernel), by decide +kernel, by decide +kernel⟩, tb2 234 (by decide +kernel) (by decide +kernel), tb2 235 (by decide +kernel) (by decide +kernel)⟩
def mX0_gainsays : MD := (yX0_gainsays, cX0_gainsays, 3, (some .boolean))
theorem mfX0_gainsays : MI mX0_gainsays 2 := ⟨⟨tb3 0 (by decide +kernel) (by decide +kernel), tb1 11 (by decide +kernel) (by decide +kernel), by decide +kernel, by decide +kernel⟩, tb2 239 (by decide +kernel) (by decide +kernel), tbp 2 (by decide +kernel) (by decide +kernel)⟩
def mX0_lowEnd : MD := (yX0_lowEnd, cX0_lowEnd, 1, (some .int))
theorem mfX0_lowEnd : MI mX0_lowEnd 0 := ⟨⟨tb5 181 (by decide +kernel) (by decide +kernel), tb1 11 (by decide +kernel) (by decide +kernel), by decide +kernel, by decide +kernel⟩, tb5 180 (by decide +kernel) (by decide +kernel), tbp 37 (by decide +kernel) (by decide +kernel)⟩
def mX0_highEnd : MD := (yX0_highEnd, cX0_highEnd, 1, (some .int))
theorem mfX0_highEnd : MI mX0_highEnd 0 := ⟨⟨tb5 185 (by decide +kernel) (by decide +kernel), tb1 11 (by decide +kernel) (by decide +kernel), by decide +kernel, by decide +kernel⟩, tb5 184 (by decide +kernel) (by decide +kernel), tbp 38 (by decide +kernel) (by decide +kernel)⟩
def mX0_nextShare : MD := (yX0_nextShare, cX0_nextShare, 1, (some .int))
theorem mfX0_nextShare : MI mX0_nextShare 0 := ⟨⟨tb5 177 (by decide +kernel) (by decide +kernel), tb1 11 (by decide +kernel) (by decide +kernel), by decide +kernel, by decide +kernel⟩, tb5 175 (by decide +kernel) (by decide +kernel), tb5 176 (by decide +kernel) (by decide +kernel)⟩
def mX0_fewestTrials : MD := (yX0_fewestTrials, cX0_fewestTrials, 3, (some .int))
theorem mfX0_fewestTrials : MI mX0_fewestTrials 0 := ⟨⟨tb5 189 (by decide +kernel) (by decide +kernel), tb1 11 (by decide +kernel) (by decide +kernel), by decide +kernel, by decide +kernel⟩, tb5 187 (by decide +kernel) (by decide +kernel), tb5 188 (by decide +kernel) (by decide +kernel)⟩
def mX1_init : MD := (yX1_init, cX1_init, 4, none)
theorem mnX1_init : MN mX1_init 3 := ⟨⟨tb1 239 (by decide +kernel) (by decide +kernel), tb1 7 (by decide +kernel) (by decide +kernel), by decide +kernel, by decide +kernel⟩, tb1 238 (by decide +kernel) (by decide +kernel), by decide +kernel, rfl⟩
def mX1_weeksUntil : MD := (yX1_weeksUntil, cX1_weeksUntil, 4, (some .int))
theorem mfX1_weeksUntil : MI mX1_weeksUntil 2 := ⟨⟨tb5 25 (by decide +kernel) (by decide +kernel), tb1 7 (by decide +kernel) (by decide +kernel), by decide +kernel, by decide +kernel⟩, tb5 23 (by decide +kernel) (by decide +kernel), tb5 24 (by decide +kernel) (by decide +kernel)⟩
def mX1_fewestShoes : MD := (yX1_fewestShoes, cX1_fewestShoes, 4, (some .int))
theorem mfX1_fewestShoes : MI mX1_fewestShoes 2 := ⟨⟨tb5 103 (by decide +kernel) (by decide +kernel), tb1 7 (by decide +kernel) (by decide +kernel), by decide +kernel, by decide +kernel⟩, tb5 101 (by decide +kernel) (by decide +kernel), tb5 102 (by decide +kernel) (by decide +kernel)⟩
def mX1_leastOuter : MD := (yX1_leastOuter, cX1_leastOuter, 4, (some .int))
theorem mfX1_leastOuter : MI mX1_leastOuter 2 := ⟨⟨tb5 120 (by decide +kernel) (by decide +kernel), tb1 7 (by decide +kernel) (by decide +kernel), by decide +kernel, by decide +kernel⟩, tb5 118 (by decide +kernel) (by decide +kernel), tb5 119 (by decide +kernel) (by decide +kernel)⟩
def mX1_footPaste : MD := (yX1_footPaste, cX1_footPaste, 3, (some .int))
theorem mfX1_footPaste : MI mX1_footPaste 2 := ⟨⟨tb5 124 (by decide +kernel) (by decide +kernel), tb1 7 (by decide +kernel) (by decide +kernel), by decide +kernel, by decide +kernel⟩, tb5 122 (by decide +kernel) (by decide +kernel), tb5 123 (by decide +kernel) (by decide +kernel)⟩
def mX1_firstPaste : MD := (yX1_firstPaste, cX1_firstPaste, 5, (some .int))
theorem mfX1_firstPaste : MI mX1_firstPaste 1 := ⟨⟨tb5 107 (by decide +kernel) (by decide +kernel), tb1 7 (by decide +kernel) (by decide +kernel), by decide +kernel, by decide +kernel⟩, tb5 106 (by decide +kernel) (by decide +kernel), tbp 35 (by decide +kernel) (by decide +kernel)⟩
def mX2_init : MD := (yX2_init, cX2_init, 1, none)
theorem mnX2_init : MN mX2_init 0 := ⟨⟨tb2 141 (by decide +kernel) (by decide +kernel), tb1 13 (by decide +kernel) (by decide +kernel), by decide +kernel, by decide +kernel⟩, tb2 140 (by decide +kernel) (by decide +kernel), by decide +kernel, rfl⟩
def mX2_forget : MD := (yX2_forget, cX2_forget, 2, none)
theorem mfX2_forget : MI mX2_forget 0 := ⟨⟨tb2 146 (by decide +kernel) (by decide +kernel), tb1 13 (by decide +kernel) (by decide +kernel), by decide +kernel, by decide +kernel⟩, tb2 144 (by decide +kernel) (by decide +kernel), tb2 145 (by decide +kernel) (by decide +kernel)⟩
def mX2_clear : MD := (yX2_clear, cX2_clear, 3, none)
theorem mfX2_clear : MI mX2_clear 1 := ⟨⟨tb2 150 (by decide +kernel) (by decide +kernel), tb1 13 (by decide +kernel) (by decide +kernel), by decide +kernel, by decide +kernel⟩, tb2 149 (by decide +kernel) (by decide +kernel), tbp 0 (by decide +kernel) (by decide +kernel)⟩
def mX2_keep : MD := (yX2_keep, cX2_keep, 7, none)
theorem mfX2_keep : MI mX2_keep 2 := ⟨⟨tb5 212 (by decide +kernel) (by decide +kernel), tb1 13 (by decide +kernel) (by decide +kernel), by decide +kernel, by decide +kernel⟩, tb5 210 (by decide +kernel) (by decide +kernel), tb5 211 (by decide +kernel) (by decide +kernel)⟩
def mX2_reading : MD := (yX2_reading, cX2_reading, 7, (some .int))
theorem mfX2_reading : MI mX2_reading 3 := ⟨⟨tb5 223 (by decide +kernel) (by decide +kernel), tb1 13 (by decide +kernel) (by decide +kernel), by decide +kernel, by decide +kernel⟩, tb5 221 (by decide +kernel) (by decide +kernel), tb5 222 (by decide +kernel) (by decide +kernel)⟩
def mX2_farthestApart : MD := (yX2_farthestApart, cX2_farthestApart, 5, (some .int))
theorem mfX2_farthestApart : MI mX2_farthestApart 0 := ⟨⟨tb3 20 (by decide +kernel) (by decide +kernel), tb1 13 (by decide +kernel) (by decide +kernel), by decide +kernel, by decide +kernel⟩, tb3 18 (by decide +kernel) (by decide +kernel), tb3 19 (by decide +kernel) (by decide +kernel)⟩
def mX2_apartAt : MD := (yX2_apartAt, cX2_apartAt, 7, (some .int))
theorem mfX2_apartAt : MI mX2_apartAt 1 := ⟨⟨tb3 24 (by decide +kernel) (by decide +kernel), tb1 13 (by decide +kernel) (by decide +kernel), by decide +kernel, by decide +kernel⟩, tb3 23 (by decide +kernel) (by decide +kernel), tbp 3 (by decide +kernel) (by decide +kernel)⟩
def mX3_init : MD := (yX3_init, cX3_init, 1, none)
theorem mnX3_init : MN mX3_init 0 := ⟨⟨tb2 112 (by decide +kernel) (by decide +kernel), tb1 12 (by decide +kernel) (by decide +kernel), by decide +kernel, by decide +kernel⟩, tb2 111 (by decide +kernel) (by decide +kernel), by decide +kernel, rfl⟩
def mX3_forget : MD := (yX3_forget, cX3_forget, 1, none)
theorem mfX3_forget : MI mX3_forget 0 := ⟨⟨tb4 22 (by decide +kernel) (by decide +kernel), tb1 12 (by decide +kernel) (by decide +kernel), by decide +kernel, by decide +kernel⟩, tb4 20 (by decide +kernel) (by decide +kernel), tb4 21 (by decide +kernel) (by decide +kernel)⟩
def mX3_add : MD := (yX3_add, cX3_add, 5, (some .boolean))
theorem mfX3_add : MI mX3_add 3 := ⟨⟨tb3 12 (by decide +kernel) (by decide +kernel), tb1 12 (by decide +kernel) (by decide +kernel), by decide +kernel, by decide +kernel⟩, tb3 10 (by decide +kernel) (by decide +kernel), tb3 11 (by decide +kernel) (by decide +kernel)⟩
def mX3_choose : MD := (yX3_choose, cX3_choose, 7, none)
theorem mfX3_choose : MI mX3_choose 1 := ⟨⟨tb5 201 (by decide +kernel) (by decide +kernel), tb1 12 (by decide +kernel) (by decide +kernel), by decide +kernel, by decide +kernel⟩, tb5 199 (by decide +kernel) (by decide +kernel), tb5 200 (by decide +kernel) (by decide +kernel)⟩
def mX4_init : MD := (yX4_init, cX4_init, 3, none)
theorem mnX4_init : MN mX4_init 2 := ⟨⟨tb2 66 (by decide +kernel) (by decide +kernel), tb1 10 (by decide +kernel) (by decide +kernel), by decide +kernel, by decide +kernel⟩, tb2 65 (by decide +kernel) (by decide +kernel), by decide +kernel, rfl⟩
def mX4_forget : MD := (yX4_forget, cX4_forget, 1, none)
theorem mfX4_forget : MI mX4_forget 0 := ⟨⟨tb4 14 (by decide +kernel) (by decide +kernel), tb1 10 (by decide +kernel) (by decide +kernel), by decide +kernel, by decide +kernel⟩, tb4 12 (by decide +kernel) (by decide +kernel), tb4 13 (by decide +kernel) (by decide +kernel)⟩
def mX4_leastBulges : MD := (yX4_leastBulges, cX4_leastBulges, 3, (some .int))
theorem mfX4_leastBulges : MI mX4_leastBulges 2 := ⟨⟨tb5 146 (by decide +kernel) (by decide +kernel), tb1 10 (by decide +kernel) (by decide +kernel), by decide +kernel, by decide +kernel⟩, tb5 144 (by decide +kernel) (by decide +kernel), tb5 145 (by decide +kernel) (by decide +kernel)⟩
def mX4_seek : MD := (yX4_seek, cX4_seek, 8, none)
theorem mfX4_seek : MI mX4_seek 2 := ⟨⟨tb5 151 (by decide +kernel) (by decide +kernel), tb1 10 (by decide +kernel) (by decide +kernel), by decide +kernel, by decide +kernel⟩, tb5 150 (by decide +kernel) (by decide +kernel), tbp 36 (by decide +kernel) (by decide +kernel)⟩
def mX5_init : MD := (yX5_init, cX5_init, 3, none)
theorem mnX5_init : MN mX5_init 2 := ⟨⟨tb2 18 (by decide +kernel) (by decide +kernel), tb1 8 (by decide +kernel) (by decide +kernel), by decide +kernel, by decide +kernel⟩, tb2 17 (by decide +kernel) (by decide +kernel), by decide +kernel, rfl⟩
def mX5_forget : MD := (yX5_forget, cX5_forget, 1, none)
theorem mfX5_forget : MI mX5_forget 0 := ⟨⟨tb4 10 (by decide +kernel) (by decide +kernel), tb1 8 (by decide +kernel) (by decide +kernel), by decide +kernel, by decide +kernel⟩, tb4 8 (by decide +kernel) (by decide +kernel), tb4 9 (by decide +kernel) (by decide +kernel)⟩
def mX5_weeksTo : MD := (yX5_weeksTo, cX5_weeksTo, 4, (some .int))
theorem mfX5_weeksTo : MI mX5_weeksTo 2 := ⟨⟨tb5 39 (by decide +kernel) (by decide +kernel), tb1 8 (by decide +kernel) (by decide +kernel), by decide +kernel, by decide +kernel⟩, tb5 37 (by decide +kernel) (by decide +kernel), tb5 38 (by decide +kernel) (by decide +kernel)⟩
def mX5_reaches : MD := (yX5_reaches, cX5_reaches, 6, (some .boolean))
theorem mfX5_reaches : MI mX5_reaches 3 := ⟨⟨tb5 44 (by decide +kernel) (by decide +kernel), tb1 8 (by decide +kernel) (by decide +kernel), by decide +kernel, by decide +kernel⟩, tb5 43 (by decide +kernel) (by decide +kernel), tbp 31 (by decide +kernel) (by decide +kernel)⟩
def mX5_bearsLift : MD := (yX5_bearsLift, cX5_bearsLift, 4, (some .boolean))
theorem mfX5_bearsLift : MI mX5_bearsLift 3 := ⟨⟨tb5 48 (by decide +kernel) (by decide +kernel), tb1 8 (by decide +kernel) (by decide +kernel), by decide +kernel, by decide +kernel⟩, tb5 47 (by decide +kernel) (by decide +kernel), tbp 32 (by decide +kernel) (by decide +kernel)⟩
def mX6_init : MD := (yX6_init, cX6_init, 1, none)
theorem mnX6_init : MN mX6_init 0 := ⟨⟨tb1 37 (by decide +kernel) (by decide +kernel), tb1 2 (by decide +kernel) (by decide +kernel), by decide +kernel, by decide +kernel⟩, tb1 36 (by decide +kernel) (by decide +kernel), by decide +kernel, rfl⟩
def mX6_read : MD := (yX6_read, cX6_read, 5, (some .int))
theorem mfX6_read : MI mX6_read 3 := ⟨⟨tb3 123 (by decide +kernel) (by decide +kernel), tb1 2 (by decide +kernel) (by decide +kernel), by decide +kernel, by decide +kernel⟩, tb3 121 (by decide +kernel) (by decide +kernel), tb3 122 (by decide +kernel) (by decide +kernel)⟩
def mX6_readLine : MD := (yX6_readLine, cX6_readLine, 2, none)
theorem mfX6_readLine : MI mX6_readLine 1 := ⟨⟨tb3 137 (by decide +kernel) (by decide +kernel), tb1 2 (by decide +kernel) (by decide +kernel), by decide +kernel, by decide +kernel⟩, tb3 136 (by decide +kernel) (by decide +kernel), tbp 6 (by decide +kernel) (by decide +kernel)⟩
def mX6_readEarth : MD := (yX6_readEarth, cX6_readEarth, 5, none)
theorem mfX6_readEarth : MI mX6_readEarth 1 := ⟨⟨tb3 194 (by decide +kernel) (by decide +kernel), tb1 2 (by decide +kernel) (by decide +kernel), by decide +kernel, by decide +kernel⟩, tb3 193 (by decide +kernel) (by decide +kernel), tbp 8 (by decide +kernel) (by decide +kernel)⟩
def mX6_readWall : MD := (yX6_readWall, cX6_readWall, 3, none)
theorem mfX6_readWall : MI mX6_readWall 1 := ⟨⟨tb3 212 (by decide +kernel) (by decide +kernel), tb1 2 (by decide +kernel) (by decide +kernel), by decide +kernel, by decide +kernel⟩, tb3 211 (by decide +kernel) (by decide +kernel), tbp 12 (by decide +kernel) (by decide +kernel)⟩
def mX6_readWeek : MD := (yX6_readWeek, cX6_readWeek, 3, none)
theorem mfX6_readWeek : MI mX6_readWeek 1 := ⟨⟨tb3 230 (by decide +kernel) (by decide +kernel), tb1 2 (by decide +kernel) (by decide +kernel), by decide +kernel, by decide +kernel⟩, tb3 229 (by decide +kernel) (by decide +kernel), tbp 15 (by decide +kernel) (by decide +kernel)⟩
def mX6_refuse : MD := (yX6_refuse, cX6_refuse, 2, none)
theorem mfX6_refuse : MI mX6_refuse 1 := ⟨⟨tb3 198 (by decide +kernel) (by decide +kernel), tb1 2 (by decide +kernel) (by decide +kernel), by decide +kernel, by decide +kernel⟩, tb3 197 (by decide +kernel) (by decide +kernel), tbp 9 (by decide +kernel) (by decide +kernel)⟩
def mX6_takeNumber : MD := (yX6_takeNumber, cX6_takeNumber, 4, (some .int))
theorem mfX6_takeNumber : MI mX6_takeNumber 2 := ⟨⟨tb3 202 (by decide +kernel) (by decide +kernel), tb1 2 (by decide +kernel) (by decide +kernel), by decide +kernel, by decide +kernel⟩, tb3 201 (by decide +kernel) (by decide +kernel), tbp 10 (by decide +kernel) (by decide +kernel)⟩
def mX6_takeOption : MD := (yX6_takeOption, cX6_takeOption, 4, (some .int))
theorem mfX6_takeOption : MI mX6_takeOption 3 := ⟨⟨tb3 217 (by decide +kernel) (by decide +kernel), tb1 2 (by decide +kernel) (by decide +kernel), by decide +kernel, by decide +kernel⟩, tb3 216 (by decide +kernel) (by decide +kernel), tbp 13 (by decide +kernel) (by decide +kernel)⟩
def mX6_takeWord : MD := (yX6_takeWord, cX6_takeWord, 2, (some .boolean))
theorem mfX6_takeWord : MI mX6_takeWord 1 := ⟨⟨tb3 221 (by decide +kernel) (by decide +kernel), tb1 2 (by decide +kernel) (by decide +kernel), by decide +kernel, by decide +kernel⟩, tb3 220 (by decide +kernel) (by decide +kernel), tbp 14 (by decide +kernel) (by decide +kernel)⟩
def mX6_atWord : MD := (yX6_atWord, cX6_atWord, 3, (some .boolean))
theorem mfX6_atWord : MI mX6_atWord 1 := ⟨⟨tb3 142 (by decide +kernel) (by decide +kernel), tb1 2 (by decide +kernel) (by decide +kernel), by decide +kernel, by decide +kernel⟩, tb3 141 (by decide +kernel) (by decide +kernel), tbp 7 (by decide +kernel) (by decide +kernel)⟩
def mX6_numberAtHand : MD := (yX6_numberAtHand, cX6_numberAtHand, 3, (some .int))
theorem mfX6_numberAtHand : MI mX6_numberAtHand 0 := ⟨⟨tb3 206 (by decide +kernel) (by decide +kernel), tb1 2 (by decide +kernel) (by decide +kernel), by decide +kernel, by decide +kernel⟩, tb3 205 (by decide +kernel) (by decide +kernel), tbp 11 (by decide +kernel) (by decide +kernel)⟩
def mX6_advance : MD := (yX6_advance, cX6_advance, 3, none)
theorem mfX6_advance : MI mX6_advance 0 := ⟨⟨tb3 130 (by decide +kernel) (by decide +kernel), tb1 2 (by decide +kernel) (by decide +kernel), by decide +kernel, by decide +kernel⟩, tb3 129 (by decide +kernel) (by decide +kernel), tbp 5 (by decide +kernel) (by decide +kernel)⟩
def mX6_kindOf : MD := (yX6_kindOf, cX6_kindOf, 1, (some .int))
theorem mfX6_kindOf : MS mX6_kindOf 1 := ⟨⟨tb3 133 (by decide +kernel) (by decide +kernel), tb1 2 (by decide +kernel) (by decide +kernel), by decide +kernel, by decide +kernel⟩, tb3 132 (by decide +kernel) (by decide +kernel)⟩
def mX7_init : MD := (yX7_init, cX7_init, 3, none)
theorem mnX7_init : MN mX7_init 2 := ⟨⟨tb2 42 (by decide +kernel) (by decide +kernel), tb1 9 (by decide +kernel) (by decide +kernel), by decide +kernel, by decide +kernel⟩, tb2 41 (by decide +kernel) (by decide +kernel), by decide +kernel, rfl⟩
def mX7_search : MD := (yX7_search, cX7_search, 4, none)
theorem mfX7_search : MI mX7_search 3 := ⟨⟨tb5 79 (by decide +kernel) (by decide +kernel), tb1 9 (by decide +kernel) (by decide +kernel), by decide +kernel, by decide +kernel⟩, tb5 77 (by decide +kernel) (by decide +kernel), tb5 78 (by decide +kernel) (by decide +kernel)⟩
def mX7_seek : MD := (yX7_seek, cX7_seek, 6, none)
theorem mfX7_seek : MI mX7_seek 3 := ⟨⟨tb5 84 (by decide +kernel) (by decide +kernel), tb1 9 (by decide +kernel) (by decide +kernel), by decide +kernel, by decide +kernel⟩, tb5 83 (by decide +kernel) (by decide +kernel), tbp 33 (by decide +kernel) (by decide +kernel)⟩
def mX7_goOn : MD := (yX7_goOn, cX7_goOn, 5, none)
theorem mfX7_goOn : MI mX7_goOn 3 := ⟨⟨tb5 90 (by decide +kernel) (by decide +kernel), tb1 9 (by decide +kernel) (by decide +kernel), by decide +kernel, by decide +kernel⟩, tb5 89 (by decide +kernel) (by decide +kernel), tbp 34 (by decide +kernel) (by decide +kernel)⟩
def mX8_init : MD := (yX8_init, cX8_init, 2, none)
theorem mnX8_init : MN mX8_init 1 := ⟨⟨tb1 134 (by decide +kernel) (by decide +kernel), tb1 5 (by decide +kernel) (by decide +kernel), by decide +kernel, by decide +kernel⟩, tb1 133 (by decide +kernel) (by decide +kernel), by decide +kernel, rfl⟩
def mX8_begin : MD := (yX8_begin, cX8_begin, 3, none)
theorem mfX8_begin : MI mX8_begin 1 := ⟨⟨tb4 4 (by decide +kernel) (by decide +kernel), tb1 5 (by decide +kernel) (by decide +kernel), by decide +kernel, by decide +kernel⟩, tb4 2 (by decide +kernel) (by decide +kernel), tb4 3 (by decide +kernel) (by decide +kernel)⟩
def mX8_become : MD := (yX8_become, cX8_become, 2, none)
theorem mfX8_become : MI mX8_become 1 := ⟨⟨tb3 37 (by decide +kernel) (by decide +kernel), tb1 5 (by decide +kernel) (by decide +kernel), by decide +kernel, by decide +kernel⟩, tb3 35 (by decide +kernel) (by decide +kernel), tb3 36 (by decide +kernel) (by decide +kernel)⟩
def mX8_standsLike : MD := (yX8_standsLike, cX8_standsLike, 5, (some .boolean))
theorem mfX8_standsLike : MI mX8_standsLike 1 := ⟨⟨tb5 116 (by decide +kernel) (by decide +kernel), tb1 5 (by decide +kernel) (by decide +kernel), by decide +kernel, by decide +kernel⟩, tb5 114 (by decide +kernel) (by decide +kernel), tb5 115 (by decide +kernel) (by decide +kernel)⟩
def mX8_raise : MD := (yX8_raise, cX8_raise, 5, none)
theorem mfX8_raise : MI mX8_raise 1 := ⟨⟨tb4 147 (by decide +kernel) (by decide +kernel), tb1 5 (by decide +kernel) (by decide +kernel), by decide +kernel, by decide +kernel⟩, tb4 145 (by decide +kernel) (by decide +kernel), tb4 146 (by decide +kernel) (by decide +kernel)⟩
def mX8_dropFrom : MD := (yX8_dropFrom, cX8_dropFrom, 2, none)
theorem mfX8_dropFrom : MI mX8_dropFrom 1 := ⟨⟨tb4 158 (by decide +kernel) (by decide +kernel), tb1 5 (by decide +kernel) (by decide +kernel), by decide +kernel, by decide +kernel⟩, tb4 156 (by decide +kernel) (by decide +kernel), tb4 157 (by decide +kernel) (by decide +kernel)⟩
def mX8_fallFrom : MD := (yX8_fallFrom, cX8_fallFrom, 2, none)
theorem mfX8_fallFrom : MI mX8_fallFrom 1 := ⟨⟨tb4 232 (by decide +kernel) (by decide +kernel), tb1 5 (by decide +kernel) (by decide +kernel), by decide +kernel, by decide +kernel⟩, tb4 230 (by decide +kernel) (by decide +kernel), tb4 231 (by decide +kernel) (by decide +kernel)⟩
def mX8_whyGivesWay : MD := (yX8_whyGivesWay, cX8_whyGivesWay, 6, (some .int))
theorem mfX8_whyGivesWay : MI mX8_whyGivesWay 1 := ⟨⟨tb4 236 (by decide +kernel) (by decide +kernel), tb1 5 (by decide +kernel) (by decide +kernel), by decide +kernel, by decide +kernel⟩, tb4 235 (by decide +kernel) (by decide +kernel), tbp 29 (by decide +kernel) (by decide +kernel)⟩
def mX8_waterFrom : MD := (yX8_waterFrom, cX8_waterFrom, 6, (some .int))
theorem mfX8_waterFrom : MI mX8_waterFrom 1 := ⟨⟨tb4 71 (by decide +kernel) (by decide +kernel), tb1 5 (by decide +kernel) (by decide +kernel), by decide +kernel, by decide +kernel⟩, tb4 69 (by decide +kernel) (by decide +kernel), tb4 70 (by decide +kernel) (by decide +kernel)⟩
def mX8_pour : MD := (yX8_pour, cX8_pour, 4, none)
theorem mfX8_pour : MI mX8_pour 2 := ⟨⟨tb4 197 (by decide +kernel) (by decide +kernel), tb1 5 (by decide +kernel) (by decide +kernel), by decide +kernel, by decide +kernel⟩, tb4 195 (by decide +kernel) (by decide +kernel), tb4 196 (by decide +kernel) (by decide +kernel)⟩
def mX8_evaporate : MD := (yX8_evaporate, cX8_evaporate, 4, none)
theorem mfX8_evaporate : MI mX8_evaporate 2 := ⟨⟨tb4 214 (by decide +kernel) (by decide +kernel), tb1 5 (by decide +kernel) (by decide +kernel), by decide +kernel, by decide +kernel⟩, tb4 212 (by decide +kernel) (by decide +kernel), tb4 213 (by decide +kernel) (by decide +kernel)⟩
def mX8_crack : MD := (yX8_crack, cX8_crack, 2, none)
theorem mfX8_crack : MI mX8_crack 1 := ⟨⟨tb4 222 (by decide +kernel) (by decide +kernel), tb1 5 (by decide +kernel) (by decide +kernel), by decide +kernel, by decide +kernel⟩, tb4 220 (by decide +kernel) (by decide +kernel), tb4 221 (by decide +kernel) (by decide +kernel)⟩
def mX8_makeHollow : MD := (yX8_makeHollow, cX8_makeHollow, 2, none)
theorem mfX8_makeHollow : MI mX8_makeHollow 1 := ⟨⟨tb4 170 (by decide +kernel) (by decide +kernel), tb1 5 (by decide +kernel) (by decide +kernel), by decide +kernel, by decide +kernel⟩, tb4 168 (by decide +kernel) (by decide +kernel), tb4 169 (by decide +kernel) (by decide +kernel)⟩
def mX8_isCracked : MD := (yX8_isCracked, cX8_isCracked, 2, (some .boolean))
theorem mfX8_isCracked : MI mX8_isCracked 1 := ⟨⟨tb4 93 (by decide +kernel) (by decide +kernel), tb1 5 (by decide +kernel) (by decide +kernel), by decide +kernel, by decide +kernel⟩, tb4 91 (by decide +kernel) (by decide +kernel), tb4 92 (by decide +kernel) (by decide +kernel)⟩
def mX8_isHollow : MD := (yX8_isHollow, cX8_isHollow, 2, (some .boolean))
theorem mfX8_isHollow : MI mX8_isHollow 1 := ⟨⟨tb4 97 (by decide +kernel) (by decide +kernel), tb1 5 (by decide +kernel) (by decide +kernel), by decide +kernel, by decide +kernel⟩, tb4 95 (by decide +kernel) (by decide +kernel), tb4 96 (by decide +kernel) (by decide +kernel)⟩
def mX8_stiffness : MD := (yX8_stiffness, cX8_stiffness, 2, (some .int))
theorem mfX8_stiffness : MI mX8_stiffness 1 := ⟨⟨tb4 109 (by decide +kernel) (by decide +kernel), tb1 5 (by decide +kernel) (by decide +kernel), by decide +kernel, by decide +kernel⟩, tb4 107 (by decide +kernel) (by decide +kernel), tb4 108 (by decide +kernel) (by decide +kernel)⟩
def mX8_strength : MD := (yX8_strength, cX8_strength, 5, (some .int))
theorem mfX8_strength : MI mX8_strength 1 := ⟨⟨tb4 101 (by decide +kernel) (by decide +kernel), tb1 5 (by decide +kernel) (by decide +kernel), by decide +kernel, by decide +kernel⟩, tb4 99 (by decide +kernel) (by decide +kernel), tb4 100 (by decide +kernel) (by decide +kernel)⟩
def mX8_load : MD := (yX8_load, cX8_load, 2, (some .int))
theorem mfX8_load : MI mX8_load 1 := ⟨⟨tb4 105 (by decide +kernel) (by decide +kernel), tb1 5 (by decide +kernel) (by decide +kernel), by decide +kernel, by decide +kernel⟩, tb4 103 (by decide +kernel) (by decide +kernel), tb4 104 (by decide +kernel) (by decide +kernel)⟩
def mX8_propBears : MD := (yX8_propBears, cX8_propBears, 1, (some .int))
theorem mfX8_propBears : MI mX8_propBears 0 := ⟨⟨tb4 125 (by decide +kernel) (by decide +kernel), tb1 5 (by decide +kernel) (by decide +kernel), by decide +kernel, by decide +kernel⟩, tb4 124 (by decide +kernel) (by decide +kernel), tbp 22 (by decide +kernel) (by decide +kernel)⟩
def mX8_bears : MD := (yX8_bears, cX8_bears, 5, (some .int))
theorem mfX8_bears : MI mX8_bears 1 := ⟨⟨tb4 121 (by decide +kernel) (by decide +kernel), tb1 5 (by decide +kernel) (by decide +kernel), by decide +kernel, by decide +kernel⟩, tb4 119 (by decide +kernel) (by decide +kernel), tb4 120 (by decide +kernel) (by decide +kernel)⟩
def mX8_loads : MD := (yX8_loads, cX8_loads, 5, (some .int))
theorem mfX8_loads : MI mX8_loads 1 := ⟨⟨tb4 134 (by decide +kernel) (by decide +kernel), tb1 5 (by decide +kernel) (by decide +kernel), by decide +kernel, by decide +kernel⟩, tb4 132 (by decide +kernel) (by decide +kernel), tb4 133 (by decide +kernel) (by decide +kernel)⟩
def mX8_presses : MD := (yX8_presses, cX8_presses, 4, (some .int))
theorem mfX8_presses : MI mX8_presses 1 := ⟨⟨tb4 130 (by decide +kernel) (by decide +kernel), tb1 5 (by decide +kernel) (by decide +kernel), by decide +kernel, by decide +kernel⟩, tb4 128 (by decide +kernel) (by decide +kernel), tb4 129 (by decide +kernel) (by decide +kernel)⟩
def mX8_spare : MD := (yX8_spare, cX8_spare, 4, (some .int))
theorem mfX8_spare : MI mX8_spare 0 := ⟨⟨tb5 12 (by decide +kernel) (by decide +kernel), tb1 5 (by decide +kernel) (by decide +kernel), by decide +kernel, by decide +kernel⟩, tb5 11 (by decide +kernel) (by decide +kernel), tbp 30 (by decide +kernel) (by decide +kernel)⟩
def mX8_anySits : MD := (yX8_anySits, cX8_anySits, 1, (some .boolean))
theorem mfX8_anySits : MI mX8_anySits 0 := ⟨⟨tb5 53 (by decide +kernel) (by decide +kernel), tb1 5 (by decide +kernel) (by decide +kernel), by decide +kernel, by decide +kernel⟩, tb5 51 (by decide +kernel) (by decide +kernel), tb5 52 (by decide +kernel) (by decide +kernel)⟩
def mX8_roomAbove : MD := (yX8_roomAbove, cX8_roomAbove, 6, (some .int))
theorem mfX8_roomAbove : MI mX8_roomAbove 0 := ⟨⟨tb5 8 (by decide +kernel) (by decide +kernel), tb1 5 (by decide +kernel) (by decide +kernel), by decide +kernel, by decide +kernel⟩, tb5 6 (by decide +kernel) (by decide +kernel), tb5 7 (by decide +kernel) (by decide +kernel)⟩
def mX8_improve : MD := (yX8_improve, cX8_improve, 2, none)
theorem mfX8_improve : MI mX8_improve 1 := ⟨⟨tb5 135 (by decide +kernel) (by decide +kernel), tb1 5 (by decide +kernel) (by decide +kernel), by decide +kernel, by decide +kernel⟩, tb5 133 (by decide +kernel) (by decide +kernel), tb5 134 (by decide +kernel) (by decide +kernel)⟩
def mX8_footIsPaste : MD := (yX8_footIsPaste, cX8_footIsPaste, 2, (some .boolean))
theorem mfX8_footIsPaste : MI mX8_footIsPaste 0 := ⟨⟨tb5 112 (by decide +kernel) (by decide +kernel), tb1 5 (by decide +kernel) (by decide +kernel), by decide +kernel, by decide +kernel⟩, tb5 110 (by decide +kernel) (by decide +kernel), tb5 111 (by decide +kernel) (by decide +kernel)⟩
def mX8_bulges : MD := (yX8_bulges, cX8_bulges, 3, (some .int))
theorem mfX8_bulges : MI mX8_bulges 0 := ⟨⟨tb5 155 (by decide +kernel) (by decide +kernel), tb1 5 (by decide +kernel) (by decide +kernel), by decide +kernel, by decide +kernel⟩, tb5 153 (by decide +kernel) (by decide +kernel), tb5 154 (by decide +kernel) (by decide +kernel)⟩
def mX9_init : MD := (yX9_init, cX9_init, 2, none)
theorem mnX9_init : MN mX9_init 1 := ⟨⟨tb1 223 (by decide +kernel) (by decide +kernel), tb1 6 (by decide +kernel) (by decide +kernel), by decide +kernel, by decide +kernel⟩, tb1 222 (by decide +kernel) (by decide +kernel), by decide +kernel, rfl⟩
def mX9_pass : MD := (yX9_pass, cX9_pass, 6, (some .boolean))
theorem mfX9_pass : MI mX9_pass 1 := ⟨⟨tb4 185 (by decide +kernel) (by decide +kernel), tb1 6 (by decide +kernel) (by decide +kernel), by decide +kernel, by decide +kernel⟩, tb4 183 (by decide +kernel) (by decide +kernel), tb4 184 (by decide +kernel) (by decide +kernel)⟩
def mX9_wet : MD := (yX9_wet, cX9_wet, 7, none)
theorem mfX9_wet : MI mX9_wet 2 := ⟨⟨tb4 193 (by decide +kernel) (by decide +kernel), tb1 6 (by decide +kernel) (by decide +kernel), by decide +kernel, by decide +kernel⟩, tb4 192 (by decide +kernel) (by decide +kernel), tbp 23 (by decide +kernel) (by decide +kernel)⟩
def mX9_move : MD := (yX9_move, cX9_move, 6, none)
theorem mfX9_move : MI mX9_move 1 := ⟨⟨tb4 202 (by decide +kernel) (by decide +kernel), tb1 6 (by decide +kernel) (by decide +kernel), by decide +kernel, by decide +kernel⟩, tb4 201 (by decide +kernel) (by decide +kernel), tbp 24 (by decide +kernel) (by decide +kernel)⟩
def mX9_flow : MD := (yX9_flow, cX9_flow, 6, none)
theorem mfX9_flow : MI mX9_flow 4 := ⟨⟨tb4 206 (by decide +kernel) (by decide +kernel), tb1 6 (by decide +kernel) (by decide +kernel), by decide +kernel, by decide +kernel⟩, tb4 205 (by decide +kernel) (by decide +kernel), tbp 25 (by decide +kernel) (by decide +kernel)⟩
def mX9_dry : MD := (yX9_dry, cX9_dry, 9, none)
theorem mfX9_dry : MI mX9_dry 2 := ⟨⟨tb4 210 (by decide +kernel) (by decide +kernel), tb1 6 (by decide +kernel) (by decide +kernel), by decide +kernel, by decide +kernel⟩, tb4 209 (by decide +kernel) (by decide +kernel), tbp 26 (by decide +kernel) (by decide +kernel)⟩
def mX9_crackAll : MD := (yX9_crackAll, cX9_crackAll, 7, none)
theorem mfX9_crackAll : MI mX9_crackAll 2 := ⟨⟨tb4 218 (by decide +kernel) (by decide +kernel), tb1 6 (by decide +kernel) (by decide +kernel), by decide +kernel, by decide +kernel⟩, tb4 217 (by decide +kernel) (by decide +kernel), tbp 27 (by decide +kernel) (by decide +kernel)⟩
def mX9_settle : MD := (yX9_settle, cX9_settle, 6, (some .int))
theorem mfX9_settle : MI mX9_settle 1 := ⟨⟨tb4 226 (by decide +kernel) (by decide +kernel), tb1 6 (by decide +kernel) (by decide +kernel), by decide +kernel, by decide +kernel⟩, tb4 225 (by decide +kernel) (by decide +kernel), tbp 28 (by decide +kernel) (by decide +kernel)⟩
def mX10_init : MD := (yX10_init, cX10_init, 1, none)
theorem mnX10_init : MN mX10_init 0 := ⟨⟨tb1 68 (by decide +kernel) (by decide +kernel), tb1 3 (by decide +kernel) (by decide +kernel), by decide +kernel, by decide +kernel⟩, tb1 67 (by decide +kernel) (by decide +kernel), by decide +kernel, rfl⟩
def mX10_clear : MD := (yX10_clear, cX10_clear, 1, none)
theorem mfX10_clear : MI mX10_clear 0 := ⟨⟨tb1 73 (by decide +kernel) (by decide +kernel), tb1 3 (by decide +kernel) (by decide +kernel), by decide +kernel, by decide +kernel⟩, tb1 71 (by decide +kernel) (by decide +kernel), tb1 72 (by decide +kernel) (by decide +kernel)⟩
def mX10_setEarth : MD := (yX10_setEarth, cX10_setEarth, 4, none)
theorem mfX10_setEarth : MI mX10_setEarth 3 := ⟨⟨tb1 77 (by decide +kernel) (by decide +kernel), tb1 3 (by decide +kernel) (by decide +kernel), by decide +kernel, by decide +kernel⟩, tb1 75 (by decide +kernel) (by decide +kernel), tb1 76 (by decide +kernel) (by decide +kernel)⟩
def mX10_become : MD := (yX10_become, cX10_become, 2, none)
theorem mfX10_become : MI mX10_become 1 := ⟨⟨tb3 239 (by decide +kernel) (by decide +kernel), tb1 3 (by decide +kernel) (by decide +kernel), by decide +kernel, by decide +kernel⟩, tb3 237 (by decide +kernel) (by decide +kernel), tb3 238 (by decide +kernel) (by decide +kernel)⟩
def mX11_init : MD := (yX11_init, cX11_init, 2, none)
theorem mnX11_init : MN mX11_init 0 := ⟨⟨tb1 29 (by decide +kernel) (by decide +kernel), tb1 1 (by decide +kernel) (by decide +kernel), by decide +kernel, by decide +kernel⟩, tb1 28 (by decide +kernel) (by decide +kernel), by decide +kernel, rfl⟩
def mX11_manyWalls : MD := (yX11_manyWalls, cX11_manyWalls, 4, (some (.array (.object "MudWalls$Wall"))))
theorem mfX11_manyWalls : MS mX11_manyWalls 2 := ⟨⟨tb1 125 (by decide +kernel) (by decide +kernel), tb1 1 (by decide +kernel) (by decide +kernel), by decide +kernel, by decide +kernel⟩, tb1 124 (by decide +kernel) (by decide +kernel)⟩
def mX11_feed : MD := (yX11_feed, cX11_feed, 6, (some .int))
theorem mfX11_feed : MI mX11_feed 5 := ⟨⟨tb2 220 (by decide +kernel) (by decide +kernel), tb1 1 (by decide +kernel) (by decide +kernel), by decide +kernel, by decide +kernel⟩, tb2 218 (by decide +kernel) (by decide +kernel), tb2 219 (by decide +kernel) (by decide +kernel)⟩
def mX11_putNumber : MD := (yX11_putNumber, cX11_putNumber, 3, none)
theorem mfX11_putNumber : MI mX11_putNumber 1 := ⟨⟨tb2 224 (by decide +kernel) (by decide +kernel), tb1 1 (by decide +kernel) (by decide +kernel), by decide +kernel, by decide +kernel⟩, tb2 223 (by decide +kernel) (by decide +kernel), tbp 1 (by decide +kernel) (by decide +kernel)⟩
def mX11_yard : MD := (yX11_yard, cX11_yard, 3, (some .int))
theorem mfX11_yard : MI mX11_yard 1 := ⟨⟨tb3 53 (by decide +kernel) (by decide +kernel), tb1 1 (by decide +kernel) (by decide +kernel), by decide +kernel, by decide +kernel⟩, tb3 51 (by decide +kernel) (by decide +kernel), tb3 52 (by decide +kernel) (by decide +kernel)⟩
def mX11_beginAnew : MD := (yX11_beginAnew, cX11_beginAnew, 2, none)
theorem mfX11_beginAnew : MI mX11_beginAnew 0 := ⟨⟨tb3 235 (by decide +kernel) (by decide +kernel), tb1 1 (by decide +kernel) (by decide +kernel), by decide +kernel, by decide +kernel⟩, tb3 234 (by decide +kernel) (by decide +kernel), tbp 16 (by decide +kernel) (by decide +kernel)⟩
def mX11_fault : MD := (yX11_fault, cX11_fault, 1, (some .int))
theorem mfX11_fault : MI mX11_fault 0 := ⟨⟨tb2 228 (by decide +kernel) (by decide +kernel), tb1 1 (by decide +kernel) (by decide +kernel), by decide +kernel, by decide +kernel⟩, tb2 226 (by decide +kernel) (by decide +kernel), tb2 227 (by decide +kernel) (by decide +kernel)⟩
def mX11_count : MD := (yX11_count, cX11_count, 2, (some .int))
theorem mfX11_count : MI mX11_count 1 := ⟨⟨tb4 31 (by decide +kernel) (by decide +kernel), tb1 1 (by decide +kernel) (by decide +kernel), by decide +kernel, by decide +kernel⟩, tb4 29 (by decide +kernel) (by decide +kernel), tb4 30 (by decide +kernel) (by decide +kernel)⟩
def mX11_waterCome : MD := (yX11_waterCome, cX11_waterCome, 3, (some .int))
theorem mfX11_waterCome : MI mX11_waterCome 0 := ⟨⟨tb4 35 (by decide +kernel) (by decide +kernel), tb1 1 (by decide +kernel) (by decide +kernel), by decide +kernel, by decide +kernel⟩, tb4 34 (by decide +kernel) (by decide +kernel), tbp 17 (by decide +kernel) (by decide +kernel)⟩
def mX11_waterGone : MD := (yX11_waterGone, cX11_waterGone, 3, (some .int))
theorem mfX11_waterGone : MI mX11_waterGone 0 := ⟨⟨tb4 39 (by decide +kernel) (by decide +kernel), tb1 1 (by decide +kernel) (by decide +kernel), by decide +kernel, by decide +kernel⟩, tb4 38 (by decide +kernel) (by decide +kernel), tbp 18 (by decide +kernel) (by decide +kernel)⟩
def mX11_wallAt : MD := (yX11_wallAt, cX11_wallAt, 2, (some (.object "MudWalls$Wall")))
theorem mfX11_wallAt : MI mX11_wallAt 1 := ⟨⟨tb4 66 (by decide +kernel) (by decide +kernel), tb1 1 (by decide +kernel) (by decide +kernel), by decide +kernel, by decide +kernel⟩, tb4 65 (by decide +kernel) (by decide +kernel), tbp 19 (by decide +kernel) (by decide +kernel)⟩
def mX11_wallWithLayer : MD := (yX11_wallWithLayer, cX11_wallWithLayer, 4, (some (.object "MudWalls$Wall")))
theorem mfX11_wallWithLayer : MI mX11_wallWithLayer 2 := ⟨⟨tb4 87 (by decide +kernel) (by decide +kernel), tb1 1 (by decide +kernel) (by decide +kernel), by decide +kernel, by decide +kernel⟩, tb4 86 (by decide +kernel) (by decide +kernel), tbp 21 (by decide +kernel) (by decide +kernel)⟩
def mX11_wallWithCell : MD := (yX11_wallWithCell, cX11_wallWithCell, 5, (some (.object "MudWalls$Wall")))
theorem mfX11_wallWithCell : MI mX11_wallWithCell 3 := ⟨⟨tb4 83 (by decide +kernel) (by decide +kernel), tb1 1 (by decide +kernel) (by decide +kernel), by decide +kernel, by decide +kernel⟩, tb4 82 (by decide +kernel) (by decide +kernel), tbp 20 (by decide +kernel) (by decide +kernel)⟩
def mX11_wall : MD := (yX11_wall, cX11_wall, 4, (some .int))
theorem mfX11_wall : MI mX11_wall 2 := ⟨⟨tb4 62 (by decide +kernel) (by decide +kernel), tb1 1 (by decide +kernel) (by decide +kernel), by decide +kernel, by decide +kernel⟩, tb4 60 (by decide +kernel) (by decide +kernel), tb4 61 (by decide +kernel) (by decide +kernel)⟩
def mX11_cell : MD := (yX11_cell, cX11_cell, 7, (some .int))
theorem mfX11_cell : MI mX11_cell 4 := ⟨⟨tb4 79 (by decide +kernel) (by decide +kernel), tb1 1 (by decide +kernel) (by decide +kernel), by decide +kernel, by decide +kernel⟩, tb4 77 (by decide +kernel) (by decide +kernel), tb4 78 (by decide +kernel) (by decide +kernel)⟩
def mX11_layer : MD := (yX11_layer, cX11_layer, 5, (some .int))
theorem mfX11_layer : MI mX11_layer 3 := ⟨⟨tb4 117 (by decide +kernel) (by decide +kernel), tb1 1 (by decide +kernel) (by decide +kernel), by decide +kernel, by decide +kernel⟩, tb4 115 (by decide +kernel) (by decide +kernel), tb4 116 (by decide +kernel) (by decide +kernel)⟩
def mX11_lift : MD := (yX11_lift, cX11_lift, 4, (some .int))
theorem mfX11_lift : MI mX11_lift 2 := ⟨⟨tb4 143 (by decide +kernel) (by decide +kernel), tb1 1 (by decide +kernel) (by decide +kernel), by decide +kernel, by decide +kernel⟩, tb4 141 (by decide +kernel) (by decide +kernel), tb4 142 (by decide +kernel) (by decide +kernel)⟩
def mX11_down : MD := (yX11_down, cX11_down, 3, (some .int))
theorem mfX11_down : MI mX11_down 1 := ⟨⟨tb4 154 (by decide +kernel) (by decide +kernel), tb1 1 (by decide +kernel) (by decide +kernel), by decide +kernel, by decide +kernel⟩, tb4 152 (by decide +kernel) (by decide +kernel), tb4 153 (by decide +kernel) (by decide +kernel)⟩
def mX11_hollow : MD := (yX11_hollow, cX11_hollow, 4, none)
theorem mfX11_hollow : MI mX11_hollow 3 := ⟨⟨tb4 166 (by decide +kernel) (by decide +kernel), tb1 1 (by decide +kernel) (by decide +kernel), by decide +kernel, by decide +kernel⟩, tb4 164 (by decide +kernel) (by decide +kernel), tb4 165 (by decide +kernel) (by decide +kernel)⟩
def mX11_weeks : MD := (yX11_weeks, cX11_weeks, 6, (some .int))
theorem mfX11_weeks : MI mX11_weeks 2 := ⟨⟨tb4 177 (by decide +kernel) (by decide +kernel), tb1 1 (by decide +kernel) (by decide +kernel), by decide +kernel, by decide +kernel⟩, tb4 175 (by decide +kernel) (by decide +kernel), tb4 176 (by decide +kernel) (by decide +kernel)⟩
def mX11_checkRange : MD := (yX11_checkRange, cX11_checkRange, 3, none)
theorem mfX11_checkRange : MS mX11_checkRange 3 := ⟨⟨tb4 180 (by decide +kernel) (by decide +kernel), tb1 1 (by decide +kernel) (by decide +kernel), by decide +kernel, by decide +kernel⟩, tb4 179 (by decide +kernel) (by decide +kernel)⟩
def mX11_checkWhat : MD := (yX11_checkWhat, cX11_checkWhat, 2, none)
theorem mfX11_checkWhat : MS mX11_checkWhat 2 := ⟨⟨tb5 73 (by decide +kernel) (by decide +kernel), tb1 1 (by decide +kernel) (by decide +kernel), by decide +kernel, by decide +kernel⟩, tb5 72 (by decide +kernel) (by decide +kernel)⟩
def mX11_high : MD := (yX11_high, cX11_high, 2, (some .int))
theorem mfX11_high : MI mX11_high 1 := ⟨⟨tb5 4 (by decide +kernel) (by decide +kernel), tb1 1 (by decide +kernel) (by decide +kernel), by decide +kernel, by decide +kernel⟩, tb5 2 (by decide +kernel) (by decide +kernel), tb5 3 (by decide +kernel) (by decide +kernel)⟩
def mX11_when : MD := (yX11_when, cX11_when, 4, (some .int))
theorem mfX11_when : MI mX11_when 2 := ⟨⟨tb5 21 (by decide +kernel) (by decide +kernel), tb1 1 (by decide +kernel) (by decide +kernel), by decide +kernel, by decide +kernel⟩, tb5 19 (by decide +kernel) (by decide +kernel), tb5 20 (by decide +kernel) (by decide +kernel)⟩
def mX11_plan : MD := (yX11_plan, cX11_plan, 4, (some .int))
theorem mfX11_plan : MI mX11_plan 2 := ⟨⟨tb5 35 (by decide +kernel) (by decide +kernel), tb1 1 (by decide +kernel) (by decide +kernel), by decide +kernel, by decide +kernel⟩, tb5 33 (by decide +kernel) (by decide +kernel), tb5 34 (by decide +kernel) (by decide +kernel)⟩
def mX11_planned : MD := (yX11_planned, cX11_planned, 2, (some .int))
theorem mfX11_planned : MI mX11_planned 1 := ⟨⟨tb5 62 (by decide +kernel) (by decide +kernel), tb1 1 (by decide +kernel) (by decide +kernel), by decide +kernel, by decide +kernel⟩, tb5 60 (by decide +kernel) (by decide +kernel), tb5 61 (by decide +kernel) (by decide +kernel)⟩
def mX11_turned : MD := (yX11_turned, cX11_turned, 7, (some .int))
theorem mfX11_turned : MI mX11_turned 4 := ⟨⟨tb5 70 (by decide +kernel) (by decide +kernel), tb1 1 (by decide +kernel) (by decide +kernel), by decide +kernel, by decide +kernel⟩, tb5 68 (by decide +kernel) (by decide +kernel), tb5 69 (by decide +kernel) (by decide +kernel)⟩
def mX11_line : MD := (yX11_line, cX11_line, 5, (some .int))
theorem mfX11_line : MI mX11_line 3 := ⟨⟨tb5 99 (by decide +kernel) (by decide +kernel), tb1 1 (by decide +kernel) (by decide +kernel), by decide +kernel, by decide +kernel⟩, tb5 97 (by decide +kernel) (by decide +kernel), tb5 98 (by decide +kernel) (by decide +kernel)⟩
def mX11_work : MD := (yX11_work, cX11_work, 4, none)
theorem mfX11_work : MI mX11_work 2 := ⟨⟨tb5 131 (by decide +kernel) (by decide +kernel), tb1 1 (by decide +kernel) (by decide +kernel), by decide +kernel, by decide +kernel⟩, tb5 129 (by decide +kernel) (by decide +kernel), tb5 130 (by decide +kernel) (by decide +kernel)⟩
def mX11_order : MD := (yX11_order, cX11_order, 4, (some .int))
theorem mfX11_order : MI mX11_order 2 := ⟨⟨tb5 142 (by decide +kernel) (by decide +kernel), tb1 1 (by decide +kernel) (by decide +kernel), by decide +kernel, by decide +kernel⟩, tb5 140 (by decide +kernel) (by decide +kernel), tb5 141 (by decide +kernel) (by decide +kernel)⟩
def mX11_ordered : MD := (yX11_ordered, cX11_ordered, 2, (some .int))
theorem mfX11_ordered : MI mX11_ordered 1 := ⟨⟨tb5 165 (by decide +kernel) (by decide +kernel), tb1 1 (by decide +kernel) (by decide +kernel), by decide +kernel, by decide +kernel⟩, tb5 163 (by decide +kernel) (by decide +kernel), tb5 164 (by decide +kernel) (by decide +kernel)⟩
def mX11_brick : MD := (yX11_brick, cX11_brick, 3, (some .int))
theorem mfX11_brick : MI mX11_brick 2 := ⟨⟨tb2 232 (by decide +kernel) (by decide +kernel), tb1 1 (by decide +kernel) (by decide +kernel), by decide +kernel, by decide +kernel⟩, tb2 230 (by decide +kernel) (by decide +kernel), tb2 231 (by decide +kernel) (by decide +kernel)⟩
def mX11_mix : MD := (yX11_mix, cX11_mix, 2, (some .int))
theorem mfX11_mix : MI mX11_mix 1 := ⟨⟨tb5 173 (by decide +kernel) (by decide +kernel), tb1 1 (by decide +kernel) (by decide +kernel), by decide +kernel, by decide +kernel⟩, tb5 171 (by decide +kernel) (by decide +kernel), tb5 172 (by decide +kernel) (by decide +kernel)⟩
def mX11_house : MD := (yX11_house, cX11_house, 4, (some .int))
theorem mfX11_house : MI mX11_house 3 := ⟨⟨tb3 8 (by decide +kernel) (by decide +kernel), tb1 1 (by decide +kernel) (by decide +kernel), by decide +kernel, by decide +kernel⟩, tb3 6 (by decide +kernel) (by decide +kernel), tb3 7 (by decide +kernel) (by decide +kernel)⟩
def mX11_first : MD := (yX11_first, cX11_first, 3, (some .int))
theorem mfX11_first : MI mX11_first 2 := ⟨⟨tb5 197 (by decide +kernel) (by decide +kernel), tb1 1 (by decide +kernel) (by decide +kernel), by decide +kernel, by decide +kernel⟩, tb5 195 (by decide +kernel) (by decide +kernel), tb5 196 (by decide +kernel) (by decide +kernel)⟩
def mX11_guess : MD := (yX11_guess, cX11_guess, 4, none)
theorem mfX11_guess : MI mX11_guess 2 := ⟨⟨tb5 208 (by decide +kernel) (by decide +kernel), tb1 1 (by decide +kernel) (by decide +kernel), by decide +kernel, by decide +kernel⟩, tb5 206 (by decide +kernel) (by decide +kernel), tb5 207 (by decide +kernel) (by decide +kernel)⟩
def mX11_stick : MD := (yX11_stick, cX11_stick, 5, (some .int))
theorem mfX11_stick : MI mX11_stick 4 := ⟨⟨tb5 219 (by decide +kernel) (by decide +kernel), tb1 1 (by decide +kernel) (by decide +kernel), by decide +kernel, by decide +kernel⟩, tb5 217 (by decide +kernel) (by decide +kernel), tb5 218 (by decide +kernel) (by decide +kernel)⟩
def mX11_credit : MD := (yX11_credit, cX11_credit, 2, (some .int))
theorem mfX11_credit : MI mX11_credit 1 := ⟨⟨tb5 233 (by decide +kernel) (by decide +kernel), tb1 1 (by decide +kernel) (by decide +kernel), by decide +kernel, by decide +kernel⟩, tb5 231 (by decide +kernel) (by decide +kernel), tb5 232 (by decide +kernel) (by decide +kernel)⟩
def mX11_where : MD := (yX11_where, cX11_where, 1, (some .int))
theorem mfX11_where : MI mX11_where 0 := ⟨⟨tb3 16 (by decide +kernel) (by decide +kernel), tb1 1 (by decide +kernel) (by decide +kernel), by decide +kernel, by decide +kernel⟩, tb3 14 (by decide +kernel) (by decide +kernel), tb3 15 (by decide +kernel) (by decide +kernel)⟩
def mX11_image : MD := (yX11_image, cX11_image, 1, none)
theorem mfX11_image : MI mX11_image 0 := ⟨⟨tb3 30 (by decide +kernel) (by decide +kernel), tb1 1 (by decide +kernel) (by decide +kernel), by decide +kernel, by decide +kernel⟩, tb3 28 (by decide +kernel) (by decide +kernel), tb3 29 (by decide +kernel) (by decide +kernel)⟩
def mX11_restore : MD := (yX11_restore, cX11_restore, 1, (some .boolean))
theorem mfX11_restore : MI mX11_restore 0 := ⟨⟨tb3 45 (by decide +kernel) (by decide +kernel), tb1 1 (by decide +kernel) (by decide +kernel), by decide +kernel, by decide +kernel⟩, tb3 43 (by decide +kernel) (by decide +kernel), tb3 44 (by decide +kernel) (by decide +kernel)⟩
def mX11_copyWalls : MD := (yX11_copyWalls, cX11_copyWalls, 3, none)
theorem mfX11_copyWalls : MS mX11_copyWalls 2 := ⟨⟨tb3 33 (by decide +kernel) (by decide +kernel), tb1 1 (by decide +kernel) (by decide +kernel), by decide +kernel, by decide +kernel⟩, tb3 32 (by decide +kernel) (by decide +kernel)⟩
def mX12_init : MD := (yX12_init, cX12_init, 1, none)
theorem mnX12_init : MN mX12_init 0 := ⟨⟨tb5 238 (by decide +kernel) (by decide +kernel), tb1 14 (by decide +kernel) (by decide +kernel), by decide +kernel, by decide +kernel⟩, tb5 237 (by decide +kernel) (by decide +kernel), by decide +kernel, rfl⟩
def mX12_thrown : MD := (yX12_thrown, cX12_thrown, 1, (some .int))
theorem mfX12_thrown : MI mX12_thrown 0 := ⟨⟨tb6 131 (by decide +kernel) (by decide +kernel), tb1 14 (by decide +kernel) (by decide +kernel), by decide +kernel, by decide +kernel⟩, tb6 129 (by decide +kernel) (by decide +kernel), tb6 130 (by decide +kernel) (by decide +kernel)⟩
def mX12_fail : MD := (yX12_fail, cX12_fail, 2, (some .int))
theorem mfX12_fail : MI mX12_fail 1 := ⟨⟨tb6 143 (by decide +kernel) (by decide +kernel), tb1 14 (by decide +kernel) (by decide +kernel), by decide +kernel, by decide +kernel⟩, tb6 142 (by decide +kernel) (by decide +kernel), tbp 39 (by decide +kernel) (by decide +kernel)⟩
def mX12_isIn : MD := (yX12_isIn, cX12_isIn, 3, (some .boolean))
theorem mfX12_isIn : MS mX12_isIn 3 := ⟨⟨tb6 225 (by decide +kernel) (by decide +kernel), tb1 14 (by decide +kernel) (by decide +kernel), by decide +kernel, by decide +kernel⟩, tb6 224 (by decide +kernel) (by decide +kernel)⟩
def mX12_isWall : MD := (yX12_isWall, cX12_isWall, 2, (some .boolean))
theorem mfX12_isWall : MI mX12_isWall 1 := ⟨⟨tb7 9 (by decide +kernel) (by decide +kernel), tb1 14 (by decide +kernel) (by decide +kernel), by decide +kernel, by decide +kernel⟩, tb7 8 (by decide +kernel) (by decide +kernel), tbp 57 (by decide +kernel) (by decide +kernel)⟩
def mX12_of : MD := (yX12_of, cX12_of, 3, (some .int))
theorem mfX12_of : MI mX12_of 2 := ⟨⟨tb7 1 (by decide +kernel) (by decide +kernel), tb1 14 (by decide +kernel) (by decide +kernel), by decide +kernel, by decide +kernel⟩, tb7 0 (by decide +kernel) (by decide +kernel), tbp 56 (by decide +kernel) (by decide +kernel)⟩
def mX12_put : MD := (yX12_put, cX12_put, 4, none)
theorem mfX12_put : MI mX12_put 3 := ⟨⟨tb6 188 (by decide +kernel) (by decide +kernel), tb1 14 (by decide +kernel) (by decide +kernel), by decide +kernel, by decide +kernel⟩, tb6 187 (by decide +kernel) (by decide +kernel), tbp 47 (by decide +kernel) (by decide +kernel)⟩
def mX12_copy : MD := (yX12_copy, cX12_copy, 4, none)
theorem mfX12_copy : MI mX12_copy 2 := ⟨⟨tb6 214 (by decide +kernel) (by decide +kernel), tb1 14 (by decide +kernel) (by decide +kernel), by decide +kernel, by decide +kernel⟩, tb6 213 (by decide +kernel) (by decide +kernel), tbp 52 (by decide +kernel) (by decide +kernel)⟩
def mX12_at : MD := (yX12_at, cX12_at, 2, (some .int))
theorem mfX12_at : MS mX12_at 2 := ⟨⟨tb7 16 (by decide +kernel) (by decide +kernel), tb1 14 (by decide +kernel) (by decide +kernel), by decide +kernel, by decide +kernel⟩, tb7 15 (by decide +kernel) (by decide +kernel)⟩
def mX12_full : MD := (yX12_full, cX12_full, 1, (some .int))
theorem mfX12_full : MI mX12_full 0 := ⟨⟨tb6 229 (by decide +kernel) (by decide +kernel), tb1 14 (by decide +kernel) (by decide +kernel), by decide +kernel, by decide +kernel⟩, tb6 228 (by decide +kernel) (by decide +kernel), tbp 53 (by decide +kernel) (by decide +kernel)⟩
def mX12_shrink : MD := (yX12_shrink, cX12_shrink, 1, (some .int))
theorem mfX12_shrink : MI mX12_shrink 0 := ⟨⟨tb6 233 (by decide +kernel) (by decide +kernel), tb1 14 (by decide +kernel) (by decide +kernel), by decide +kernel, by decide +kernel⟩, tb6 232 (by decide +kernel) (by decide +kernel), tbp 54 (by decide +kernel) (by decide +kernel)⟩
def mX12_green : MD := (yX12_green, cX12_green, 1, (some .int))
theorem mfX12_green : MI mX12_green 0 := ⟨⟨tb6 237 (by decide +kernel) (by decide +kernel), tb1 14 (by decide +kernel) (by decide +kernel), by decide +kernel, by decide +kernel⟩, tb6 236 (by decide +kernel) (by decide +kernel), tbp 55 (by decide +kernel) (by decide +kernel)⟩
def mX12_feed : MD := (yX12_feed, cX12_feed, 8, (some .int))
theorem mfX12_feed : MI mX12_feed 5 := ⟨⟨tb6 135 (by decide +kernel) (by decide +kernel), tb1 14 (by decide +kernel) (by decide +kernel), by decide +kernel, by decide +kernel⟩, tb6 133 (by decide +kernel) (by decide +kernel), tb6 134 (by decide +kernel) (by decide +kernel)⟩
def mX12_byteAt : MD := (yX12_byteAt, cX12_byteAt, 2, (some .int))
theorem mfX12_byteAt : MI mX12_byteAt 1 := ⟨⟨tb6 151 (by decide +kernel) (by decide +kernel), tb1 14 (by decide +kernel) (by decide +kernel), by decide +kernel, by decide +kernel⟩, tb6 150 (by decide +kernel) (by decide +kernel), tbp 41 (by decide +kernel) (by decide +kernel)⟩
def mX12_isLetter : MD := (yX12_isLetter, cX12_isLetter, 1, (some .boolean))
theorem mfX12_isLetter : MS mX12_isLetter 1 := ⟨⟨tb6 154 (by decide +kernel) (by decide +kernel), tb1 14 (by decide +kernel) (by decide +kernel), by decide +kernel, by decide +kernel⟩, tb6 153 (by decide +kernel) (by decide +kernel)⟩
def mX12_isDigit : MD := (yX12_isDigit, cX12_isDigit, 1, (some .boolean))
theorem mfX12_isDigit : MS mX12_isDigit 1 := ⟨⟨tb6 157 (by decide +kernel) (by decide +kernel), tb1 14 (by decide +kernel) (by decide +kernel), by decide +kernel, by decide +kernel⟩, tb6 156 (by decide +kernel) (by decide +kernel)⟩
def mX12_stepOn : MD := (yX12_stepOn, cX12_stepOn, 2, none)
theorem mfX12_stepOn : MI mX12_stepOn 0 := ⟨⟨tb6 147 (by decide +kernel) (by decide +kernel), tb1 14 (by decide +kernel) (by decide +kernel), by decide +kernel, by decide +kernel⟩, tb6 146 (by decide +kernel) (by decide +kernel), tbp 40 (by decide +kernel) (by decide +kernel)⟩
def mX12_wrong : MD := (yX12_wrong, cX12_wrong, 2, none)
theorem mfX12_wrong : MI mX12_wrong 1 := ⟨⟨tb6 176 (by decide +kernel) (by decide +kernel), tb1 14 (by decide +kernel) (by decide +kernel), by decide +kernel, by decide +kernel⟩, tb6 175 (by decide +kernel) (by decide +kernel), tbp 44 (by decide +kernel) (by decide +kernel)⟩
def mX12_is : MD := (yX12_is, cX12_is, 4, (some .boolean))
theorem mfX12_is : MI mX12_is 1 := ⟨⟨tb6 168 (by decide +kernel) (by decide +kernel), tb1 14 (by decide +kernel) (by decide +kernel), by decide +kernel, by decide +kernel⟩, tb6 167 (by decide +kernel) (by decide +kernel), tbp 43 (by decide +kernel) (by decide +kernel)⟩
def mX12_passes : MD := (yX12_passes, cX12_passes, 3, (some .boolean))
theorem mfX12_passes : MI mX12_passes 1 := ⟨⟨tb6 197 (by decide +kernel) (by decide +kernel), tb1 14 (by decide +kernel) (by decide +kernel), by decide +kernel, by decide +kernel⟩, tb6 196 (by decide +kernel) (by decide +kernel), tbp 49 (by decide +kernel) (by decide +kernel)⟩
def mX12_readNumber : MD := (yX12_readNumber, cX12_readNumber, 4, (some .int))
theorem mfX12_readNumber : MI mX12_readNumber 2 := ⟨⟨tb6 180 (by decide +kernel) (by decide +kernel), tb1 14 (by decide +kernel) (by decide +kernel), by decide +kernel, by decide +kernel⟩, tb6 179 (by decide +kernel) (by decide +kernel), tbp 45 (by decide +kernel) (by decide +kernel)⟩
def mX12_perhaps : MD := (yX12_perhaps, cX12_perhaps, 4, (some .int))
theorem mfX12_perhaps : MI mX12_perhaps 3 := ⟨⟨tb6 193 (by decide +kernel) (by decide +kernel), tb1 14 (by decide +kernel) (by decide +kernel), by decide +kernel, by decide +kernel⟩, tb6 192 (by decide +kernel) (by decide +kernel), tbp 48 (by decide +kernel) (by decide +kernel)⟩
def mX12_semi : MD := (yX12_semi, cX12_semi, 1, none)
theorem mfX12_semi : MI mX12_semi 0 := ⟨⟨tb6 210 (by decide +kernel) (by decide +kernel), tb1 14 (by decide +kernel) (by decide +kernel), by decide +kernel, by decide +kernel⟩, tb6 209 (by decide +kernel) (by decide +kernel), tbp 51 (by decide +kernel) (by decide +kernel)⟩
def mX12_readWall : MD := (yX12_readWall, cX12_readWall, 3, none)
theorem mfX12_readWall : MI mX12_readWall 0 := ⟨⟨tb6 184 (by decide +kernel) (by decide +kernel), tb1 14 (by decide +kernel) (by decide +kernel), by decide +kernel, by decide +kernel⟩, tb6 183 (by decide +kernel) (by decide +kernel), tbp 46 (by decide +kernel) (by decide +kernel)⟩
def mX12_readWeek : MD := (yX12_readWeek, cX12_readWeek, 2, none)
theorem mfX12_readWeek : MI mX12_readWeek 0 := ⟨⟨tb6 205 (by decide +kernel) (by decide +kernel), tb1 14 (by decide +kernel) (by decide +kernel), by decide +kernel, by decide +kernel⟩, tb6 204 (by decide +kernel) (by decide +kernel), tbp 50 (by decide +kernel) (by decide +kernel)⟩
def mX12_readLine : MD := (yX12_readLine, cX12_readLine, 4, (some .boolean))
theorem mfX12_readLine : MI mX12_readLine 1 := ⟨⟨tb6 163 (by decide +kernel) (by decide +kernel), tb1 14 (by decide +kernel) (by decide +kernel), by decide +kernel, by decide +kernel⟩, tb6 162 (by decide +kernel) (by decide +kernel), tbp 42 (by decide +kernel) (by decide +kernel)⟩
def mX12_yard : MD := (yX12_yard, cX12_yard, 4, (some .int))
theorem mfX12_yard : MI mX12_yard 1 := ⟨⟨tb6 139 (by decide +kernel) (by decide +kernel), tb1 14 (by decide +kernel) (by decide +kernel), by decide +kernel, by decide +kernel⟩, tb6 137 (by decide +kernel) (by decide +kernel), tb6 138 (by decide +kernel) (by decide +kernel)⟩
def mX12_fault : MD := (yX12_fault, cX12_fault, 1, (some .int))
theorem mfX12_fault : MI mX12_fault 0 := ⟨⟨tb6 218 (by decide +kernel) (by decide +kernel), tb1 14 (by decide +kernel) (by decide +kernel), by decide +kernel, by decide +kernel⟩, tb6 216 (by decide +kernel) (by decide +kernel), tb6 217 (by decide +kernel) (by decide +kernel)⟩
def mX12_count : MD := (yX12_count, cX12_count, 4, (some .int))
theorem mfX12_count : MI mX12_count 1 := ⟨⟨tb6 222 (by decide +kernel) (by decide +kernel), tb1 14 (by decide +kernel) (by decide +kernel), by decide +kernel, by decide +kernel⟩, tb6 220 (by decide +kernel) (by decide +kernel), tb6 221 (by decide +kernel) (by decide +kernel)⟩
def mX12_waterIn : MD := (yX12_waterIn, cX12_waterIn, 5, (some .int))
theorem mfX12_waterIn : MI mX12_waterIn 1 := ⟨⟨tb7 13 (by decide +kernel) (by decide +kernel), tb1 14 (by decide +kernel) (by decide +kernel), by decide +kernel, by decide +kernel⟩, tb7 12 (by decide +kernel) (by decide +kernel), tbp 58 (by decide +kernel) (by decide +kernel)⟩
def mX12_wall : MD := (yX12_wall, cX12_wall, 3, (some .int))
theorem mfX12_wall : MI mX12_wall 2 := ⟨⟨tb7 5 (by decide +kernel) (by decide +kernel), tb1 14 (by decide +kernel) (by decide +kernel), by decide +kernel, by decide +kernel⟩, tb7 3 (by decide +kernel) (by decide +kernel), tb7 4 (by decide +kernel) (by decide +kernel)⟩
def mX12_isLayer : MD := (yX12_isLayer, cX12_isLayer, 3, (some .boolean))
theorem mfX12_isLayer : MI mX12_isLayer 2 := ⟨⟨tb7 28 (by decide +kernel) (by decide +kernel), tb1 14 (by decide +kernel) (by decide +kernel), by decide +kernel, by decide +kernel⟩, tb7 27 (by decide +kernel) (by decide +kernel), tbp 60 (by decide +kernel) (by decide +kernel)⟩
def mX12_isCell : MD := (yX12_isCell, cX12_isCell, 4, (some .boolean))
theorem mfX12_isCell : MI mX12_isCell 3 := ⟨⟨tb7 24 (by decide +kernel) (by decide +kernel), tb1 14 (by decide +kernel) (by decide +kernel), by decide +kernel, by decide +kernel⟩, tb7 23 (by decide +kernel) (by decide +kernel), tbp 59 (by decide +kernel) (by decide +kernel)⟩
def mX12_isCracked : MD := (yX12_isCracked, cX12_isCracked, 4, (some .boolean))
theorem mfX12_isCracked : MI mX12_isCracked 3 := ⟨⟨tb7 32 (by decide +kernel) (by decide +kernel), tb1 14 (by decide +kernel) (by decide +kernel), by decide +kernel, by decide +kernel⟩, tb7 31 (by decide +kernel) (by decide +kernel), tbp 61 (by decide +kernel) (by decide +kernel)⟩
def mX12_isHollow : MD := (yX12_isHollow, cX12_isHollow, 4, (some .boolean))
theorem mfX12_isHollow : MI mX12_isHollow 3 := ⟨⟨tb7 36 (by decide +kernel) (by decide +kernel), tb1 14 (by decide +kernel) (by decide +kernel), by decide +kernel, by decide +kernel⟩, tb7 35 (by decide +kernel) (by decide +kernel), tbp 62 (by decide +kernel) (by decide +kernel)⟩
def mX12_strength : MD := (yX12_strength, cX12_strength, 5, (some .int))
theorem mfX12_strength : MI mX12_strength 3 := ⟨⟨tb7 40 (by decide +kernel) (by decide +kernel), tb1 14 (by decide +kernel) (by decide +kernel), by decide +kernel, by decide +kernel⟩, tb7 39 (by decide +kernel) (by decide +kernel), tbp 63 (by decide +kernel) (by decide +kernel)⟩
def mX12_load : MD := (yX12_load, cX12_load, 4, (some .int))
theorem mfX12_load : MI mX12_load 3 := ⟨⟨tb7 45 (by decide +kernel) (by decide +kernel), tb1 14 (by decide +kernel) (by decide +kernel), by decide +kernel, by decide +kernel⟩, tb7 44 (by decide +kernel) (by decide +kernel), tbp 64 (by decide +kernel) (by decide +kernel)⟩
def mX12_bears : MD := (yX12_bears, cX12_bears, 5, (some .int))
theorem mfX12_bears : MI mX12_bears 2 := ⟨⟨tb7 53 (by decide +kernel) (by decide +kernel), tb1 14 (by decide +kernel) (by decide +kernel), by decide +kernel, by decide +kernel⟩, tb7 52 (by decide +kernel) (by decide +kernel), tbp 65 (by decide +kernel) (by decide +kernel)⟩
def mX12_presses : MD := (yX12_presses, cX12_presses, 6, (some .int))
theorem mfX12_presses : MI mX12_presses 2 := ⟨⟨tb7 57 (by decide +kernel) (by decide +kernel), tb1 14 (by decide +kernel) (by decide +kernel), by decide +kernel, by decide +kernel⟩, tb7 56 (by decide +kernel) (by decide +kernel), tbp 66 (by decide +kernel) (by decide +kernel)⟩
def mX12_sits : MD := (yX12_sits, cX12_sits, 3, (some .boolean))
theorem mfX12_sits : MI mX12_sits 2 := ⟨⟨tb7 61 (by decide +kernel) (by decide +kernel), tb1 14 (by decide +kernel) (by decide +kernel), by decide +kernel, by decide +kernel⟩, tb7 60 (by decide +kernel) (by decide +kernel), tbp 67 (by decide +kernel) (by decide +kernel)⟩
def mX12_someSits : MD := (yX12_someSits, cX12_someSits, 3, (some .boolean))
theorem mfX12_someSits : MI mX12_someSits 1 := ⟨⟨tb7 137 (by decide +kernel) (by decide +kernel), tb1 14 (by decide +kernel) (by decide +kernel), by decide +kernel, by decide +kernel⟩, tb7 136 (by decide +kernel) (by decide +kernel), tbp 81 (by decide +kernel) (by decide +kernel)⟩
def mX12_cell : MD := (yX12_cell, cX12_cell, 6, (some .int))
theorem mfX12_cell : MI mX12_cell 4 := ⟨⟨tb7 20 (by decide +kernel) (by decide +kernel), tb1 14 (by decide +kernel) (by decide +kernel), by decide +kernel, by decide +kernel⟩, tb7 18 (by decide +kernel) (by decide +kernel), tb7 19 (by decide +kernel) (by decide +kernel)⟩
def mX12_layer : MD := (yX12_layer, cX12_layer, 4, (some .int))
theorem mfX12_layer : MI mX12_layer 3 := ⟨⟨tb7 49 (by decide +kernel) (by decide +kernel), tb1 14 (by decide +kernel) (by decide +kernel), by decide +kernel, by decide +kernel⟩, tb7 47 (by decide +kernel) (by decide +kernel), tb7 48 (by decide +kernel) (by decide +kernel)⟩
def mX12_raise : MD := (yX12_raise, cX12_raise, 6, none)
theorem mfX12_raise : MI mX12_raise 2 := ⟨⟨tb7 69 (by decide +kernel) (by decide +kernel), tb1 14 (by decide +kernel) (by decide +kernel), by decide +kernel, by decide +kernel⟩, tb7 68 (by decide +kernel) (by decide +kernel), tbp 68 (by decide +kernel) (by decide +kernel)⟩
def mX12_cut : MD := (yX12_cut, cX12_cut, 6, none)
theorem mfX12_cut : MI mX12_cut 2 := ⟨⟨tb7 77 (by decide +kernel) (by decide +kernel), tb1 14 (by decide +kernel) (by decide +kernel), by decide +kernel, by decide +kernel⟩, tb7 76 (by decide +kernel) (by decide +kernel), tbp 69 (by decide +kernel) (by decide +kernel)⟩
def mX12_lift : MD := (yX12_lift, cX12_lift, 3, (some .int))
theorem mfX12_lift : MI mX12_lift 2 := ⟨⟨tb7 65 (by decide +kernel) (by decide +kernel), tb1 14 (by decide +kernel) (by decide +kernel), by decide +kernel, by decide +kernel⟩, tb7 63 (by decide +kernel) (by decide +kernel), tb7 64 (by decide +kernel) (by decide +kernel)⟩
def mX12_down : MD := (yX12_down, cX12_down, 2, (some .int))
theorem mfX12_down : MI mX12_down 1 := ⟨⟨tb7 73 (by decide +kernel) (by decide +kernel), tb1 14 (by decide +kernel) (by decide +kernel), by decide +kernel, by decide +kernel⟩, tb7 71 (by decide +kernel) (by decide +kernel), tb7 72 (by decide +kernel) (by decide +kernel)⟩
def mX12_hollow : MD := (yX12_hollow, cX12_hollow, 4, none)
theorem mfX12_hollow : MI mX12_hollow 3 := ⟨⟨tb7 81 (by decide +kernel) (by decide +kernel), tb1 14 (by decide +kernel) (by decide +kernel), by decide +kernel, by decide +kernel⟩, tb7 79 (by decide +kernel) (by decide +kernel), tb7 80 (by decide +kernel) (by decide +kernel)⟩
def mX12_wet : MD := (yX12_wet, cX12_wet, 7, none)
theorem mfX12_wet : MI mX12_wet 4 := ⟨⟨tb7 97 (by decide +kernel) (by decide +kernel), tb1 14 (by decide +kernel) (by decide +kernel), by decide +kernel, by decide +kernel⟩, tb7 96 (by decide +kernel) (by decide +kernel), tbp 72 (by decide +kernel) (by decide +kernel)⟩
def mX12_comeIn : MD := (yX12_comeIn, cX12_comeIn, 7, none)
theorem mfX12_comeIn : MI mX12_comeIn 2 := ⟨⟨tb7 93 (by decide +kernel) (by decide +kernel), tb1 14 (by decide +kernel) (by decide +kernel), by decide +kernel, by decide +kernel⟩, tb7 92 (by decide +kernel) (by decide +kernel), tbp 71 (by decide +kernel) (by decide +kernel)⟩
def mX12_flow : MD := (yX12_flow, cX12_flow, 6, none)
theorem mfX12_flow : MI mX12_flow 4 := ⟨⟨tb7 109 (by decide +kernel) (by decide +kernel), tb1 14 (by decide +kernel) (by decide +kernel), by decide +kernel, by decide +kernel⟩, tb7 108 (by decide +kernel) (by decide +kernel), tbp 75 (by decide +kernel) (by decide +kernel)⟩
def mX12_see : MD := (yX12_see, cX12_see, 3, none)
theorem mfX12_see : MI mX12_see 1 := ⟨⟨tb7 105 (by decide +kernel) (by decide +kernel), tb1 14 (by decide +kernel) (by decide +kernel), by decide +kernel, by decide +kernel⟩, tb7 104 (by decide +kernel) (by decide +kernel), tbp 74 (by decide +kernel) (by decide +kernel)⟩
def mX12_move : MD := (yX12_move, cX12_move, 4, none)
theorem mfX12_move : MI mX12_move 1 := ⟨⟨tb7 101 (by decide +kernel) (by decide +kernel), tb1 14 (by decide +kernel) (by decide +kernel), by decide +kernel, by decide +kernel⟩, tb7 100 (by decide +kernel) (by decide +kernel), tbp 73 (by decide +kernel) (by decide +kernel)⟩
def mX12_dry : MD := (yX12_dry, cX12_dry, 8, none)
theorem mfX12_dry : MI mX12_dry 2 := ⟨⟨tb7 113 (by decide +kernel) (by decide +kernel), tb1 14 (by decide +kernel) (by decide +kernel), by decide +kernel, by decide +kernel⟩, tb7 112 (by decide +kernel) (by decide +kernel), tbp 76 (by decide +kernel) (by decide +kernel)⟩
def mX12_crack : MD := (yX12_crack, cX12_crack, 9, none)
theorem mfX12_crack : MI mX12_crack 2 := ⟨⟨tb7 117 (by decide +kernel) (by decide +kernel), tb1 14 (by decide +kernel) (by decide +kernel), by decide +kernel, by decide +kernel⟩, tb7 116 (by decide +kernel) (by decide +kernel), tbp 77 (by decide +kernel) (by decide +kernel)⟩
def mX12_whyOf : MD := (yX12_whyOf, cX12_whyOf, 7, (some .int))
theorem mfX12_whyOf : MI mX12_whyOf 2 := ⟨⟨tb7 125 (by decide +kernel) (by decide +kernel), tb1 14 (by decide +kernel) (by decide +kernel), by decide +kernel, by decide +kernel⟩, tb7 124 (by decide +kernel) (by decide +kernel), tbp 79 (by decide +kernel) (by decide +kernel)⟩
def mX12_sit : MD := (yX12_sit, cX12_sit, 7, none)
theorem mfX12_sit : MI mX12_sit 1 := ⟨⟨tb7 121 (by decide +kernel) (by decide +kernel), tb1 14 (by decide +kernel) (by decide +kernel), by decide +kernel, by decide +kernel⟩, tb7 120 (by decide +kernel) (by decide +kernel), tbp 78 (by decide +kernel) (by decide +kernel)⟩
def mX12_week : MD := (yX12_week, cX12_week, 4, none)
theorem mfX12_week : MI mX12_week 1 := ⟨⟨tb7 89 (by decide +kernel) (by decide +kernel), tb1 14 (by decide +kernel) (by decide +kernel), by decide +kernel, by decide +kernel⟩, tb7 88 (by decide +kernel) (by decide +kernel), tbp 70 (by decide +kernel) (by decide +kernel)⟩
def mX12_weeks : MD := (yX12_weeks, cX12_weeks, 5, (some .int))
theorem mfX12_weeks : MI mX12_weeks 2 := ⟨⟨tb7 85 (by decide +kernel) (by decide +kernel), tb1 14 (by decide +kernel) (by decide +kernel), by decide +kernel, by decide +kernel⟩, tb7 83 (by decide +kernel) (by decide +kernel), tb7 84 (by decide +kernel) (by decide +kernel)⟩
def mX12_highOf : MD := (yX12_highOf, cX12_highOf, 4, (some .int))
theorem mfX12_highOf : MI mX12_highOf 1 := ⟨⟨tb7 133 (by decide +kernel) (by decide +kernel), tb1 14 (by decide +kernel) (by decide +kernel), by decide +kernel, by decide +kernel⟩, tb7 132 (by decide +kernel) (by decide +kernel), tbp 80 (by decide +kernel) (by decide +kernel)⟩
def mX12_high : MD := (yX12_high, cX12_high, 2, (some .int))
theorem mfX12_high : MI mX12_high 1 := ⟨⟨tb7 129 (by decide +kernel) (by decide +kernel), tb1 14 (by decide +kernel) (by decide +kernel), by decide +kernel, by decide +kernel⟩, tb7 127 (by decide +kernel) (by decide +kernel), tb7 128 (by decide +kernel) (by decide +kernel)⟩
def mX12_when : MD := (yX12_when, cX12_when, 4, (some .int))
theorem mfX12_when : MI mX12_when 2 := ⟨⟨tb7 141 (by decide +kernel) (by decide +kernel), tb1 14 (by decide +kernel) (by decide +kernel), by decide +kernel, by decide +kernel⟩, tb7 139 (by decide +kernel) (by decide +kernel), tb7 140 (by decide +kernel) (by decide +kernel)⟩
def mX12_planOn : MD := (yX12_planOn, cX12_planOn, 6, (some .boolean))
theorem mfX12_planOn : MI mX12_planOn 3 := ⟨⟨tb7 149 (by decide +kernel) (by decide +kernel), tb1 14 (by decide +kernel) (by decide +kernel), by decide +kernel, by decide +kernel⟩, tb7 148 (by decide +kernel) (by decide +kernel), tbp 82 (by decide +kernel) (by decide +kernel)⟩
def mX12_plan : MD := (yX12_plan, cX12_plan, 5, (some .int))
theorem mfX12_plan : MI mX12_plan 2 := ⟨⟨tb7 145 (by decide +kernel) (by decide +kernel), tb1 14 (by decide +kernel) (by decide +kernel), by decide +kernel, by decide +kernel⟩, tb7 143 (by decide +kernel) (by decide +kernel), tb7 144 (by decide +kernel) (by decide +kernel)⟩
def mX12_planned : MD := (yX12_planned, cX12_planned, 2, (some .int))
theorem mfX12_planned : MI mX12_planned 1 := ⟨⟨tb7 153 (by decide +kernel) (by decide +kernel), tb1 14 (by decide +kernel) (by decide +kernel), by decide +kernel, by decide +kernel⟩, tb7 151 (by decide +kernel) (by decide +kernel), tb7 152 (by decide +kernel) (by decide +kernel)⟩
def mX12_turned : MD := (yX12_turned, cX12_turned, 13, (some .int))
theorem mfX12_turned : MI mX12_turned 4 := ⟨⟨tb7 157 (by decide +kernel) (by decide +kernel), tb1 14 (by decide +kernel) (by decide +kernel), by decide +kernel, by decide +kernel⟩, tb7 155 (by decide +kernel) (by decide +kernel), tb7 156 (by decide +kernel) (by decide +kernel)⟩
def mX12_footOf : MD := (yX12_footOf, cX12_footOf, 4, (some .int))
theorem mfX12_footOf : MI mX12_footOf 1 := ⟨⟨tb7 165 (by decide +kernel) (by decide +kernel), tb1 14 (by decide +kernel) (by decide +kernel), by decide +kernel, by decide +kernel⟩, tb7 164 (by decide +kernel) (by decide +kernel), tbp 83 (by decide +kernel) (by decide +kernel)⟩
def mX12_line : MD := (yX12_line, cX12_line, 7, (some .int))
theorem mfX12_line : MI mX12_line 3 := ⟨⟨tb7 161 (by decide +kernel) (by decide +kernel), tb1 14 (by decide +kernel) (by decide +kernel), by decide +kernel, by decide +kernel⟩, tb7 159 (by decide +kernel) (by decide +kernel), tb7 160 (by decide +kernel) (by decide +kernel)⟩
def mX12_doWork : MD := (yX12_doWork, cX12_doWork, 3, none)
theorem mfX12_doWork : MI mX12_doWork 2 := ⟨⟨tb7 173 (by decide +kernel) (by decide +kernel), tb1 14 (by decide +kernel) (by decide +kernel), by decide +kernel, by decide +kernel⟩, tb7 172 (by decide +kernel) (by decide +kernel), tbp 84 (by decide +kernel) (by decide +kernel)⟩
def mX12_work : MD := (yX12_work, cX12_work, 3, none)
theorem mfX12_work : MI mX12_work 2 := ⟨⟨tb7 169 (by decide +kernel) (by decide +kernel), tb1 14 (by decide +kernel) (by decide +kernel), by decide +kernel, by decide +kernel⟩, tb7 167 (by decide +kernel) (by decide +kernel), tb7 168 (by decide +kernel) (by decide +kernel)⟩
def mX12_bulges : MD := (yX12_bulges, cX12_bulges, 4, (some .int))
theorem mfX12_bulges : MI mX12_bulges 1 := ⟨⟨tb7 185 (by decide +kernel) (by decide +kernel), tb1 14 (by decide +kernel) (by decide +kernel), by decide +kernel, by decide +kernel⟩, tb7 184 (by decide +kernel) (by decide +kernel), tbp 86 (by decide +kernel) (by decide +kernel)⟩
def mX12_orderOn : MD := (yX12_orderOn, cX12_orderOn, 5, none)
theorem mfX12_orderOn : MI mX12_orderOn 2 := ⟨⟨tb7 181 (by decide +kernel) (by decide +kernel), tb1 14 (by decide +kernel) (by decide +kernel), by decide +kernel, by decide +kernel⟩, tb7 180 (by decide +kernel) (by decide +kernel), tbp 85 (by decide +kernel) (by decide +kernel)⟩
def mX12_order : MD := (yX12_order, cX12_order, 4, (some .int))
theorem mfX12_order : MI mX12_order 2 := ⟨⟨tb7 177 (by decide +kernel) (by decide +kernel), tb1 14 (by decide +kernel) (by decide +kernel), by decide +kernel, by decide +kernel⟩, tb7 175 (by decide +kernel) (by decide +kernel), tb7 176 (by decide +kernel) (by decide +kernel)⟩
def mX12_ordered : MD := (yX12_ordered, cX12_ordered, 2, (some .int))
theorem mfX12_ordered : MI mX12_ordered 1 := ⟨⟨tb7 189 (by decide +kernel) (by decide +kernel), tb1 14 (by decide +kernel) (by decide +kernel), by decide +kernel, by decide +kernel⟩, tb7 187 (by decide +kernel) (by decide +kernel), tb7 188 (by decide +kernel) (by decide +kernel)⟩
def mX12_brick : MD := (yX12_brick, cX12_brick, 4, (some .int))
theorem mfX12_brick : MI mX12_brick 2 := ⟨⟨tb7 193 (by decide +kernel) (by decide +kernel), tb1 14 (by decide +kernel) (by decide +kernel), by decide +kernel, by decide +kernel⟩, tb7 191 (by decide +kernel) (by decide +kernel), tb7 192 (by decide +kernel) (by decide +kernel)⟩
def mX12_mix : MD := (yX12_mix, cX12_mix, 6, (some .int))
theorem mfX12_mix : MI mX12_mix 1 := ⟨⟨tb7 197 (by decide +kernel) (by decide +kernel), tb1 14 (by decide +kernel) (by decide +kernel), by decide +kernel, by decide +kernel⟩, tb7 195 (by decide +kernel) (by decide +kernel), tb7 196 (by decide +kernel) (by decide +kernel)⟩
def mX12_house : MD := (yX12_house, cX12_house, 4, (some .int))
theorem mfX12_house : MI mX12_house 3 := ⟨⟨tb7 201 (by decide +kernel) (by decide +kernel), tb1 14 (by decide +kernel) (by decide +kernel), by decide +kernel, by decide +kernel⟩, tb7 199 (by decide +kernel) (by decide +kernel), tb7 200 (by decide +kernel) (by decide +kernel)⟩
def mX12_first : MD := (yX12_first, cX12_first, 10, (some .int))
theorem mfX12_first : MI mX12_first 2 := ⟨⟨tb7 205 (by decide +kernel) (by decide +kernel), tb1 14 (by decide +kernel) (by decide +kernel), by decide +kernel, by decide +kernel⟩, tb7 203 (by decide +kernel) (by decide +kernel), tb7 204 (by decide +kernel) (by decide +kernel)⟩
def mX12_guess : MD := (yX12_guess, cX12_guess, 3, none)
theorem mfX12_guess : MI mX12_guess 2 := ⟨⟨tb7 209 (by decide +kernel) (by decide +kernel), tb1 14 (by decide +kernel) (by decide +kernel), by decide +kernel, by decide +kernel⟩, tb7 207 (by decide +kernel) (by decide +kernel), tb7 208 (by decide +kernel) (by decide +kernel)⟩
def mX12_knows : MD := (yX12_knows, cX12_knows, 4, (some .boolean))
theorem mfX12_knows : MI mX12_knows 3 := ⟨⟨tb7 217 (by decide +kernel) (by decide +kernel), tb1 14 (by decide +kernel) (by decide +kernel), by decide +kernel, by decide +kernel⟩, tb7 216 (by decide +kernel) (by decide +kernel), tbp 87 (by decide +kernel) (by decide +kernel)⟩
def mX12_stick : MD := (yX12_stick, cX12_stick, 7, (some .int))
theorem mfX12_stick : MI mX12_stick 4 := ⟨⟨tb7 213 (by decide +kernel) (by decide +kernel), tb1 14 (by decide +kernel) (by decide +kernel), by decide +kernel, by decide +kernel⟩, tb7 211 (by decide +kernel) (by decide +kernel), tb7 212 (by decide +kernel) (by decide +kernel)⟩
def mX12_credit : MD := (yX12_credit, cX12_credit, 2, (some .int))
theorem mfX12_credit : MI mX12_credit 1 := ⟨⟨tb7 222 (by decide +kernel) (by decide +kernel), tb1 14 (by decide +kernel) (by decide +kernel), by decide +kernel, by decide +kernel⟩, tb7 220 (by decide +kernel) (by decide +kernel), tb7 221 (by decide +kernel) (by decide +kernel)⟩
def mX12_where : MD := (yX12_where, cX12_where, 7, (some .int))
theorem mfX12_where : MI mX12_where 0 := ⟨⟨tb7 226 (by decide +kernel) (by decide +kernel), tb1 14 (by decide +kernel) (by decide +kernel), by decide +kernel, by decide +kernel⟩, tb7 224 (by decide +kernel) (by decide +kernel), tb7 225 (by decide +kernel) (by decide +kernel)⟩
def mX12_image : MD := (yX12_image, cX12_image, 2, none)
theorem mfX12_image : MI mX12_image 0 := ⟨⟨tb7 230 (by decide +kernel) (by decide +kernel), tb1 14 (by decide +kernel) (by decide +kernel), by decide +kernel, by decide +kernel⟩, tb7 228 (by decide +kernel) (by decide +kernel), tb7 229 (by decide +kernel) (by decide +kernel)⟩
def mX12_restore : MD := (yX12_restore, cX12_restore, 2, (some .boolean))
theorem mfX12_restore : MI mX12_restore 0 := ⟨⟨tb7 234 (by decide +kernel) (by decide +kernel), tb1 14 (by decide +kernel) (by decide +kernel), by decide +kernel, by decide +kernel⟩, tb7 232 (by decide +kernel) (by decide +kernel), tb7 233 (by decide +kernel) (by decide +kernel)⟩
theorem lk_L_88 : Cond.methodLink RL 88 yX11_init ∈ TB := tb1 27 (by decide +kernel) (by decide +kernel)
theorem f_X6_9 : FL RX6 9 6 0 (.array .byte) (some false) := ⟨(RX6, TX6, 7), tyX6, cf_X6, by decide, rfl, (fun b h => by cases h; rfl), (fun h => by cases h), tb1 39 (by decide +kernel) (by decide +kernel)⟩
theorem f_X6_28 : FL RX6 28 6 1 (.int) (some false) := ⟨(RX6, TX6, 7), tyX6, cf_X6, by decide, rfl, (fun b h => by cases h; rfl), (fun h => by cases h), tb1 40 (by decide +kernel) (by decide +kernel)⟩
theorem f_X6_45 : FL RX6 45 6 2 (.int) (some false) := ⟨(RX6, TX6, 7), tyX6, cf_X6, by decide, rfl, (fun b h => by cases h; rfl), (fun h => by cases h), tb1 41 (by decide +kernel) (by decide +kernel)⟩
theorem f_X6_118 : FL RX6 118 6 3 (.int) (some false) := ⟨(RX6, TX6, 7), tyX6, cf_X6, by decide, rfl, (fun b h => by cases h; rfl), (fun h => by cases h), tb1 42 (by decide +kernel) (by decide +kernel)⟩
theorem f_X6_31 : FL RX6 31 6 4 (.int) (some false) := ⟨(RX6, TX6, 7), tyX6, cf_X6, by decide, rfl, (fun b h => by cases h; rfl), (fun h => by cases h), tb1 43 (by decide +kernel) (by decide +kernel)⟩
theorem f_X6_34 : FL RX6 34 6 5 (.int) (some false) := ⟨(RX6, TX6, 7), tyX6, cf_X6, by decide, rfl, (fun b h => by cases h; rfl), (fun h => by cases h), tb1 44 (by decide +kernel) (by decide +kernel)⟩
theorem f_X6_15 : FL RX6 15 6 6 (.int) (some false) := ⟨(RX6, TX6, 7), tyX6, cf_X6, by decide, rfl, (fun b h => by cases h; rfl), (fun h => by cases h), tb1 45 (by decide +kernel) (by decide +kernel)⟩
theorem f_X11_141 : FL RX11 141 6 6 (.int) (some false) := ⟨(RX6, TX6, 7), tyX6, cf_X6, by decide, rfl, (fun b h => by cases h; rfl), (fun h => by cases h), tb1 46 (by decide +kernel) (by decide +kernel)⟩
theorem lk_X11_33 : Cond.methodLink RX11 33 yX10_init ∈ TB := tb1 66 (by decide +kernel) (by decide +kernel)
theorem lk_X10_21 : Cond.methodLink RX10 21 yX10_clear ∈ TB := tb1 70 (by decide +kernel) (by decide +kernel)
theorem lk_X10_24 : Cond.methodLink RX10 24 yX10_setEarth ∈ TB := tb1 74 (by decide +kernel) (by decide +kernel)
theorem f_X10_9 : FL RX10 9 10 0 (.array .int) (some true) := ⟨(RX10, TX10, 9), tyX10, cf_X10, by decide, rfl, (fun b h => by cases h; rfl), (fun _ => rfl), tb1 78 (by decide +kernel) (by decide +kernel)⟩
theorem f_X10_15 : FL RX10 15 10 1 (.array .int) (some true) := ⟨(RX10, TX10, 9), tyX10, cf_X10, by decide, rfl, (fun b h => by cases h; rfl), (fun _ => rfl), tb1 79 (by decide +kernel) (by decide +kernel)⟩
theorem f_X8_31 : FL RX8 31 10 1 (.array .int) (none) := ⟨(RX10, TX10, 9), tyX10, cf_X10, by decide, rfl, (fun b h => by cases h), (fun h => by cases h), tb1 80 (by decide +kernel) (by decide +kernel)⟩
theorem f_X6_89 : FL RX6 89 10 1 (.array .int) (none) := ⟨(RX10, TX10, 9), tyX10, cf_X10, by decide, rfl, (fun b h => by cases h), (fun h => by cases h), tb1 81 (by decide +kernel) (by decide +kernel)⟩
theorem f_X10_18 : FL RX10 18 10 2 (.array .int) (some true) := ⟨(RX10, TX10, 9), tyX10, cf_X10, by decide, rfl, (fun b h => by cases h; rfl), (fun _ => rfl), tb1 82 (by decide +kernel) (by decide +kernel)⟩
theorem f_X9_39 : FL RX9 39 10 2 (.array .int) (none) := ⟨(RX10, TX10, 9), tyX10, cf_X10, by decide, rfl, (fun b h => by cases h), (fun h => by cases h), tb1 83 (by decide +kernel) (by decide +kernel)⟩
theorem f_X6_113 : FL RX6 113 10 2 (.array .int) (none) := ⟨(RX10, TX10, 9), tyX10, cf_X10, by decide, rfl, (fun b h => by cases h), (fun h => by cases h), tb1 84 (by decide +kernel) (by decide +kernel)⟩
theorem f_X10_28 : FL RX10 28 10 3 (.boolean) (some false) := ⟨(RX10, TX10, 9), tyX10, cf_X10, by decide, rfl, (fun b h => by cases h; rfl), (fun h => by cases h), tb1 85 (by decide +kernel) (by decide +kernel)⟩
theorem f_X6_75 : FL RX6 75 10 3 (.boolean) (some false) := ⟨(RX10, TX10, 9), tyX10, cf_X10, by decide, rfl, (fun b h => by cases h; rfl), (fun h => by cases h), tb1 86 (by decide +kernel) (by decide +kernel)⟩
theorem f_X10_32 : FL RX10 32 10 4 (.int) (some false) := ⟨(RX10, TX10, 9), tyX10, cf_X10, by decide, rfl, (fun b h => by cases h; rfl), (fun h => by cases h), tb1 87 (by decide +kernel) (by decide +kernel)⟩
theorem f_X6_86 : FL RX6 86 10 4 (.int) (some false) := ⟨(RX10, TX10, 9), tyX10, cf_X10, by decide, rfl, (fun b h => by cases h; rfl), (fun h => by cases h), tb1 88 (by decide +kernel) (by decide +kernel)⟩
theorem f_X11_162 : FL RX11 162 10 4 (.int) (some false) := ⟨(RX10, TX10, 9), tyX10, cf_X10, by decide, rfl, (fun b h => by cases h; rfl), (fun h => by cases h), tb1 89 (by decide +kernel) (by decide +kernel)⟩
theorem f_X9_22 : FL RX9 22 10 5 (.int) (some false) := ⟨(RX10, TX10, 9), tyX10, cf_X10, by decide, rfl, (fun b h => by cases h; rfl), (fun h => by cases h), tb1 90 (by decide +kernel) (by decide +kernel)⟩
theorem f_X10_36 : FL RX10 36 10 5 (.int) (some false) := ⟨(RX10, TX10, 9), tyX10, cf_X10, by decide, rfl, (fun b h => by cases h; rfl), (fun h => by cases h), tb1 91 (by decide +kernel) (by decide +kernel)⟩
theorem f_X6_110 : FL RX6 110 10 5 (.int) (some false) := ⟨(RX10, TX10, 9), tyX10, cf_X10, by decide, rfl, (fun b h => by cases h; rfl), (fun h => by cases h), tb1 92 (by decide +kernel) (by decide +kernel)⟩
theorem f_X1_53 : FL RX1 53 10 5 (.int) (some false) := ⟨(RX10, TX10, 9), tyX10, cf_X10, by decide, rfl, (fun b h => by cases h; rfl), (fun h => by cases h), tb1 93 (by decide +kernel) (by decide +kernel)⟩
theorem f_X11_165 : FL RX11 165 10 5 (.int) (some false) := ⟨(RX10, TX10, 9), tyX10, cf_X10, by decide, rfl, (fun b h => by cases h; rfl), (fun h => by cases h), tb1 94 (by decide +kernel) (by decide +kernel)⟩
theorem f_X10_39 : FL RX10 39 10 6 (.int) (some false) := ⟨(RX10, TX10, 9), tyX10, cf_X10, by decide, rfl, (fun b h => by cases h; rfl), (fun h => by cases h), tb1 95 (by decide +kernel) (by decide +kernel)⟩
theorem f_X11_168 : FL RX11 168 10 6 (.int) (some false) := ⟨(RX10, TX10, 9), tyX10, cf_X10, by decide, rfl, (fun b h => by cases h; rfl), (fun h => by cases h), tb1 96 (by decide +kernel) (by decide +kernel)⟩
theorem f_X8_100 : FL RX8 100 10 6 (.int) (some false) := ⟨(RX10, TX10, 9), tyX10, cf_X10, by decide, rfl, (fun b h => by cases h; rfl), (fun h => by cases h), tb1 97 (by decide +kernel) (by decide +kernel)⟩
theorem f_X10_42 : FL RX10 42 10 7 (.int) (some false) := ⟨(RX10, TX10, 9), tyX10, cf_X10, by decide, rfl, (fun b h => by cases h; rfl), (fun h => by cases h), tb1 98 (by decide +kernel) (by decide +kernel)⟩
theorem f_X9_110 : FL RX9 110 10 7 (.int) (some false) := ⟨(RX10, TX10, 9), tyX10, cf_X10, by decide, rfl, (fun b h => by cases h; rfl), (fun h => by cases h), tb1 99 (by decide +kernel) (by decide +kernel)⟩
theorem f_X11_171 : FL RX11 171 10 7 (.int) (some false) := ⟨(RX10, TX10, 9), tyX10, cf_X10, by decide, rfl, (fun b h => by cases h; rfl), (fun h => by cases h), tb1 100 (by decide +kernel) (by decide +kernel)⟩
theorem f_X10_45 : FL RX10 45 10 8 (.int) (some false) := ⟨(RX10, TX10, 9), tyX10, cf_X10, by decide, rfl, (fun b h => by cases h; rfl), (fun h => by cases h), tb1 101 (by decide +kernel) (by decide +kernel)⟩
theorem f_X11_174 : FL RX11 174 10 8 (.int) (some false) := ⟨(RX10, TX10, 9), tyX10, cf_X10, by decide, rfl, (fun b h => by cases h; rfl), (fun h => by cases h), tb1 102 (by decide +kernel) (by decide +kernel)⟩
theorem f_X8_97 : FL RX8 97 10 8 (.int) (some false) := ⟨(RX10, TX10, 9), tyX10, cf_X10, by decide, rfl, (fun b h => by cases h; rfl), (fun h => by cases h), tb1 103 (by decide +kernel) (by decide +kernel)⟩
theorem lk_X11_41 : Cond.methodLink RX11 41 yX11_manyWalls ∈ TB := tb1 123 (by decide +kernel) (by decide +kernel)
theorem lk_X11_114 : Cond.methodLink RX11 114 yJ9_max_7cf53 ∈ TB := tb1 126 (by decide +kernel) (by decide +kernel)
theorem lk_X11_122 : Cond.methodLink RX11 122 yX8_init ∈ TB := tb1 132 (by decide +kernel) (by decide +kernel)
theorem f_X8_25 : FL RX8 25 8 0 (.object "MudWalls$Yard") (some true) := ⟨(RX8, TX8, 17), tyX8, cf_X8, by decide, rfl, (fun b h => by cases h; rfl), (fun _ => rfl), tb1 136 (by decide +kernel) (by decide +kernel)⟩
theorem f_X8_9 : FL RX8 9 8 1 (.array .int) (some true) := ⟨(RX8, TX8, 17), tyX8, cf_X8, by decide, rfl, (fun b h => by cases h; rfl), (fun _ => rfl), tb1 137 (by decide +kernel) (by decide +kernel)⟩
theorem f_X9_42 : FL RX9 42 8 1 (.array .int) (none) := ⟨(RX8, TX8, 17), tyX8, cf_X8, by decide, rfl, (fun b h => by cases h), (fun h => by cases h), tb1 138 (by decide +kernel) (by decide +kernel)⟩
theorem f_X2_34 : FL RX2 34 8 1 (.array .int) (none) := ⟨(RX8, TX8, 17), tyX8, cf_X8, by decide, rfl, (fun b h => by cases h), (fun h => by cases h), tb1 139 (by decide +kernel) (by decide +kernel)⟩
theorem f_X11_251 : FL RX11 251 8 1 (.array .int) (none) := ⟨(RX8, TX8, 17), tyX8, cf_X8, by decide, rfl, (fun b h => by cases h), (fun h => by cases h), tb1 140 (by decide +kernel) (by decide +kernel)⟩
theorem f_X8_15 : FL RX8 15 8 2 (.array .int) (some true) := ⟨(RX8, TX8, 17), tyX8, cf_X8, by decide, rfl, (fun b h => by cases h; rfl), (fun _ => rfl), tb1 141 (by decide +kernel) (by decide +kernel)⟩
theorem f_X8_18 : FL RX8 18 8 3 (.array .int) (some true) := ⟨(RX8, TX8, 17), tyX8, cf_X8, by decide, rfl, (fun b h => by cases h; rfl), (fun _ => rfl), tb1 142 (by decide +kernel) (by decide +kernel)⟩
theorem f_X9_120 : FL RX9 120 8 3 (.array .int) (none) := ⟨(RX8, TX8, 17), tyX8, cf_X8, by decide, rfl, (fun b h => by cases h), (fun h => by cases h), tb1 143 (by decide +kernel) (by decide +kernel)⟩
theorem f_X11_278 : FL RX11 278 8 3 (.array .int) (none) := ⟨(RX8, TX8, 17), tyX8, cf_X8, by decide, rfl, (fun b h => by cases h), (fun h => by cases h), tb1 144 (by decide +kernel) (by decide +kernel)⟩
theorem f_X8_21 : FL RX8 21 8 4 (.int) (some false) := ⟨(RX8, TX8, 17), tyX8, cf_X8, by decide, rfl, (fun b h => by cases h; rfl), (fun h => by cases h), tb1 145 (by decide +kernel) (by decide +kernel)⟩
theorem f_X9_77 : FL RX9 77 8 4 (.int) (some false) := ⟨(RX8, TX8, 17), tyX8, cf_X8, by decide, rfl, (fun b h => by cases h; rfl), (fun h => by cases h), tb1 146 (by decide +kernel) (by decide +kernel)⟩
theorem f_X2_31 : FL RX2 31 8 4 (.int) (some false) := ⟨(RX8, TX8, 17), tyX8, cf_X8, by decide, rfl, (fun b h => by cases h; rfl), (fun h => by cases h), tb1 147 (by decide +kernel) (by decide +kernel)⟩
theorem f_X11_210 : FL RX11 210 8 4 (.int) (some false) := ⟨(RX8, TX8, 17), tyX8, cf_X8, by decide, rfl, (fun b h => by cases h; rfl), (fun h => by cases h), tb1 148 (by decide +kernel) (by decide +kernel)⟩
theorem f_X9_45 : FL RX9 45 8 5 (.int) (some false) := ⟨(RX8, TX8, 17), tyX8, cf_X8, by decide, rfl, (fun b h => by cases h; rfl), (fun h => by cases h), tb1 149 (by decide +kernel) (by decide +kernel)⟩
theorem f_X8_62 : FL RX8 62 8 5 (.int) (some false) := ⟨(RX8, TX8, 17), tyX8, cf_X8, by decide, rfl, (fun b h => by cases h; rfl), (fun h => by cases h), tb1 150 (by decide +kernel) (by decide +kernel)⟩
theorem f_X5_30 : FL RX5 30 8 5 (.int) (some false) := ⟨(RX8, TX8, 17), tyX8, cf_X8, by decide, rfl, (fun b h => by cases h; rfl), (fun h => by cases h), tb1 151 (by decide +kernel) (by decide +kernel)⟩
theorem f_X2_25 : FL RX2 25 8 5 (.int) (some false) := ⟨(RX8, TX8, 17), tyX8, cf_X8, by decide, rfl, (fun b h => by cases h; rfl), (fun h => by cases h), tb1 152 (by decide +kernel) (by decide +kernel)⟩
theorem f_X11_201 : FL RX11 201 8 5 (.int) (some false) := ⟨(RX8, TX8, 17), tyX8, cf_X8, by decide, rfl, (fun b h => by cases h; rfl), (fun h => by cases h), tb1 153 (by decide +kernel) (by decide +kernel)⟩
theorem f_X8_43 : FL RX8 43 8 6 (.int) (some false) := ⟨(RX8, TX8, 17), tyX8, cf_X8, by decide, rfl, (fun b h => by cases h; rfl), (fun h => by cases h), tb1 154 (by decide +kernel) (by decide +kernel)⟩
theorem f_X9_94 : FL RX9 94 8 6 (.int) (some false) := ⟨(RX8, TX8, 17), tyX8, cf_X8, by decide, rfl, (fun b h => by cases h; rfl), (fun h => by cases h), tb1 155 (by decide +kernel) (by decide +kernel)⟩
theorem f_X11_215 : FL RX11 215 8 6 (.int) (some false) := ⟨(RX8, TX8, 17), tyX8, cf_X8, by decide, rfl, (fun b h => by cases h; rfl), (fun h => by cases h), tb1 156 (by decide +kernel) (by decide +kernel)⟩
theorem f_X8_46 : FL RX8 46 8 7 (.int) (some false) := ⟨(RX8, TX8, 17), tyX8, cf_X8, by decide, rfl, (fun b h => by cases h; rfl), (fun h => by cases h), tb1 157 (by decide +kernel) (by decide +kernel)⟩
theorem f_X1_42 : FL RX1 42 8 7 (.int) (some false) := ⟨(RX8, TX8, 17), tyX8, cf_X8, by decide, rfl, (fun b h => by cases h; rfl), (fun h => by cases h), tb1 158 (by decide +kernel) (by decide +kernel)⟩
theorem f_X9_91 : FL RX9 91 8 7 (.int) (some false) := ⟨(RX8, TX8, 17), tyX8, cf_X8, by decide, rfl, (fun b h => by cases h; rfl), (fun h => by cases h), tb1 159 (by decide +kernel) (by decide +kernel)⟩
theorem f_X11_217 : FL RX11 217 8 7 (.int) (some false) := ⟨(RX8, TX8, 17), tyX8, cf_X8, by decide, rfl, (fun b h => by cases h; rfl), (fun h => by cases h), tb1 160 (by decide +kernel) (by decide +kernel)⟩
theorem f_X8_49 : FL RX8 49 8 8 (.boolean) (some false) := ⟨(RX8, TX8, 17), tyX8, cf_X8, by decide, rfl, (fun b h => by cases h; rfl), (fun h => by cases h), tb1 161 (by decide +kernel) (by decide +kernel)⟩
theorem f_X9_80 : FL RX9 80 8 8 (.boolean) (some false) := ⟨(RX8, TX8, 17), tyX8, cf_X8, by decide, rfl, (fun b h => by cases h; rfl), (fun h => by cases h), tb1 162 (by decide +kernel) (by decide +kernel)⟩
theorem f_X11_220 : FL RX11 220 8 8 (.boolean) (some false) := ⟨(RX8, TX8, 17), tyX8, cf_X8, by decide, rfl, (fun b h => by cases h; rfl), (fun h => by cases h), tb1 163 (by decide +kernel) (by decide +kernel)⟩
theorem f_X8_53 : FL RX8 53 8 9 (.int) (some false) := ⟨(RX8, TX8, 17), tyX8, cf_X8, by decide, rfl, (fun b h => by cases h; rfl), (fun h => by cases h), tb1 164 (by decide +kernel) (by decide +kernel)⟩
theorem f_X9_88 : FL RX9 88 8 9 (.int) (some false) := ⟨(RX8, TX8, 17), tyX8, cf_X8, by decide, rfl, (fun b h => by cases h; rfl), (fun h => by cases h), tb1 165 (by decide +kernel) (by decide +kernel)⟩
theorem f_X1_50 : FL RX1 50 8 9 (.int) (some false) := ⟨(RX8, TX8, 17), tyX8, cf_X8, by decide, rfl, (fun b h => by cases h; rfl), (fun h => by cases h), tb1 166 (by decide +kernel) (by decide +kernel)⟩
theorem f_X11_223 : FL RX11 223 8 9 (.int) (some false) := ⟨(RX8, TX8, 17), tyX8, cf_X8, by decide, rfl, (fun b h => by cases h; rfl), (fun h => by cases h), tb1 167 (by decide +kernel) (by decide +kernel)⟩
theorem f_X8_56 : FL RX8 56 8 10 (.int) (some false) := ⟨(RX8, TX8, 17), tyX8, cf_X8, by decide, rfl, (fun b h => by cases h; rfl), (fun h => by cases h), tb1 168 (by decide +kernel) (by decide +kernel)⟩
theorem f_X9_104 : FL RX9 104 8 10 (.int) (some false) := ⟨(RX8, TX8, 17), tyX8, cf_X8, by decide, rfl, (fun b h => by cases h; rfl), (fun h => by cases h), tb1 169 (by decide +kernel) (by decide +kernel)⟩
theorem f_X11_226 : FL RX11 226 8 10 (.int) (some false) := ⟨(RX8, TX8, 17), tyX8, cf_X8, by decide, rfl, (fun b h => by cases h; rfl), (fun h => by cases h), tb1 170 (by decide +kernel) (by decide +kernel)⟩
theorem f_X8_59 : FL RX8 59 8 11 (.boolean) (some false) := ⟨(RX8, TX8, 17), tyX8, cf_X8, by decide, rfl, (fun b h => by cases h; rfl), (fun h => by cases h), tb1 171 (by decide +kernel) (by decide +kernel)⟩
theorem f_X11_229 : FL RX11 229 8 11 (.boolean) (some false) := ⟨(RX8, TX8, 17), tyX8, cf_X8, by decide, rfl, (fun b h => by cases h; rfl), (fun h => by cases h), tb1 172 (by decide +kernel) (by decide +kernel)⟩
theorem f_X9_28 : FL RX9 28 8 12 (.int) (some false) := ⟨(RX8, TX8, 17), tyX8, cf_X8, by decide, rfl, (fun b h => by cases h; rfl), (fun h => by cases h), tb1 173 (by decide +kernel) (by decide +kernel)⟩
theorem f_X8_65 : FL RX8 65 8 12 (.int) (some false) := ⟨(RX8, TX8, 17), tyX8, cf_X8, by decide, rfl, (fun b h => by cases h; rfl), (fun h => by cases h), tb1 174 (by decide +kernel) (by decide +kernel)⟩
theorem f_X11_232 : FL RX11 232 8 12 (.int) (some false) := ⟨(RX8, TX8, 17), tyX8, cf_X8, by decide, rfl, (fun b h => by cases h; rfl), (fun h => by cases h), tb1 175 (by decide +kernel) (by decide +kernel)⟩
theorem f_X8_68 : FL RX8 68 8 13 (.int) (some false) := ⟨(RX8, TX8, 17), tyX8, cf_X8, by decide, rfl, (fun b h => by cases h; rfl), (fun h => by cases h), tb1 176 (by decide +kernel) (by decide +kernel)⟩
theorem f_X11_239 : FL RX11 239 8 13 (.int) (some false) := ⟨(RX8, TX8, 17), tyX8, cf_X8, by decide, rfl, (fun b h => by cases h; rfl), (fun h => by cases h), tb1 177 (by decide +kernel) (by decide +kernel)⟩
theorem f_X8_71 : FL RX8 71 8 14 (.int) (some false) := ⟨(RX8, TX8, 17), tyX8, cf_X8, by decide, rfl, (fun b h => by cases h; rfl), (fun h => by cases h), tb1 178 (by decide +kernel) (by decide +kernel)⟩
theorem f_X11_242 : FL RX11 242 8 14 (.int) (some false) := ⟨(RX8, TX8, 17), tyX8, cf_X8, by decide, rfl, (fun b h => by cases h; rfl), (fun h => by cases h), tb1 179 (by decide +kernel) (by decide +kernel)⟩
theorem f_X8_74 : FL RX8 74 8 15 (.int) (some false) := ⟨(RX8, TX8, 17), tyX8, cf_X8, by decide, rfl, (fun b h => by cases h; rfl), (fun h => by cases h), tb1 180 (by decide +kernel) (by decide +kernel)⟩
theorem f_X11_189 : FL RX11 189 8 15 (.int) (some false) := ⟨(RX8, TX8, 17), tyX8, cf_X8, by decide, rfl, (fun b h => by cases h; rfl), (fun h => by cases h), tb1 181 (by decide +kernel) (by decide +kernel)⟩
theorem f_X8_77 : FL RX8 77 8 16 (.int) (some false) := ⟨(RX8, TX8, 17), tyX8, cf_X8, by decide, rfl, (fun b h => by cases h; rfl), (fun h => by cases h), tb1 182 (by decide +kernel) (by decide +kernel)⟩
theorem f_X11_192 : FL RX11 192 8 16 (.int) (some false) := ⟨(RX8, TX8, 17), tyX8, cf_X8, by decide, rfl, (fun b h => by cases h; rfl), (fun h => by cases h), tb1 183 (by decide +kernel) (by decide +kernel)⟩
theorem lk_X11_54 : Cond.methodLink RX11 54 yX9_init ∈ TB := tb1 221 (by decide +kernel) (by decide +kernel)
theorem f_X9_18 : FL RX9 18 9 0 (.object "MudWalls$Yard") (some true) := ⟨(RX9, TX9, 3), tyX9, cf_X9, by decide, rfl, (fun b h => by cases h; rfl), (fun _ => rfl), tb1 225 (by decide +kernel) (by decide +kernel)⟩
theorem f_X9_9 : FL RX9 9 9 1 (.array .int) (some true) := ⟨(RX9, TX9, 3), tyX9, cf_X9, by decide, rfl, (fun b h => by cases h; rfl), (fun _ => rfl), tb1 226 (by decide +kernel) (by decide +kernel)⟩
theorem f_X9_15 : FL RX9 15 9 2 (.array .int) (some true) := ⟨(RX9, TX9, 3), tyX9, cf_X9, by decide, rfl, (fun b h => by cases h; rfl), (fun _ => rfl), tb1 227 (by decide +kernel) (by decide +kernel)⟩
theorem lk_X11_63 : Cond.methodLink RX11 63 yX1_init ∈ TB := tb1 237 (by decide +kernel) (by decide +kernel)
theorem f_X1_9 : FL RX1 9 1 0 (.object "MudWalls$Yard") (some true) := ⟨(RX1, TX1, 4), tyX1, cf_X1, by decide, rfl, (fun b h => by cases h; rfl), (fun _ => rfl), tb2 1 (by decide +kernel) (by decide +kernel)⟩
theorem f_X1_15 : FL RX1 15 1 1 (.object "MudWalls$Weather") (some true) := ⟨(RX1, TX1, 4), tyX1, cf_X1, by decide, rfl, (fun b h => by cases h; rfl), (fun _ => rfl), tb2 2 (by decide +kernel) (by decide +kernel)⟩
theorem f_X1_19 : FL RX1 19 1 2 (.object "MudWalls$Wall") (some true) := ⟨(RX1, TX1, 4), tyX1, cf_X1, by decide, rfl, (fun b h => by cases h; rfl), (fun _ => rfl), tb2 3 (by decide +kernel) (by decide +kernel)⟩
theorem f_X1_23 : FL RX1 23 1 3 (.object "MudWalls$Wall") (some true) := ⟨(RX1, TX1, 4), tyX1, cf_X1, by decide, rfl, (fun b h => by cases h; rfl), (fun _ => rfl), tb2 4 (by decide +kernel) (by decide +kernel)⟩
theorem lk_X11_72 : Cond.methodLink RX11 72 yX5_init ∈ TB := tb2 16 (by decide +kernel) (by decide +kernel)
theorem f_X5_18 : FL RX5 18 5 0 (.object "MudWalls$Weather") (some true) := ⟨(RX5, TX5, 5), tyX5, cf_X5, by decide, rfl, (fun b h => by cases h; rfl), (fun _ => rfl), tb2 20 (by decide +kernel) (by decide +kernel)⟩
theorem f_X5_22 : FL RX5 22 5 1 (.array (.object "MudWalls$Wall")) (some true) := ⟨(RX5, TX5, 5), tyX5, cf_X5, by decide, rfl, (fun b h => by cases h; rfl), (fun _ => rfl), tb2 21 (by decide +kernel) (by decide +kernel)⟩
theorem f_X5_9 : FL RX5 9 5 2 (.array .int) (some true) := ⟨(RX5, TX5, 5), tyX5, cf_X5, by decide, rfl, (fun b h => by cases h; rfl), (fun _ => rfl), tb2 22 (by decide +kernel) (by decide +kernel)⟩
theorem f_X5_15 : FL RX5 15 5 3 (.array .int) (some true) := ⟨(RX5, TX5, 5), tyX5, cf_X5, by decide, rfl, (fun b h => by cases h; rfl), (fun _ => rfl), tb2 23 (by decide +kernel) (by decide +kernel)⟩
theorem f_X11_317 : FL RX11 317 5 3 (.array .int) (none) := ⟨(RX5, TX5, 5), tyX5, cf_X5, by decide, rfl, (fun b h => by cases h), (fun h => by cases h), tb2 24 (by decide +kernel) (by decide +kernel)⟩
theorem f_X5_26 : FL RX5 26 5 4 (.int) (some false) := ⟨(RX5, TX5, 5), tyX5, cf_X5, by decide, rfl, (fun b h => by cases h; rfl), (fun h => by cases h), tb2 25 (by decide +kernel) (by decide +kernel)⟩
theorem f_X11_314 : FL RX11 314 5 4 (.int) (some false) := ⟨(RX5, TX5, 5), tyX5, cf_X5, by decide, rfl, (fun b h => by cases h; rfl), (fun h => by cases h), tb2 26 (by decide +kernel) (by decide +kernel)⟩
theorem lk_X11_81 : Cond.methodLink RX11 81 yX7_init ∈ TB := tb2 40 (by decide +kernel) (by decide +kernel)
theorem f_X7_9 : FL RX7 9 7 0 (.object "MudWalls$Weather") (some true) := ⟨(RX7, TX7, 5), tyX7, cf_X7, by decide, rfl, (fun b h => by cases h; rfl), (fun _ => rfl), tb2 44 (by decide +kernel) (by decide +kernel)⟩
theorem f_X7_15 : FL RX7 15 7 1 (.array (.object "MudWalls$Wall")) (some true) := ⟨(RX7, TX7, 5), tyX7, cf_X7, by decide, rfl, (fun b h => by cases h; rfl), (fun _ => rfl), tb2 45 (by decide +kernel) (by decide +kernel)⟩
theorem f_X7_19 : FL RX7 19 7 2 (.int) (some false) := ⟨(RX7, TX7, 5), tyX7, cf_X7, by decide, rfl, (fun b h => by cases h; rfl), (fun h => by cases h), tb2 46 (by decide +kernel) (by decide +kernel)⟩
theorem f_X7_23 : FL RX7 23 7 3 (.int) (some false) := ⟨(RX7, TX7, 5), tyX7, cf_X7, by decide, rfl, (fun b h => by cases h; rfl), (fun h => by cases h), tb2 47 (by decide +kernel) (by decide +kernel)⟩
theorem f_X11_332 : FL RX11 332 7 3 (.int) (some false) := ⟨(RX7, TX7, 5), tyX7, cf_X7, by decide, rfl, (fun b h => by cases h; rfl), (fun h => by cases h), tb2 48 (by decide +kernel) (by decide +kernel)⟩
theorem f_X7_26 : FL RX7 26 7 4 (.int) (some false) := ⟨(RX7, TX7, 5), tyX7, cf_X7, by decide, rfl, (fun b h => by cases h; rfl), (fun h => by cases h), tb2 49 (by decide +kernel) (by decide +kernel)⟩
theorem f_X11_335 : FL RX11 335 7 4 (.int) (some false) := ⟨(RX7, TX7, 5), tyX7, cf_X7, by decide, rfl, (fun b h => by cases h; rfl), (fun h => by cases h), tb2 50 (by decide +kernel) (by decide +kernel)⟩
theorem lk_X11_88 : Cond.methodLink RX11 88 yX4_init ∈ TB := tb2 64 (by decide +kernel) (by decide +kernel)
theorem f_X4_18 : FL RX4 18 4 0 (.object "MudWalls$Weather") (some true) := ⟨(RX4, TX4, 6), tyX4, cf_X4, by decide, rfl, (fun b h => by cases h; rfl), (fun _ => rfl), tb2 68 (by decide +kernel) (by decide +kernel)⟩
theorem f_X4_22 : FL RX4 22 4 1 (.array (.object "MudWalls$Wall")) (some true) := ⟨(RX4, TX4, 6), tyX4, cf_X4, by decide, rfl, (fun b h => by cases h; rfl), (fun _ => rfl), tb2 69 (by decide +kernel) (by decide +kernel)⟩
theorem f_X4_9 : FL RX4 9 4 2 (.array .int) (some true) := ⟨(RX4, TX4, 6), tyX4, cf_X4, by decide, rfl, (fun b h => by cases h; rfl), (fun _ => rfl), tb2 70 (by decide +kernel) (by decide +kernel)⟩
theorem f_X4_30 : FL RX4 30 4 3 (.int) (some false) := ⟨(RX4, TX4, 6), tyX4, cf_X4, by decide, rfl, (fun b h => by cases h; rfl), (fun h => by cases h), tb2 71 (by decide +kernel) (by decide +kernel)⟩
theorem f_X4_15 : FL RX4 15 4 4 (.array .int) (some true) := ⟨(RX4, TX4, 6), tyX4, cf_X4, by decide, rfl, (fun b h => by cases h; rfl), (fun _ => rfl), tb2 72 (by decide +kernel) (by decide +kernel)⟩
theorem f_X11_354 : FL RX11 354 4 4 (.array .int) (none) := ⟨(RX4, TX4, 6), tyX4, cf_X4, by decide, rfl, (fun b h => by cases h), (fun h => by cases h), tb2 73 (by decide +kernel) (by decide +kernel)⟩
theorem f_X4_26 : FL RX4 26 4 5 (.int) (some false) := ⟨(RX4, TX4, 6), tyX4, cf_X4, by decide, rfl, (fun b h => by cases h; rfl), (fun h => by cases h), tb2 74 (by decide +kernel) (by decide +kernel)⟩
theorem f_X11_353 : FL RX11 353 4 5 (.int) (some false) := ⟨(RX4, TX4, 6), tyX4, cf_X4, by decide, rfl, (fun b h => by cases h; rfl), (fun h => by cases h), tb2 75 (by decide +kernel) (by decide +kernel)⟩
theorem f_X0_18 : FL RX0 18 0 0 (.int) (some false) := ⟨(RX0, TX0, 3), tyX0, cf_X0, by decide, rfl, (fun b h => by cases h; rfl), (fun h => by cases h), tb2 95 (by decide +kernel) (by decide +kernel)⟩
theorem f_X11_361 : FL RX11 361 0 0 (.int) (some false) := ⟨(RX0, TX0, 3), tyX0, cf_X0, by decide, rfl, (fun b h => by cases h; rfl), (fun h => by cases h), tb2 96 (by decide +kernel) (by decide +kernel)⟩
theorem f_X0_9 : FL RX0 9 0 1 (.int) (some false) := ⟨(RX0, TX0, 3), tyX0, cf_X0, by decide, rfl, (fun b h => by cases h; rfl), (fun h => by cases h), tb2 97 (by decide +kernel) (by decide +kernel)⟩
theorem f_X11_364 : FL RX11 364 0 1 (.int) (some false) := ⟨(RX0, TX0, 3), tyX0, cf_X0, by decide, rfl, (fun b h => by cases h; rfl), (fun h => by cases h), tb2 98 (by decide +kernel) (by decide +kernel)⟩
theorem f_X0_15 : FL RX0 15 0 2 (.int) (some false) := ⟨(RX0, TX0, 3), tyX0, cf_X0, by decide, rfl, (fun b h => by cases h; rfl), (fun h => by cases h), tb2 99 (by decide +kernel) (by decide +kernel)⟩
theorem f_X11_367 : FL RX11 367 0 2 (.int) (some false) := ⟨(RX0, TX0, 3), tyX0, cf_X0, by decide, rfl, (fun b h => by cases h; rfl), (fun h => by cases h), tb2 100 (by decide +kernel) (by decide +kernel)⟩
theorem f_X3_9 : FL RX3 9 3 0 (.array .int) (some true) := ⟨(RX3, TX3, 6), tyX3, cf_X3, by decide, rfl, (fun b h => by cases h; rfl), (fun _ => rfl), tb2 114 (by decide +kernel) (by decide +kernel)⟩
theorem f_X3_13 : FL RX3 13 3 1 (.array .int) (some true) := ⟨(RX3, TX3, 6), tyX3, cf_X3, by decide, rfl, (fun b h => by cases h; rfl), (fun _ => rfl), tb2 115 (by decide +kernel) (by decide +kernel)⟩
theorem f_X3_16 : FL RX3 16 3 2 (.int) (some false) := ⟨(RX3, TX3, 6), tyX3, cf_X3, by decide, rfl, (fun b h => by cases h; rfl), (fun h => by cases h), tb2 116 (by decide +kernel) (by decide +kernel)⟩
theorem f_X11_381 : FL RX11 381 3 2 (.int) (some false) := ⟨(RX3, TX3, 6), tyX3, cf_X3, by decide, rfl, (fun b h => by cases h; rfl), (fun h => by cases h), tb2 117 (by decide +kernel) (by decide +kernel)⟩
theorem f_X3_20 : FL RX3 20 3 3 (.int) (some false) := ⟨(RX3, TX3, 6), tyX3, cf_X3, by decide, rfl, (fun b h => by cases h; rfl), (fun h => by cases h), tb2 118 (by decide +kernel) (by decide +kernel)⟩
theorem f_X11_387 : FL RX11 387 3 3 (.int) (some false) := ⟨(RX3, TX3, 6), tyX3, cf_X3, by decide, rfl, (fun b h => by cases h; rfl), (fun h => by cases h), tb2 119 (by decide +kernel) (by decide +kernel)⟩
theorem f_X3_23 : FL RX3 23 3 4 (.int) (some false) := ⟨(RX3, TX3, 6), tyX3, cf_X3, by decide, rfl, (fun b h => by cases h; rfl), (fun h => by cases h), tb2 120 (by decide +kernel) (by decide +kernel)⟩
theorem f_X11_390 : FL RX11 390 3 4 (.int) (some false) := ⟨(RX3, TX3, 6), tyX3, cf_X3, by decide, rfl, (fun b h => by cases h; rfl), (fun h => by cases h), tb2 121 (by decide +kernel) (by decide +kernel)⟩
theorem f_X3_26 : FL RX3 26 3 5 (.int) (some false) := ⟨(RX3, TX3, 6), tyX3, cf_X3, by decide, rfl, (fun b h => by cases h; rfl), (fun h => by cases h), tb2 122 (by decide +kernel) (by decide +kernel)⟩
theorem f_X11_393 : FL RX11 393 3 5 (.int) (some false) := ⟨(RX3, TX3, 6), tyX3, cf_X3, by decide, rfl, (fun b h => by cases h; rfl), (fun h => by cases h), tb2 123 (by decide +kernel) (by decide +kernel)⟩
theorem lk_X11_109 : Cond.methodLink RX11 109 yX2_init ∈ TB := tb2 139 (by decide +kernel) (by decide +kernel)
theorem lk_X2_18 : Cond.methodLink RX2 18 yX2_forget ∈ TB := tb2 143 (by decide +kernel) (by decide +kernel)
theorem lk_X2_21 : Cond.methodLink RX2 21 yX2_clear ∈ TB := tb2 147 (by decide +kernel) (by decide +kernel)
theorem f_X2_11 : FL RX2 11 2 0 (.array .int) (some true) := ⟨(RX2, TX2, 2), tyX2, cf_X2, by decide, rfl, (fun b h => by cases h; rfl), (fun _ => rfl), tb2 151 (by decide +kernel) (by decide +kernel)⟩
theorem f_X2_15 : FL RX2 15 2 1 (.array .int) (some true) := ⟨(RX2, TX2, 2), tyX2, cf_X2, by decide, rfl, (fun b h => by cases h; rfl), (fun _ => rfl), tb2 152 (by decide +kernel) (by decide +kernel)⟩
theorem f_X11_404 : FL RX11 404 2 1 (.array .int) (none) := ⟨(RX2, TX2, 2), tyX2, cf_X2, by decide, rfl, (fun b h => by cases h), (fun h => by cases h), tb2 153 (by decide +kernel) (by decide +kernel)⟩
theorem f_X11_9 : FL RX11 9 11 0 (.array .byte) (some true) := ⟨(RX11, TX11, 19), tyX11, cf_X11, by decide, rfl, (fun b h => by cases h; rfl), (fun _ => rfl), tb2 159 (by decide +kernel) (by decide +kernel)⟩
theorem f_X11_123 : FL RX11 123 11 1 (.int) (some false) := ⟨(RX11, TX11, 19), tyX11, cf_X11, by decide, rfl, (fun b h => by cases h; rfl), (fun h => by cases h), tb2 160 (by decide +kernel) (by decide +kernel)⟩
theorem f_X11_13 : FL RX11 13 11 2 (.int) (some false) := ⟨(RX11, TX11, 19), tyX11, cf_X11, by decide, rfl, (fun b h => by cases h; rfl), (fun h => by cases h), tb2 161 (by decide +kernel) (by decide +kernel)⟩
theorem f_X11_17 : FL RX11 17 11 3 (.array .int) (some true) := ⟨(RX11, TX11, 19), tyX11, cf_X11, by decide, rfl, (fun b h => by cases h; rfl), (fun _ => rfl), tb2 162 (by decide +kernel) (by decide +kernel)⟩
theorem f_X11_21 : FL RX11 21 11 4 (.array .int) (some true) := ⟨(RX11, TX11, 19), tyX11, cf_X11, by decide, rfl, (fun b h => by cases h; rfl), (fun _ => rfl), tb2 163 (by decide +kernel) (by decide +kernel)⟩
theorem f_X11_151 : FL RX11 151 11 5 (.boolean) (some false) := ⟨(RX11, TX11, 19), tyX11, cf_X11, by decide, rfl, (fun b h => by cases h; rfl), (fun h => by cases h), tb2 164 (by decide +kernel) (by decide +kernel)⟩
theorem f_X11_27 : FL RX11 27 11 6 (.object "MudWalls$Reader") (some true) := ⟨(RX11, TX11, 19), tyX11, cf_X11, by decide, rfl, (fun b h => by cases h; rfl), (fun _ => rfl), tb2 165 (by decide +kernel) (by decide +kernel)⟩
theorem f_X11_34 : FL RX11 34 11 7 (.object "MudWalls$Yard") (some true) := ⟨(RX11, TX11, 19), tyX11, cf_X11, by decide, rfl, (fun b h => by cases h; rfl), (fun _ => rfl), tb2 166 (by decide +kernel) (by decide +kernel)⟩
theorem f_X11_38 : FL RX11 38 11 8 (.object "MudWalls$Yard") (some true) := ⟨(RX11, TX11, 19), tyX11, cf_X11, by decide, rfl, (fun b h => by cases h; rfl), (fun _ => rfl), tb2 167 (by decide +kernel) (by decide +kernel)⟩
theorem f_X11_45 : FL RX11 45 11 9 (.array (.object "MudWalls$Wall")) (some true) := ⟨(RX11, TX11, 19), tyX11, cf_X11, by decide, rfl, (fun b h => by cases h; rfl), (fun _ => rfl), tb2 168 (by decide +kernel) (by decide +kernel)⟩
theorem f_X11_49 : FL RX11 49 11 10 (.array (.object "MudWalls$Wall")) (some true) := ⟨(RX11, TX11, 19), tyX11, cf_X11, by decide, rfl, (fun b h => by cases h; rfl), (fun _ => rfl), tb2 169 (by decide +kernel) (by decide +kernel)⟩
theorem f_X11_57 : FL RX11 57 11 11 (.object "MudWalls$Weather") (some true) := ⟨(RX11, TX11, 19), tyX11, cf_X11, by decide, rfl, (fun b h => by cases h; rfl), (fun _ => rfl), tb2 170 (by decide +kernel) (by decide +kernel)⟩
theorem f_X11_66 : FL RX11 66 11 12 (.object "MudWalls$Forecast") (some true) := ⟨(RX11, TX11, 19), tyX11, cf_X11, by decide, rfl, (fun b h => by cases h; rfl), (fun _ => rfl), tb2 171 (by decide +kernel) (by decide +kernel)⟩
theorem f_X11_75 : FL RX11 75 11 13 (.object "MudWalls$Planner") (some true) := ⟨(RX11, TX11, 19), tyX11, cf_X11, by decide, rfl, (fun b h => by cases h; rfl), (fun _ => rfl), tb2 172 (by decide +kernel) (by decide +kernel)⟩
theorem f_X11_82 : FL RX11 82 11 14 (.object "MudWalls$Turner") (some true) := ⟨(RX11, TX11, 19), tyX11, cf_X11, by decide, rfl, (fun b h => by cases h; rfl), (fun _ => rfl), tb2 173 (by decide +kernel) (by decide +kernel)⟩
theorem f_X11_89 : FL RX11 89 11 15 (.object "MudWalls$Orderer") (some true) := ⟨(RX11, TX11, 19), tyX11, cf_X11, by decide, rfl, (fun b h => by cases h; rfl), (fun _ => rfl), tb2 174 (by decide +kernel) (by decide +kernel)⟩
theorem f_X11_96 : FL RX11 96 11 16 (.object "MudWalls$Bricks") (some true) := ⟨(RX11, TX11, 19), tyX11, cf_X11, by decide, rfl, (fun b h => by cases h; rfl), (fun _ => rfl), tb2 175 (by decide +kernel) (by decide +kernel)⟩
theorem f_X11_103 : FL RX11 103 11 17 (.object "MudWalls$Houses") (some true) := ⟨(RX11, TX11, 19), tyX11, cf_X11, by decide, rfl, (fun b h => by cases h; rfl), (fun _ => rfl), tb2 176 (by decide +kernel) (by decide +kernel)⟩
theorem f_X11_110 : FL RX11 110 11 18 (.object "MudWalls$Guesses") (some true) := ⟨(RX11, TX11, 19), tyX11, cf_X11, by decide, rfl, (fun b h => by cases h; rfl), (fun _ => rfl), tb2 177 (by decide +kernel) (by decide +kernel)⟩
theorem lk_L_92 : Cond.methodLink RL 92 yX11_feed ∈ TB := tb2 217 (by decide +kernel) (by decide +kernel)
theorem lk_X11_126 : Cond.methodLink RX11 126 yX11_putNumber ∈ TB := tb2 221 (by decide +kernel) (by decide +kernel)
theorem lk_L_107 : Cond.methodLink RL 107 yX11_fault ∈ TB := tb2 225 (by decide +kernel) (by decide +kernel)
theorem lk_L_167 : Cond.methodLink RL 167 yX11_brick ∈ TB := tb2 229 (by decide +kernel) (by decide +kernel)
theorem lk_X11_357 : Cond.methodLink RX11 357 yX0_add ∈ TB := tb2 233 (by decide +kernel) (by decide +kernel)
theorem lk_X0_21 : Cond.methodLink RX0 21 yX0_gainsays ∈ TB := tb2 237 (by decide +kernel) (by decide +kernel)
theorem lk_X0_25 : Cond.methodLink RX0 25 yJ9_max_7cf53 ∈ TB := tb3 1 (by decide +kernel) (by decide +kernel)
theorem lk_X0_31 : Cond.methodLink RX0 31 yJ9_min_7cf53 ∈ TB := tb3 2 (by decide +kernel) (by decide +kernel)
theorem lk_L_175 : Cond.methodLink RL 175 yX11_house ∈ TB := tb3 5 (by decide +kernel) (by decide +kernel)
theorem lk_X11_378 : Cond.methodLink RX11 378 yX3_add ∈ TB := tb3 9 (by decide +kernel) (by decide +kernel)
theorem lk_L_191 : Cond.methodLink RL 191 yX11_where ∈ TB := tb3 13 (by decide +kernel) (by decide +kernel)
theorem lk_X11_407 : Cond.methodLink RX11 407 yX2_farthestApart ∈ TB := tb3 17 (by decide +kernel) (by decide +kernel)
theorem lk_X2_41 : Cond.methodLink RX2 41 yX2_apartAt ∈ TB := tb3 21 (by decide +kernel) (by decide +kernel)
theorem lk_X2_44 : Cond.methodLink RX2 44 yJ9_min_7cf53 ∈ TB := tb3 25 (by decide +kernel) (by decide +kernel)
theorem lk_X2_48 : Cond.methodLink RX2 48 yJ9_max_7cf53 ∈ TB := tb3 26 (by decide +kernel) (by decide +kernel)
theorem lk_L_195 : Cond.methodLink RL 195 yX11_image ∈ TB := tb3 27 (by decide +kernel) (by decide +kernel)
theorem lk_X11_410 : Cond.methodLink RX11 410 yX11_copyWalls ∈ TB := tb3 31 (by decide +kernel) (by decide +kernel)
theorem lk_X11_420 : Cond.methodLink RX11 420 yX8_become ∈ TB := tb3 34 (by decide +kernel) (by decide +kernel)
theorem lk_L_199 : Cond.methodLink RL 199 yX11_restore ∈ TB := tb3 42 (by decide +kernel) (by decide +kernel)
theorem lk_L_97 : Cond.methodLink RL 97 yL_yard ∈ TB := tb3 46 (by decide +kernel) (by decide +kernel)
theorem lk_L_7 : Cond.methodLink RL 7 yX11_yard ∈ TB := tb3 50 (by decide +kernel) (by decide +kernel)
theorem lk_X11_137 : Cond.methodLink RX11 137 yX6_read ∈ TB := tb3 120 (by decide +kernel) (by decide +kernel)
theorem lk_X6_19 : Cond.methodLink RX6 19 yJ9_min_7cf53 ∈ TB := tb3 124 (by decide +kernel) (by decide +kernel)
theorem lk_X6_25 : Cond.methodLink RX6 25 yJ9_max_7cf53 ∈ TB := tb3 125 (by decide +kernel) (by decide +kernel)
theorem lk_X6_37 : Cond.methodLink RX6 37 yX10_clear ∈ TB := tb3 126 (by decide +kernel) (by decide +kernel)
theorem lk_X6_42 : Cond.methodLink RX6 42 yX6_advance ∈ TB := tb3 127 (by decide +kernel) (by decide +kernel)
theorem lk_X6_133 : Cond.methodLink RX6 133 yX6_kindOf ∈ TB := tb3 131 (by decide +kernel) (by decide +kernel)
theorem lk_X6_48 : Cond.methodLink RX6 48 yX6_readLine ∈ TB := tb3 134 (by decide +kernel) (by decide +kernel)
theorem lk_X6_54 : Cond.methodLink RX6 54 yX6_atWord ∈ TB := tb3 139 (by decide +kernel) (by decide +kernel)
theorem lk_X6_125 : Cond.methodLink RX6 125 yJ0_length_8abf5 ∈ TB := tb3 143 (by decide +kernel) (by decide +kernel)
theorem lk_X6_129 : Cond.methodLink RX6 129 yJ0_charAt_5068e ∈ TB := tb3 153 (by decide +kernel) (by decide +kernel)
theorem lk_X6_58 : Cond.methodLink RX6 58 yX6_readEarth ∈ TB := tb3 191 (by decide +kernel) (by decide +kernel)
theorem lk_X6_71 : Cond.methodLink RX6 71 yX6_refuse ∈ TB := tb3 195 (by decide +kernel) (by decide +kernel)
theorem lk_X6_79 : Cond.methodLink RX6 79 yX6_takeNumber ∈ TB := tb3 199 (by decide +kernel) (by decide +kernel)
theorem lk_X6_121 : Cond.methodLink RX6 121 yX6_numberAtHand ∈ TB := tb3 203 (by decide +kernel) (by decide +kernel)
theorem lk_X6_82 : Cond.methodLink RX6 82 yX10_setEarth ∈ TB := tb3 207 (by decide +kernel) (by decide +kernel)
theorem lk_X6_63 : Cond.methodLink RX6 63 yX6_readWall ∈ TB := tb3 209 (by decide +kernel) (by decide +kernel)
theorem lk_X6_95 : Cond.methodLink RX6 95 yX6_takeOption ∈ TB := tb3 214 (by decide +kernel) (by decide +kernel)
theorem lk_X6_103 : Cond.methodLink RX6 103 yX6_takeWord ∈ TB := tb3 218 (by decide +kernel) (by decide +kernel)
theorem lk_X6_68 : Cond.methodLink RX6 68 yX6_readWeek ∈ TB := tb3 227 (by decide +kernel) (by decide +kernel)
theorem lk_X11_142 : Cond.methodLink RX11 142 yX11_beginAnew ∈ TB := tb3 232 (by decide +kernel) (by decide +kernel)
theorem lk_X11_145 : Cond.methodLink RX11 145 yX10_become ∈ TB := tb3 236 (by decide +kernel) (by decide +kernel)
theorem lk_X11_148 : Cond.methodLink RX11 148 yX8_begin ∈ TB := tb4 1 (by decide +kernel) (by decide +kernel)
theorem lk_X8_34 : Cond.methodLink RX8 34 yJ9_min_7cf53 ∈ TB := tb4 5 (by decide +kernel) (by decide +kernel)
theorem lk_X8_40 : Cond.methodLink RX8 40 yJ9_max_7cf53 ∈ TB := tb4 6 (by decide +kernel) (by decide +kernel)
theorem lk_X11_155 : Cond.methodLink RX11 155 yX5_forget ∈ TB := tb4 7 (by decide +kernel) (by decide +kernel)
theorem lk_X11_158 : Cond.methodLink RX11 158 yX4_forget ∈ TB := tb4 11 (by decide +kernel) (by decide +kernel)
theorem lk_X11_159 : Cond.methodLink RX11 159 yX0_forget ∈ TB := tb4 15 (by decide +kernel) (by decide +kernel)
theorem lk_X11_160 : Cond.methodLink RX11 160 yX3_forget ∈ TB := tb4 19 (by decide +kernel) (by decide +kernel)
theorem lk_X11_161 : Cond.methodLink RX11 161 yX2_forget ∈ TB := tb4 23 (by decide +kernel) (by decide +kernel)
theorem lk_L_111 : Cond.methodLink RL 111 yL_count ∈ TB := tb4 24 (by decide +kernel) (by decide +kernel)
theorem lk_L_15 : Cond.methodLink RL 15 yX11_count ∈ TB := tb4 28 (by decide +kernel) (by decide +kernel)
theorem lk_X11_177 : Cond.methodLink RX11 177 yX11_waterCome ∈ TB := tb4 32 (by decide +kernel) (by decide +kernel)
theorem lk_X11_181 : Cond.methodLink RX11 181 yX11_waterGone ∈ TB := tb4 36 (by decide +kernel) (by decide +kernel)
theorem lk_L_114 : Cond.methodLink RL 114 yL_wall ∈ TB := tb4 56 (by decide +kernel) (by decide +kernel)
theorem lk_L_20 : Cond.methodLink RL 20 yX11_wall ∈ TB := tb4 59 (by decide +kernel) (by decide +kernel)
theorem lk_X11_197 : Cond.methodLink RX11 197 yX11_wallAt ∈ TB := tb4 63 (by decide +kernel) (by decide +kernel)
theorem lk_X11_235 : Cond.methodLink RX11 235 yX8_waterFrom ∈ TB := tb4 68 (by decide +kernel) (by decide +kernel)
theorem lk_L_118 : Cond.methodLink RL 118 yL_cell ∈ TB := tb4 73 (by decide +kernel) (by decide +kernel)
theorem lk_L_24 : Cond.methodLink RL 24 yX11_cell ∈ TB := tb4 76 (by decide +kernel) (by decide +kernel)
theorem lk_X11_247 : Cond.methodLink RX11 247 yX11_wallWithCell ∈ TB := tb4 80 (by decide +kernel) (by decide +kernel)
theorem lk_X11_206 : Cond.methodLink RX11 206 yX11_wallWithLayer ∈ TB := tb4 84 (by decide +kernel) (by decide +kernel)
theorem lk_X11_254 : Cond.methodLink RX11 254 yX8_isCracked ∈ TB := tb4 90 (by decide +kernel) (by decide +kernel)
theorem lk_X11_258 : Cond.methodLink RX11 258 yX8_isHollow ∈ TB := tb4 94 (by decide +kernel) (by decide +kernel)
theorem lk_X11_261 : Cond.methodLink RX11 261 yX8_strength ∈ TB := tb4 98 (by decide +kernel) (by decide +kernel)
theorem lk_X11_264 : Cond.methodLink RX11 264 yX8_load ∈ TB := tb4 102 (by decide +kernel) (by decide +kernel)
theorem lk_X11_267 : Cond.methodLink RX11 267 yX8_stiffness ∈ TB := tb4 106 (by decide +kernel) (by decide +kernel)
theorem lk_L_122 : Cond.methodLink RL 122 yL_layer ∈ TB := tb4 111 (by decide +kernel) (by decide +kernel)
theorem lk_L_28 : Cond.methodLink RL 28 yX11_layer ∈ TB := tb4 114 (by decide +kernel) (by decide +kernel)
theorem lk_X11_272 : Cond.methodLink RX11 272 yX8_bears ∈ TB := tb4 118 (by decide +kernel) (by decide +kernel)
theorem lk_X8_103 : Cond.methodLink RX8 103 yX8_propBears ∈ TB := tb4 122 (by decide +kernel) (by decide +kernel)
theorem lk_X8_107 : Cond.methodLink RX8 107 yX8_strength ∈ TB := tb4 126 (by decide +kernel) (by decide +kernel)
theorem lk_X11_275 : Cond.methodLink RX11 275 yX8_presses ∈ TB := tb4 127 (by decide +kernel) (by decide +kernel)
theorem lk_X8_113 : Cond.methodLink RX8 113 yX8_loads ∈ TB := tb4 131 (by decide +kernel) (by decide +kernel)
theorem lk_X8_110 : Cond.methodLink RX8 110 yX8_load ∈ TB := tb4 135 (by decide +kernel) (by decide +kernel)
theorem lk_L_126 : Cond.methodLink RL 126 yL_lift ∈ TB := tb4 137 (by decide +kernel) (by decide +kernel)
theorem lk_L_32 : Cond.methodLink RL 32 yX11_lift ∈ TB := tb4 140 (by decide +kernel) (by decide +kernel)
theorem lk_X11_283 : Cond.methodLink RX11 283 yX8_raise ∈ TB := tb4 144 (by decide +kernel) (by decide +kernel)
theorem lk_L_129 : Cond.methodLink RL 129 yL_down ∈ TB := tb4 148 (by decide +kernel) (by decide +kernel)
theorem lk_L_35 : Cond.methodLink RL 35 yX11_down ∈ TB := tb4 151 (by decide +kernel) (by decide +kernel)
theorem lk_X11_286 : Cond.methodLink RX11 286 yX8_dropFrom ∈ TB := tb4 155 (by decide +kernel) (by decide +kernel)
theorem lk_X8_86 : Cond.methodLink RX8 86 yX8_waterFrom ∈ TB := tb4 159 (by decide +kernel) (by decide +kernel)
theorem lk_L_132 : Cond.methodLink RL 132 yL_hollow ∈ TB := tb4 160 (by decide +kernel) (by decide +kernel)
theorem lk_L_38 : Cond.methodLink RL 38 yX11_hollow ∈ TB := tb4 163 (by decide +kernel) (by decide +kernel)
theorem lk_X11_289 : Cond.methodLink RX11 289 yX8_makeHollow ∈ TB := tb4 167 (by decide +kernel) (by decide +kernel)
theorem lk_L_136 : Cond.methodLink RL 136 yL_weeks ∈ TB := tb4 171 (by decide +kernel) (by decide +kernel)
theorem lk_L_42 : Cond.methodLink RL 42 yX11_weeks ∈ TB := tb4 174 (by decide +kernel) (by decide +kernel)
theorem lk_X11_292 : Cond.methodLink RX11 292 yX11_checkRange ∈ TB := tb4 178 (by decide +kernel) (by decide +kernel)
theorem lk_X11_296 : Cond.methodLink RX11 296 yX9_pass ∈ TB := tb4 182 (by decide +kernel) (by decide +kernel)
theorem lk_X9_33 : Cond.methodLink RX9 33 yJ9_floorMod_7cf53 ∈ TB := tb4 186 (by decide +kernel) (by decide +kernel)
theorem lk_X9_54 : Cond.methodLink RX9 54 yX9_wet ∈ TB := tb4 190 (by decide +kernel) (by decide +kernel)
theorem lk_X9_84 : Cond.methodLink RX9 84 yX8_pour ∈ TB := tb4 194 (by decide +kernel) (by decide +kernel)
theorem lk_X9_97 : Cond.methodLink RX9 97 yJ9_max_7cf53 ∈ TB := tb4 198 (by decide +kernel) (by decide +kernel)
theorem lk_X9_58 : Cond.methodLink RX9 58 yX9_move ∈ TB := tb4 199 (by decide +kernel) (by decide +kernel)
theorem lk_X9_100 : Cond.methodLink RX9 100 yX9_flow ∈ TB := tb4 203 (by decide +kernel) (by decide +kernel)
theorem lk_X9_62 : Cond.methodLink RX9 62 yX9_dry ∈ TB := tb4 207 (by decide +kernel) (by decide +kernel)
theorem lk_X9_107 : Cond.methodLink RX9 107 yX8_evaporate ∈ TB := tb4 211 (by decide +kernel) (by decide +kernel)
theorem lk_X9_65 : Cond.methodLink RX9 65 yX9_crackAll ∈ TB := tb4 215 (by decide +kernel) (by decide +kernel)
theorem lk_X9_113 : Cond.methodLink RX9 113 yX8_crack ∈ TB := tb4 219 (by decide +kernel) (by decide +kernel)
theorem lk_X9_69 : Cond.methodLink RX9 69 yX9_settle ∈ TB := tb4 223 (by decide +kernel) (by decide +kernel)
theorem lk_X9_116 : Cond.methodLink RX9 116 yX8_bears ∈ TB := tb4 227 (by decide +kernel) (by decide +kernel)
theorem lk_X9_123 : Cond.methodLink RX9 123 yX8_loads ∈ TB := tb4 228 (by decide +kernel) (by decide +kernel)
theorem lk_X9_73 : Cond.methodLink RX9 73 yX8_fallFrom ∈ TB := tb4 229 (by decide +kernel) (by decide +kernel)
theorem lk_X8_90 : Cond.methodLink RX8 90 yX8_whyGivesWay ∈ TB := tb4 233 (by decide +kernel) (by decide +kernel)
theorem lk_X8_93 : Cond.methodLink RX8 93 yX8_dropFrom ∈ TB := tb4 237 (by decide +kernel) (by decide +kernel)
theorem lk_L_139 : Cond.methodLink RL 139 yL_high ∈ TB := tb4 238 (by decide +kernel) (by decide +kernel)
theorem lk_L_45 : Cond.methodLink RL 45 yX11_high ∈ TB := tb5 1 (by decide +kernel) (by decide +kernel)
theorem lk_X11_304 : Cond.methodLink RX11 304 yX8_roomAbove ∈ TB := tb5 5 (by decide +kernel) (by decide +kernel)
theorem lk_X8_120 : Cond.methodLink RX8 120 yX8_spare ∈ TB := tb5 9 (by decide +kernel) (by decide +kernel)
theorem lk_X8_117 : Cond.methodLink RX8 117 yX8_bears ∈ TB := tb5 14 (by decide +kernel) (by decide +kernel)
theorem lk_L_142 : Cond.methodLink RL 142 yL_when ∈ TB := tb5 15 (by decide +kernel) (by decide +kernel)
theorem lk_L_48 : Cond.methodLink RL 48 yX11_when ∈ TB := tb5 18 (by decide +kernel) (by decide +kernel)
theorem lk_X11_307 : Cond.methodLink RX11 307 yX1_weeksUntil ∈ TB := tb5 22 (by decide +kernel) (by decide +kernel)
theorem lk_X1_26 : Cond.methodLink RX1 26 yX8_become ∈ TB := tb5 26 (by decide +kernel) (by decide +kernel)
theorem lk_X1_32 : Cond.methodLink RX1 32 yX8_roomAbove ∈ TB := tb5 27 (by decide +kernel) (by decide +kernel)
theorem lk_X1_36 : Cond.methodLink RX1 36 yX9_pass ∈ TB := tb5 28 (by decide +kernel) (by decide +kernel)
theorem lk_L_145 : Cond.methodLink RL 145 yL_plan ∈ TB := tb5 29 (by decide +kernel) (by decide +kernel)
theorem lk_L_51 : Cond.methodLink RL 51 yX11_plan ∈ TB := tb5 32 (by decide +kernel) (by decide +kernel)
theorem lk_X11_311 : Cond.methodLink RX11 311 yX5_weeksTo ∈ TB := tb5 36 (by decide +kernel) (by decide +kernel)
theorem lk_X5_35 : Cond.methodLink RX5 35 yX8_become ∈ TB := tb5 40 (by decide +kernel) (by decide +kernel)
theorem lk_X5_39 : Cond.methodLink RX5 39 yX5_reaches ∈ TB := tb5 41 (by decide +kernel) (by decide +kernel)
theorem lk_X5_49 : Cond.methodLink RX5 49 yX5_bearsLift ∈ TB := tb5 45 (by decide +kernel) (by decide +kernel)
theorem lk_X5_53 : Cond.methodLink RX5 53 yX8_raise ∈ TB := tb5 49 (by decide +kernel) (by decide +kernel)
theorem lk_X5_57 : Cond.methodLink RX5 57 yX8_anySits ∈ TB := tb5 50 (by decide +kernel) (by decide +kernel)
theorem lk_X5_61 : Cond.methodLink RX5 61 yX9_pass ∈ TB := tb5 54 (by decide +kernel) (by decide +kernel)
theorem lk_L_148 : Cond.methodLink RL 148 yL_planned ∈ TB := tb5 56 (by decide +kernel) (by decide +kernel)
theorem lk_L_54 : Cond.methodLink RL 54 yX11_planned ∈ TB := tb5 59 (by decide +kernel) (by decide +kernel)
theorem lk_L_151 : Cond.methodLink RL 151 yL_turned ∈ TB := tb5 64 (by decide +kernel) (by decide +kernel)
theorem lk_L_57 : Cond.methodLink RL 57 yX11_turned ∈ TB := tb5 67 (by decide +kernel) (by decide +kernel)
theorem lk_X11_322 : Cond.methodLink RX11 322 yX11_checkWhat ∈ TB := tb5 71 (by decide +kernel) (by decide +kernel)
theorem lk_X11_328 : Cond.methodLink RX11 328 yX7_search ∈ TB := tb5 76 (by decide +kernel) (by decide +kernel)
theorem lk_X7_29 : Cond.methodLink RX7 29 yX8_become ∈ TB := tb5 80 (by decide +kernel) (by decide +kernel)
theorem lk_X7_35 : Cond.methodLink RX7 35 yX7_seek ∈ TB := tb5 81 (by decide +kernel) (by decide +kernel)
theorem lk_X7_39 : Cond.methodLink RX7 39 yX8_roomAbove ∈ TB := tb5 85 (by decide +kernel) (by decide +kernel)
theorem lk_X7_43 : Cond.methodLink RX7 43 yJ9_min_7cf53 ∈ TB := tb5 86 (by decide +kernel) (by decide +kernel)
theorem lk_X7_49 : Cond.methodLink RX7 49 yX7_goOn ∈ TB := tb5 87 (by decide +kernel) (by decide +kernel)
theorem lk_X7_52 : Cond.methodLink RX7 52 yX8_raise ∈ TB := tb5 91 (by decide +kernel) (by decide +kernel)
theorem lk_X7_56 : Cond.methodLink RX7 56 yX9_pass ∈ TB := tb5 92 (by decide +kernel) (by decide +kernel)
theorem lk_L_154 : Cond.methodLink RL 154 yL_line ∈ TB := tb5 93 (by decide +kernel) (by decide +kernel)
theorem lk_L_60 : Cond.methodLink RL 60 yX11_line ∈ TB := tb5 96 (by decide +kernel) (by decide +kernel)
theorem lk_X11_338 : Cond.methodLink RX11 338 yX1_fewestShoes ∈ TB := tb5 100 (by decide +kernel) (by decide +kernel)
theorem lk_X1_46 : Cond.methodLink RX1 46 yX1_firstPaste ∈ TB := tb5 104 (by decide +kernel) (by decide +kernel)
theorem lk_X1_58 : Cond.methodLink RX1 58 yJ9_max_7cf53 ∈ TB := tb5 108 (by decide +kernel) (by decide +kernel)
theorem lk_X1_64 : Cond.methodLink RX1 64 yX8_footIsPaste ∈ TB := tb5 109 (by decide +kernel) (by decide +kernel)
theorem lk_X1_68 : Cond.methodLink RX1 68 yX8_standsLike ∈ TB := tb5 113 (by decide +kernel) (by decide +kernel)
theorem lk_X11_341 : Cond.methodLink RX11 341 yX1_leastOuter ∈ TB := tb5 117 (by decide +kernel) (by decide +kernel)
theorem lk_X11_344 : Cond.methodLink RX11 344 yX1_footPaste ∈ TB := tb5 121 (by decide +kernel) (by decide +kernel)
theorem lk_L_157 : Cond.methodLink RL 157 yL_work ∈ TB := tb5 125 (by decide +kernel) (by decide +kernel)
theorem lk_L_63 : Cond.methodLink RL 63 yX11_work ∈ TB := tb5 128 (by decide +kernel) (by decide +kernel)
theorem lk_X11_347 : Cond.methodLink RX11 347 yX8_improve ∈ TB := tb5 132 (by decide +kernel) (by decide +kernel)
theorem lk_L_161 : Cond.methodLink RL 161 yL_order ∈ TB := tb5 136 (by decide +kernel) (by decide +kernel)
theorem lk_L_67 : Cond.methodLink RL 67 yX11_order ∈ TB := tb5 139 (by decide +kernel) (by decide +kernel)
theorem lk_X11_350 : Cond.methodLink RX11 350 yX4_leastBulges ∈ TB := tb5 143 (by decide +kernel) (by decide +kernel)
theorem lk_X4_33 : Cond.methodLink RX4 33 yX8_become ∈ TB := tb5 147 (by decide +kernel) (by decide +kernel)
theorem lk_X4_39 : Cond.methodLink RX4 39 yX4_seek ∈ TB := tb5 148 (by decide +kernel) (by decide +kernel)
theorem lk_X4_43 : Cond.methodLink RX4 43 yX8_bulges ∈ TB := tb5 152 (by decide +kernel) (by decide +kernel)
theorem lk_X4_53 : Cond.methodLink RX4 53 yX8_improve ∈ TB := tb5 157 (by decide +kernel) (by decide +kernel)
theorem lk_X4_57 : Cond.methodLink RX4 57 yX9_pass ∈ TB := tb5 158 (by decide +kernel) (by decide +kernel)
theorem lk_L_164 : Cond.methodLink RL 164 yL_ordered ∈ TB := tb5 159 (by decide +kernel) (by decide +kernel)
theorem lk_L_70 : Cond.methodLink RL 70 yX11_ordered ∈ TB := tb5 162 (by decide +kernel) (by decide +kernel)
theorem lk_L_172 : Cond.methodLink RL 172 yL_mix ∈ TB := tb5 167 (by decide +kernel) (by decide +kernel)
theorem lk_L_73 : Cond.methodLink RL 73 yX11_mix ∈ TB := tb5 170 (by decide +kernel) (by decide +kernel)
theorem lk_X11_370 : Cond.methodLink RX11 370 yX0_nextShare ∈ TB := tb5 174 (by decide +kernel) (by decide +kernel)
theorem lk_X0_34 : Cond.methodLink RX0 34 yX0_lowEnd ∈ TB := tb5 178 (by decide +kernel) (by decide +kernel)
theorem lk_X0_38 : Cond.methodLink RX0 38 yX0_highEnd ∈ TB := tb5 182 (by decide +kernel) (by decide +kernel)
theorem lk_X11_373 : Cond.methodLink RX11 373 yX0_fewestTrials ∈ TB := tb5 186 (by decide +kernel) (by decide +kernel)
theorem lk_L_179 : Cond.methodLink RL 179 yL_first ∈ TB := tb5 191 (by decide +kernel) (by decide +kernel)
theorem lk_L_76 : Cond.methodLink RL 76 yX11_first ∈ TB := tb5 194 (by decide +kernel) (by decide +kernel)
theorem lk_X11_384 : Cond.methodLink RX11 384 yX3_choose ∈ TB := tb5 198 (by decide +kernel) (by decide +kernel)
theorem lk_L_182 : Cond.methodLink RL 182 yL_guess ∈ TB := tb5 202 (by decide +kernel) (by decide +kernel)
theorem lk_L_79 : Cond.methodLink RL 79 yX11_guess ∈ TB := tb5 205 (by decide +kernel) (by decide +kernel)
theorem lk_X11_396 : Cond.methodLink RX11 396 yX2_keep ∈ TB := tb5 209 (by decide +kernel) (by decide +kernel)
theorem lk_L_185 : Cond.methodLink RL 185 yL_stick ∈ TB := tb5 213 (by decide +kernel) (by decide +kernel)
theorem lk_L_82 : Cond.methodLink RL 82 yX11_stick ∈ TB := tb5 216 (by decide +kernel) (by decide +kernel)
theorem lk_X11_400 : Cond.methodLink RX11 400 yX2_reading ∈ TB := tb5 220 (by decide +kernel) (by decide +kernel)
theorem lk_X2_35 : Cond.methodLink RX2 35 yJ9_abs_0f7a4 ∈ TB := tb5 224 (by decide +kernel) (by decide +kernel)
theorem lk_L_188 : Cond.methodLink RL 188 yL_credit ∈ TB := tb5 227 (by decide +kernel) (by decide +kernel)
theorem lk_L_85 : Cond.methodLink RL 85 yX11_credit ∈ TB := tb5 230 (by decide +kernel) (by decide +kernel)
theorem lk_L_91 : Cond.methodLink RL 91 yX12_init ∈ TB := tb5 236 (by decide +kernel) (by decide +kernel)
theorem f_X12_90 : FL RX12 90 12 0 (.int) (some false) := ⟨(RX12, TX12, 42), tyX12, cf_X12, by decide, rfl, (fun b h => by cases h; rfl), (fun h => by cases h), tb6 0 (by decide +kernel) (by decide +kernel)⟩
theorem f_X12_9 : FL RX12 9 12 1 (.array .int) (some true) := ⟨(RX12, TX12, 42), tyX12, cf_X12, by decide, rfl, (fun b h => by cases h; rfl), (fun _ => rfl), tb6 1 (by decide +kernel) (by decide +kernel)⟩
theorem f_X12_13 : FL RX12 13 12 2 (.array .int) (some true) := ⟨(RX12, TX12, 42), tyX12, cf_X12, by decide, rfl, (fun b h => by cases h; rfl), (fun _ => rfl), tb6 2 (by decide +kernel) (by decide +kernel)⟩
theorem f_X12_16 : FL RX12 16 12 3 (.array .int) (some true) := ⟨(RX12, TX12, 42), tyX12, cf_X12, by decide, rfl, (fun b h => by cases h; rfl), (fun _ => rfl), tb6 3 (by decide +kernel) (by decide +kernel)⟩
theorem f_X12_93 : FL RX12 93 12 4 (.int) (some false) := ⟨(RX12, TX12, 42), tyX12, cf_X12, by decide, rfl, (fun b h => by cases h; rfl), (fun h => by cases h), tb6 4 (by decide +kernel) (by decide +kernel)⟩
theorem f_X12_172 : FL RX12 172 12 5 (.int) (some false) := ⟨(RX12, TX12, 42), tyX12, cf_X12, by decide, rfl, (fun b h => by cases h; rfl), (fun h => by cases h), tb6 5 (by decide +kernel) (by decide +kernel)⟩
theorem f_X12_19 : FL RX12 19 12 6 (.array .int) (some true) := ⟨(RX12, TX12, 42), tyX12, cf_X12, by decide, rfl, (fun b h => by cases h; rfl), (fun _ => rfl), tb6 6 (by decide +kernel) (by decide +kernel)⟩
theorem f_X12_22 : FL RX12 22 12 7 (.array .int) (some true) := ⟨(RX12, TX12, 42), tyX12, cf_X12, by decide, rfl, (fun b h => by cases h; rfl), (fun _ => rfl), tb6 7 (by decide +kernel) (by decide +kernel)⟩
theorem f_X12_25 : FL RX12 25 12 8 (.array .int) (some true) := ⟨(RX12, TX12, 42), tyX12, cf_X12, by decide, rfl, (fun b h => by cases h; rfl), (fun _ => rfl), tb6 8 (by decide +kernel) (by decide +kernel)⟩
theorem f_X12_28 : FL RX12 28 12 9 (.array .int) (some true) := ⟨(RX12, TX12, 42), tyX12, cf_X12, by decide, rfl, (fun b h => by cases h; rfl), (fun _ => rfl), tb6 9 (by decide +kernel) (by decide +kernel)⟩
theorem f_X12_31 : FL RX12 31 12 10 (.array .int) (some true) := ⟨(RX12, TX12, 42), tyX12, cf_X12, by decide, rfl, (fun b h => by cases h; rfl), (fun _ => rfl), tb6 10 (by decide +kernel) (by decide +kernel)⟩
theorem f_X12_34 : FL RX12 34 12 11 (.array .int) (some true) := ⟨(RX12, TX12, 42), tyX12, cf_X12, by decide, rfl, (fun b h => by cases h; rfl), (fun _ => rfl), tb6 11 (by decide +kernel) (by decide +kernel)⟩
theorem f_X12_37 : FL RX12 37 12 12 (.array .int) (some true) := ⟨(RX12, TX12, 42), tyX12, cf_X12, by decide, rfl, (fun b h => by cases h; rfl), (fun _ => rfl), tb6 12 (by decide +kernel) (by decide +kernel)⟩
theorem f_X12_100 : FL RX12 100 12 13 (.int) (some false) := ⟨(RX12, TX12, 42), tyX12, cf_X12, by decide, rfl, (fun b h => by cases h; rfl), (fun h => by cases h), tb6 13 (by decide +kernel) (by decide +kernel)⟩
theorem f_X12_106 : FL RX12 106 12 14 (.int) (some false) := ⟨(RX12, TX12, 42), tyX12, cf_X12, by decide, rfl, (fun b h => by cases h; rfl), (fun h => by cases h), tb6 14 (by decide +kernel) (by decide +kernel)⟩
theorem f_X12_103 : FL RX12 103 12 15 (.int) (some false) := ⟨(RX12, TX12, 42), tyX12, cf_X12, by decide, rfl, (fun b h => by cases h; rfl), (fun h => by cases h), tb6 15 (by decide +kernel) (by decide +kernel)⟩
theorem f_X12_116 : FL RX12 116 12 16 (.int) (some false) := ⟨(RX12, TX12, 42), tyX12, cf_X12, by decide, rfl, (fun b h => by cases h; rfl), (fun h => by cases h), tb6 16 (by decide +kernel) (by decide +kernel)⟩
theorem f_X12_126 : FL RX12 126 12 17 (.int) (some false) := ⟨(RX12, TX12, 42), tyX12, cf_X12, by decide, rfl, (fun b h => by cases h; rfl), (fun h => by cases h), tb6 17 (by decide +kernel) (by decide +kernel)⟩
theorem f_X12_113 : FL RX12 113 12 18 (.int) (some false) := ⟨(RX12, TX12, 42), tyX12, cf_X12, by decide, rfl, (fun b h => by cases h; rfl), (fun h => by cases h), tb6 18 (by decide +kernel) (by decide +kernel)⟩
theorem f_X12_136 : FL RX12 136 12 19 (.int) (some false) := ⟨(RX12, TX12, 42), tyX12, cf_X12, by decide, rfl, (fun b h => by cases h; rfl), (fun h => by cases h), tb6 19 (by decide +kernel) (by decide +kernel)⟩
theorem f_X12_139 : FL RX12 139 12 20 (.int) (some false) := ⟨(RX12, TX12, 42), tyX12, cf_X12, by decide, rfl, (fun b h => by cases h; rfl), (fun h => by cases h), tb6 20 (by decide +kernel) (by decide +kernel)⟩
theorem f_X12_142 : FL RX12 142 12 21 (.int) (some false) := ⟨(RX12, TX12, 42), tyX12, cf_X12, by decide, rfl, (fun b h => by cases h; rfl), (fun h => by cases h), tb6 21 (by decide +kernel) (by decide +kernel)⟩
theorem f_X12_40 : FL RX12 40 12 22 (.int) (some false) := ⟨(RX12, TX12, 42), tyX12, cf_X12, by decide, rfl, (fun b h => by cases h; rfl), (fun h => by cases h), tb6 22 (by decide +kernel) (by decide +kernel)⟩
theorem f_X12_44 : FL RX12 44 12 23 (.array .int) (some true) := ⟨(RX12, TX12, 42), tyX12, cf_X12, by decide, rfl, (fun b h => by cases h; rfl), (fun _ => rfl), tb6 23 (by decide +kernel) (by decide +kernel)⟩
theorem f_X12_47 : FL RX12 47 12 24 (.array .int) (some true) := ⟨(RX12, TX12, 42), tyX12, cf_X12, by decide, rfl, (fun b h => by cases h; rfl), (fun _ => rfl), tb6 24 (by decide +kernel) (by decide +kernel)⟩
theorem f_X12_50 : FL RX12 50 12 25 (.int) (some false) := ⟨(RX12, TX12, 42), tyX12, cf_X12, by decide, rfl, (fun b h => by cases h; rfl), (fun h => by cases h), tb6 25 (by decide +kernel) (by decide +kernel)⟩
theorem f_X12_53 : FL RX12 53 12 26 (.array .int) (some true) := ⟨(RX12, TX12, 42), tyX12, cf_X12, by decide, rfl, (fun b h => by cases h; rfl), (fun _ => rfl), tb6 26 (by decide +kernel) (by decide +kernel)⟩
theorem f_X12_56 : FL RX12 56 12 27 (.array .int) (some true) := ⟨(RX12, TX12, 42), tyX12, cf_X12, by decide, rfl, (fun b h => by cases h; rfl), (fun _ => rfl), tb6 27 (by decide +kernel) (by decide +kernel)⟩
theorem f_X12_59 : FL RX12 59 12 28 (.array .int) (some true) := ⟨(RX12, TX12, 42), tyX12, cf_X12, by decide, rfl, (fun b h => by cases h; rfl), (fun _ => rfl), tb6 28 (by decide +kernel) (by decide +kernel)⟩
theorem f_X12_62 : FL RX12 62 12 29 (.int) (some false) := ⟨(RX12, TX12, 42), tyX12, cf_X12, by decide, rfl, (fun b h => by cases h; rfl), (fun h => by cases h), tb6 29 (by decide +kernel) (by decide +kernel)⟩
theorem f_X12_337 : FL RX12 337 12 30 (.int) (some false) := ⟨(RX12, TX12, 42), tyX12, cf_X12, by decide, rfl, (fun b h => by cases h; rfl), (fun h => by cases h), tb6 30 (by decide +kernel) (by decide +kernel)⟩
theorem f_X12_219 : FL RX12 219 12 31 (.int) (some false) := ⟨(RX12, TX12, 42), tyX12, cf_X12, by decide, rfl, (fun b h => by cases h; rfl), (fun h => by cases h), tb6 31 (by decide +kernel) (by decide +kernel)⟩
theorem f_X12_65 : FL RX12 65 12 32 (.int) (some false) := ⟨(RX12, TX12, 42), tyX12, cf_X12, by decide, rfl, (fun b h => by cases h; rfl), (fun h => by cases h), tb6 32 (by decide +kernel) (by decide +kernel)⟩
theorem f_X12_68 : FL RX12 68 12 33 (.int) (some false) := ⟨(RX12, TX12, 42), tyX12, cf_X12, by decide, rfl, (fun b h => by cases h; rfl), (fun h => by cases h), tb6 33 (by decide +kernel) (by decide +kernel)⟩
theorem f_X12_222 : FL RX12 222 12 34 (.int) (some false) := ⟨(RX12, TX12, 42), tyX12, cf_X12, by decide, rfl, (fun b h => by cases h; rfl), (fun h => by cases h), tb6 34 (by decide +kernel) (by decide +kernel)⟩
theorem f_X12_71 : FL RX12 71 12 35 (.array .int) (some true) := ⟨(RX12, TX12, 42), tyX12, cf_X12, by decide, rfl, (fun b h => by cases h; rfl), (fun _ => rfl), tb6 35 (by decide +kernel) (by decide +kernel)⟩
theorem f_X12_74 : FL RX12 74 12 36 (.array .int) (some true) := ⟨(RX12, TX12, 42), tyX12, cf_X12, by decide, rfl, (fun b h => by cases h; rfl), (fun _ => rfl), tb6 36 (by decide +kernel) (by decide +kernel)⟩
theorem f_X12_77 : FL RX12 77 12 37 (.array .int) (some true) := ⟨(RX12, TX12, 42), tyX12, cf_X12, by decide, rfl, (fun b h => by cases h; rfl), (fun _ => rfl), tb6 37 (by decide +kernel) (by decide +kernel)⟩
theorem f_X12_80 : FL RX12 80 12 38 (.array .boolean) (some true) := ⟨(RX12, TX12, 42), tyX12, cf_X12, by decide, rfl, (fun b h => by cases h; rfl), (fun _ => rfl), tb6 38 (by decide +kernel) (by decide +kernel)⟩
theorem f_X12_84 : FL RX12 84 12 39 (.array .int) (some true) := ⟨(RX12, TX12, 42), tyX12, cf_X12, by decide, rfl, (fun b h => by cases h; rfl), (fun _ => rfl), tb6 39 (by decide +kernel) (by decide +kernel)⟩
theorem f_X12_225 : FL RX12 225 12 40 (.boolean) (some false) := ⟨(RX12, TX12, 42), tyX12, cf_X12, by decide, rfl, (fun b h => by cases h; rfl), (fun h => by cases h), tb6 40 (by decide +kernel) (by decide +kernel)⟩
theorem f_X12_87 : FL RX12 87 12 41 (.array .int) (some true) := ⟨(RX12, TX12, 42), tyX12, cf_X12, by decide, rfl, (fun b h => by cases h; rfl), (fun _ => rfl), tb6 41 (by decide +kernel) (by decide +kernel)⟩
theorem lk_L_103 : Cond.methodLink RL 103 yX12_thrown ∈ TB := tb6 128 (by decide +kernel) (by decide +kernel)
theorem lk_L_96 : Cond.methodLink RL 96 yX12_feed ∈ TB := tb6 132 (by decide +kernel) (by decide +kernel)
theorem lk_L_102 : Cond.methodLink RL 102 yX12_yard ∈ TB := tb6 136 (by decide +kernel) (by decide +kernel)
theorem lk_X12_208 : Cond.methodLink RX12 208 yX12_fail ∈ TB := tb6 140 (by decide +kernel) (by decide +kernel)
theorem lk_X12_159 : Cond.methodLink RX12 159 yX12_stepOn ∈ TB := tb6 144 (by decide +kernel) (by decide +kernel)
theorem lk_X12_109 : Cond.methodLink RX12 109 yX12_byteAt ∈ TB := tb6 148 (by decide +kernel) (by decide +kernel)
theorem lk_X12_119 : Cond.methodLink RX12 119 yX12_isLetter ∈ TB := tb6 152 (by decide +kernel) (by decide +kernel)
theorem lk_X12_123 : Cond.methodLink RX12 123 yX12_isDigit ∈ TB := tb6 155 (by decide +kernel) (by decide +kernel)
theorem lk_X12_130 : Cond.methodLink RX12 130 yJ9_min_7cf53 ∈ TB := tb6 159 (by decide +kernel) (by decide +kernel)
theorem lk_X12_211 : Cond.methodLink RX12 211 yX12_readLine ∈ TB := tb6 160 (by decide +kernel) (by decide +kernel)
theorem lk_X12_155 : Cond.methodLink RX12 155 yX12_is ∈ TB := tb6 165 (by decide +kernel) (by decide +kernel)
theorem lk_X12_145 : Cond.methodLink RX12 145 yJ0_length_8abf5 ∈ TB := tb6 169 (by decide +kernel) (by decide +kernel)
theorem lk_X12_151 : Cond.methodLink RX12 151 yJ0_charAt_5068e ∈ TB := tb6 170 (by decide +kernel) (by decide +kernel)
theorem lk_X12_162 : Cond.methodLink RX12 162 yX12_wrong ∈ TB := tb6 173 (by decide +kernel) (by decide +kernel)
theorem lk_X12_169 : Cond.methodLink RX12 169 yX12_readNumber ∈ TB := tb6 177 (by decide +kernel) (by decide +kernel)
theorem lk_X12_199 : Cond.methodLink RX12 199 yX12_readWall ∈ TB := tb6 181 (by decide +kernel) (by decide +kernel)
theorem lk_X12_175 : Cond.methodLink RX12 175 yX12_put ∈ TB := tb6 185 (by decide +kernel) (by decide +kernel)
theorem lk_X12_181 : Cond.methodLink RX12 181 yX12_perhaps ∈ TB := tb6 190 (by decide +kernel) (by decide +kernel)
theorem lk_X12_166 : Cond.methodLink RX12 166 yX12_passes ∈ TB := tb6 194 (by decide +kernel) (by decide +kernel)
theorem lk_X12_202 : Cond.methodLink RX12 202 yX12_readWeek ∈ TB := tb6 202 (by decide +kernel) (by decide +kernel)
theorem lk_X12_205 : Cond.methodLink RX12 205 yX12_semi ∈ TB := tb6 207 (by decide +kernel) (by decide +kernel)
theorem lk_X12_215 : Cond.methodLink RX12 215 yX12_copy ∈ TB := tb6 211 (by decide +kernel) (by decide +kernel)
theorem lk_L_110 : Cond.methodLink RL 110 yX12_fault ∈ TB := tb6 215 (by decide +kernel) (by decide +kernel)
theorem lk_L_113 : Cond.methodLink RL 113 yX12_count ∈ TB := tb6 219 (by decide +kernel) (by decide +kernel)
theorem lk_X12_96 : Cond.methodLink RX12 96 yX12_isIn ∈ TB := tb6 223 (by decide +kernel) (by decide +kernel)
theorem lk_X12_229 : Cond.methodLink RX12 229 yX12_full ∈ TB := tb6 226 (by decide +kernel) (by decide +kernel)
theorem lk_X12_232 : Cond.methodLink RX12 232 yX12_shrink ∈ TB := tb6 230 (by decide +kernel) (by decide +kernel)
theorem lk_X12_235 : Cond.methodLink RX12 235 yX12_green ∈ TB := tb6 234 (by decide +kernel) (by decide +kernel)
theorem lk_X12_238 : Cond.methodLink RX12 238 yX12_of ∈ TB := tb6 238 (by decide +kernel) (by decide +kernel)
theorem lk_L_117 : Cond.methodLink RL 117 yX12_wall ∈ TB := tb7 2 (by decide +kernel) (by decide +kernel)
theorem lk_X12_244 : Cond.methodLink RX12 244 yX12_isWall ∈ TB := tb7 6 (by decide +kernel) (by decide +kernel)
theorem lk_X12_247 : Cond.methodLink RX12 247 yX12_waterIn ∈ TB := tb7 10 (by decide +kernel) (by decide +kernel)
theorem lk_X12_241 : Cond.methodLink RX12 241 yX12_at ∈ TB := tb7 14 (by decide +kernel) (by decide +kernel)
theorem lk_L_121 : Cond.methodLink RL 121 yX12_cell ∈ TB := tb7 17 (by decide +kernel) (by decide +kernel)
theorem lk_X12_279 : Cond.methodLink RX12 279 yX12_isCell ∈ TB := tb7 21 (by decide +kernel) (by decide +kernel)
theorem lk_X12_250 : Cond.methodLink RX12 250 yX12_isLayer ∈ TB := tb7 25 (by decide +kernel) (by decide +kernel)
theorem lk_X12_260 : Cond.methodLink RX12 260 yX12_isCracked ∈ TB := tb7 29 (by decide +kernel) (by decide +kernel)
theorem lk_X12_254 : Cond.methodLink RX12 254 yX12_isHollow ∈ TB := tb7 33 (by decide +kernel) (by decide +kernel)
theorem lk_X12_263 : Cond.methodLink RX12 263 yX12_strength ∈ TB := tb7 37 (by decide +kernel) (by decide +kernel)
theorem lk_X12_257 : Cond.methodLink RX12 257 yJ9_max_7cf53 ∈ TB := tb7 41 (by decide +kernel) (by decide +kernel)
theorem lk_X12_267 : Cond.methodLink RX12 267 yX12_load ∈ TB := tb7 42 (by decide +kernel) (by decide +kernel)
theorem lk_L_125 : Cond.methodLink RL 125 yX12_layer ∈ TB := tb7 46 (by decide +kernel) (by decide +kernel)
theorem lk_X12_273 : Cond.methodLink RX12 273 yX12_bears ∈ TB := tb7 50 (by decide +kernel) (by decide +kernel)
theorem lk_X12_270 : Cond.methodLink RX12 270 yX12_presses ∈ TB := tb7 54 (by decide +kernel) (by decide +kernel)
theorem lk_X12_276 : Cond.methodLink RX12 276 yX12_sits ∈ TB := tb7 58 (by decide +kernel) (by decide +kernel)
theorem lk_L_128 : Cond.methodLink RL 128 yX12_lift ∈ TB := tb7 62 (by decide +kernel) (by decide +kernel)
theorem lk_X12_282 : Cond.methodLink RX12 282 yX12_raise ∈ TB := tb7 66 (by decide +kernel) (by decide +kernel)
theorem lk_L_131 : Cond.methodLink RL 131 yX12_down ∈ TB := tb7 70 (by decide +kernel) (by decide +kernel)
theorem lk_X12_285 : Cond.methodLink RX12 285 yX12_cut ∈ TB := tb7 74 (by decide +kernel) (by decide +kernel)
theorem lk_L_135 : Cond.methodLink RL 135 yX12_hollow ∈ TB := tb7 78 (by decide +kernel) (by decide +kernel)
theorem lk_L_138 : Cond.methodLink RL 138 yX12_weeks ∈ TB := tb7 82 (by decide +kernel) (by decide +kernel)
theorem lk_X12_317 : Cond.methodLink RX12 317 yX12_week ∈ TB := tb7 86 (by decide +kernel) (by decide +kernel)
theorem lk_X12_301 : Cond.methodLink RX12 301 yX12_comeIn ∈ TB := tb7 90 (by decide +kernel) (by decide +kernel)
theorem lk_X12_288 : Cond.methodLink RX12 288 yX12_wet ∈ TB := tb7 94 (by decide +kernel) (by decide +kernel)
theorem lk_X12_304 : Cond.methodLink RX12 304 yX12_move ∈ TB := tb7 98 (by decide +kernel) (by decide +kernel)
theorem lk_X12_292 : Cond.methodLink RX12 292 yX12_see ∈ TB := tb7 102 (by decide +kernel) (by decide +kernel)
theorem lk_X12_295 : Cond.methodLink RX12 295 yX12_flow ∈ TB := tb7 106 (by decide +kernel) (by decide +kernel)
theorem lk_X12_307 : Cond.methodLink RX12 307 yX12_dry ∈ TB := tb7 110 (by decide +kernel) (by decide +kernel)
theorem lk_X12_310 : Cond.methodLink RX12 310 yX12_crack ∈ TB := tb7 114 (by decide +kernel) (by decide +kernel)
theorem lk_X12_314 : Cond.methodLink RX12 314 yX12_sit ∈ TB := tb7 118 (by decide +kernel) (by decide +kernel)
theorem lk_X12_298 : Cond.methodLink RX12 298 yX12_whyOf ∈ TB := tb7 122 (by decide +kernel) (by decide +kernel)
theorem lk_L_141 : Cond.methodLink RL 141 yX12_high ∈ TB := tb7 126 (by decide +kernel) (by decide +kernel)
theorem lk_X12_322 : Cond.methodLink RX12 322 yX12_highOf ∈ TB := tb7 130 (by decide +kernel) (by decide +kernel)
theorem lk_X12_319 : Cond.methodLink RX12 319 yX12_someSits ∈ TB := tb7 134 (by decide +kernel) (by decide +kernel)
theorem lk_L_144 : Cond.methodLink RL 144 yX12_when ∈ TB := tb7 138 (by decide +kernel) (by decide +kernel)
theorem lk_L_147 : Cond.methodLink RL 147 yX12_plan ∈ TB := tb7 142 (by decide +kernel) (by decide +kernel)
theorem lk_X12_325 : Cond.methodLink RX12 325 yX12_planOn ∈ TB := tb7 146 (by decide +kernel) (by decide +kernel)
theorem lk_L_150 : Cond.methodLink RL 150 yX12_planned ∈ TB := tb7 150 (by decide +kernel) (by decide +kernel)
theorem lk_L_153 : Cond.methodLink RL 153 yX12_turned ∈ TB := tb7 154 (by decide +kernel) (by decide +kernel)
theorem lk_L_156 : Cond.methodLink RL 156 yX12_line ∈ TB := tb7 158 (by decide +kernel) (by decide +kernel)
theorem lk_X12_328 : Cond.methodLink RX12 328 yX12_footOf ∈ TB := tb7 162 (by decide +kernel) (by decide +kernel)
theorem lk_L_160 : Cond.methodLink RL 160 yX12_work ∈ TB := tb7 166 (by decide +kernel) (by decide +kernel)
theorem lk_X12_331 : Cond.methodLink RX12 331 yX12_doWork ∈ TB := tb7 170 (by decide +kernel) (by decide +kernel)
theorem lk_L_163 : Cond.methodLink RL 163 yX12_order ∈ TB := tb7 174 (by decide +kernel) (by decide +kernel)
theorem lk_X12_340 : Cond.methodLink RX12 340 yX12_orderOn ∈ TB := tb7 178 (by decide +kernel) (by decide +kernel)
theorem lk_X12_334 : Cond.methodLink RX12 334 yX12_bulges ∈ TB := tb7 182 (by decide +kernel) (by decide +kernel)
theorem lk_L_166 : Cond.methodLink RL 166 yX12_ordered ∈ TB := tb7 186 (by decide +kernel) (by decide +kernel)
theorem lk_L_171 : Cond.methodLink RL 171 yX12_brick ∈ TB := tb7 190 (by decide +kernel) (by decide +kernel)
theorem lk_L_174 : Cond.methodLink RL 174 yX12_mix ∈ TB := tb7 194 (by decide +kernel) (by decide +kernel)
theorem lk_L_178 : Cond.methodLink RL 178 yX12_house ∈ TB := tb7 198 (by decide +kernel) (by decide +kernel)
theorem lk_L_181 : Cond.methodLink RL 181 yX12_first ∈ TB := tb7 202 (by decide +kernel) (by decide +kernel)
theorem lk_L_184 : Cond.methodLink RL 184 yX12_guess ∈ TB := tb7 206 (by decide +kernel) (by decide +kernel)
theorem lk_L_187 : Cond.methodLink RL 187 yX12_stick ∈ TB := tb7 210 (by decide +kernel) (by decide +kernel)
theorem lk_X12_343 : Cond.methodLink RX12 343 yX12_knows ∈ TB := tb7 214 (by decide +kernel) (by decide +kernel)
theorem lk_X12_346 : Cond.methodLink RX12 346 yJ9_abs_0f7a4 ∈ TB := tb7 218 (by decide +kernel) (by decide +kernel)
theorem lk_L_190 : Cond.methodLink RL 190 yX12_credit ∈ TB := tb7 219 (by decide +kernel) (by decide +kernel)
theorem lk_L_194 : Cond.methodLink RL 194 yX12_where ∈ TB := tb7 223 (by decide +kernel) (by decide +kernel)
theorem lk_L_198 : Cond.methodLink RL 198 yX12_image ∈ TB := tb7 227 (by decide +kernel) (by decide +kernel)
theorem lk_L_203 : Cond.methodLink RL 203 yX12_restore ∈ TB := tb7 231 (by decide +kernel) (by decide +kernel)
