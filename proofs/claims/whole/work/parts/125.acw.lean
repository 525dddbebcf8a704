section ACW
theorem ac_nat : Cond.native arraycopyName ∈ TB := tb3 40 (by decide +kernel) (by decide +kernel)
theorem ac_stat : Cond.static arraycopyName ∈ TB := tb3 39 (by decide +kernel) (by decide +kernel)
theorem ac_ini : Cond.initialized "java/lang/System" ∈ TB := tb1 23 (by decide +kernel) (by decide +kernel)
theorem lkac_X8_80 : Cond.methodLink RX8 80 arraycopyName ∈ TB := tb3 38 (by decide +kernel) (by decide +kernel)
theorem lkac_X11_414 : Cond.methodLink RX11 414 arraycopyName ∈ TB := tb3 41 (by decide +kernel) (by decide +kernel)
theorem lkac_X10_48 : Cond.methodLink RX10 48 arraycopyName ∈ TB := tb4 0 (by decide +kernel) (by decide +kernel)
theorem lkac_X9_48 : Cond.methodLink RX9 48 arraycopyName ∈ TB := tb4 189 (by decide +kernel) (by decide +kernel)
theorem lkac_X5_43 : Cond.methodLink RX5 43 arraycopyName ∈ TB := tb5 55 (by decide +kernel) (by decide +kernel)
theorem lkac_X4_47 : Cond.methodLink RX4 47 arraycopyName ∈ TB := tb5 156 (by decide +kernel) (by decide +kernel)
def mJ9_floorMod : MD := (yJ9_floorMod_7cf53, cJ9_floorMod_7cf53, 3, some .int)
theorem mfJ9_floorMod_7cf53 : MS mJ9_floorMod 2 := ⟨⟨tb4 188 (by decide +kernel) (by decide +kernel), tb1 4 (by decide +kernel) (by decide +kernel), by decide +kernel, by decide +kernel⟩, tb4 187 (by decide +kernel) (by decide +kernel)⟩
end ACW
