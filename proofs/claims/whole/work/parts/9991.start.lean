section START
variable {args : Array Value} {s : State} {A : Nat → Prop}
theorem tq1 (i : Nat) {w : Cond} (h : tables_1_1[i]? = some w) : w ∈ lw_tbl := List.mem_append_right _ (show w ∈ tables_1 from by
  have h := List.mem_of_getElem? h
  exact List.mem_append_left _ h)
theorem tq2 (i : Nat) {w : Cond} (h : tables_1_2[i]? = some w) : w ∈ lw_tbl := List.mem_append_right _ (show w ∈ tables_1 from by
  have h := List.mem_of_getElem? h
  exact List.mem_append_right _ (List.mem_append_left _ h))
theorem tq3 (i : Nat) {w : Cond} (h : tables_1_3[i]? = some w) : w ∈ lw_tbl := List.mem_append_right _ (show w ∈ tables_1 from by
  have h := List.mem_of_getElem? h
  exact List.mem_append_right _ (List.mem_append_right _ (List.mem_append_left _ h)))
theorem tq4 (i : Nat) {w : Cond} (h : tables_1_4[i]? = some w) : w ∈ lw_tbl := List.mem_append_right _ (show w ∈ tables_1 from by
  have h := List.mem_of_getElem? h
  exact List.mem_append_right _ (List.mem_append_right _ (List.mem_append_right _ (List.mem_append_left _ h))))
theorem tq5 (i : Nat) {w : Cond} (h : tables_1_5[i]? = some w) : w ∈ lw_tbl := List.mem_append_right _ (show w ∈ tables_1 from by
  have h := List.mem_of_getElem? h
  exact List.mem_append_right _ (List.mem_append_right _ (List.mem_append_right _ (List.mem_append_right _ (List.mem_append_left _ h)))))
theorem tq6 (i : Nat) {w : Cond} (h : tables_1_6[i]? = some w) : w ∈ lw_tbl := List.mem_append_right _ (show w ∈ tables_1 from by
  have h := List.mem_of_getElem? h
  exact List.mem_append_right _ (List.mem_append_right _ (List.mem_append_right _ (List.mem_append_right _ (List.mem_append_right _ (List.mem_append_left _ h))))))
theorem tq7 (i : Nat) {w : Cond} (h : tables_1_7[i]? = some w) : w ∈ lw_tbl := List.mem_append_right _ (show w ∈ tables_1 from by
  have h := List.mem_of_getElem? h
  exact List.mem_append_right _ (List.mem_append_right _ (List.mem_append_right _ (List.mem_append_right _ (List.mem_append_right _ (List.mem_append_right _ (List.mem_append_left _ h)))))))
theorem tq8 (i : Nat) {w : Cond} (h : tables_1_8[i]? = some w) : w ∈ lw_tbl := List.mem_append_right _ (show w ∈ tables_1 from by
  have h := List.mem_of_getElem? h
  exact List.mem_append_right _ (List.mem_append_right _ (List.mem_append_right _ (List.mem_append_right _ (List.mem_append_right _ (List.mem_append_right _ (List.mem_append_right _ (h))))))))
abbrev gvL : List Cond := flatC (Jvm.Cond.and given_1 narrow_1)
abbrev tmS (own : String) (k : Nat) : Term := .field (.string own k) "java/lang/String" "value" "[B"
/-- the words that say of a text what it holds -/
def strW (own : String) (k : Nat) (bs : List Nat) : List Cond := .exactly (.string own k) "java/lang/String" :: .eq (.field (.string own k) "java/lang/String" "coder" "B") (.int 0) :: .arrayOf (tmS own k) .byte :: .eq (.length (tmS own k)) (.int (Int32.ofNat bs.length)) :: (List.range bs.length).map (fun j => .eq (.elem (tmS own k) (.int (Int32.ofNat j))) (.int (nI (bs.getD j 0))))
theorem st_str {own : String} {k : Nat} {bs : List Nat} (hl : bs.length < 100) (h : ∀ w ∈ strW own k bs, w.before args s = true) (hA : ∀ a : Nat, a < s.heap.size → ¬ A a) : ∃ a t, (Term.string own k).eval args s none [] s = some (.ref a) ∧ (tmS own k).eval args s none [] s = some (.ref t) ∧ va_O "java/lang/String" a A s s.heap ∧ va_OF "java/lang/String" "coder" "B" (.int 0) a A s s.heap ∧ va_OF "java/lang/String" "value" "[B" (.ref t) a A s s.heap ∧ va_T .byte t bs.length (fun j => .int (nI (bs.getD j 0))) A s s.heap := by
  have h1 := h _ (List.mem_cons_self)
  have h2 := h _ (List.mem_cons_of_mem _ List.mem_cons_self)
  have h3 := h _ (List.mem_cons_of_mem _ (List.mem_cons_of_mem _ List.mem_cons_self))
  have h4 := h _ (List.mem_cons_of_mem _ (List.mem_cons_of_mem _ (List.mem_cons_of_mem _ List.mem_cons_self)))
  have h5 : ∀ j : Nat, j < bs.length → (Cond.eq (.elem (tmS own k) (.int (Int32.ofNat j))) (.int (nI (bs.getD j 0)))).before args s = true := fun j hj => h _ (List.mem_cons_of_mem _ (List.mem_cons_of_mem _ (List.mem_cons_of_mem _ (List.mem_cons_of_mem _ (List.mem_map.mpr ⟨j, List.mem_range.mpr hj, rfl⟩)))))
  obtain ⟨a, c, cA, kA, q1, -⟩ := Cond.exactly_spec (args := args) (first := s) (o := none) (s := s) (idx := []) (t := .string own k) (cls := "java/lang/String") h1
  obtain ⟨t, e2, hT⟩ := va_Tof (N := bs.length) (f := fun j => .int (nI (bs.getD j 0))) (by omega) h3 (va_eqt h4) (fun j hj => va_eqt (h5 j hj)) hA
  exact ⟨a, t, q1, e2, va_Oof h1 q1 hA, vk_OFof q1 (va_eqt h2) hA, vk_OFof q1 e2 hA, hT⟩
def refOf (v : Option Value) : Nat := match v with
  | some (.ref a) => a
  | _ => 0
abbrev fmT : Term := .static "jdk/internal/util/Preconditions" "SIOOBE_FORMATTER" "Ljava/util/function/BiFunction;"
abbrev stT (i : Nat) : String × Nat × String × Nat := strT.getD i ("", 0, "", 0)
/-- where texts, their bytes, the formatter and the script lie -/
def adr (args : Array Value) (s : State) (b i : Nat) : Nat := if i = 201 then b else if i = 200 then refOf (fmT.eval args s none [] s) else if 100 ≤ i then refOf ((tmS (stT (i - 100)).1 (stT (i - 100)).2.1).eval args s none [] s) else refOf ((Term.string (stT i).1 (stT i).2.1).eval args s none [] s)
theorem sw_0 : ∀ w ∈ strW "MudWalls$Reader" 52 (wordB 0), w ∈ gvL := fun w hw => List.mem_of_mem_drop (i := 73) (List.mem_of_mem_take (i := 9) (show w ∈ (gvL.drop 73).take 9 from by
  have e : (gvL.drop 73).take 9 = strW "MudWalls$Reader" 52 (wordB 0) := by decide +kernel
  rw [e]
  exact hw))
theorem sr_0 : Cond.stringRef "MudWalls$Reader" 52 "earth" ∈ lw_tbl := tq3 138 (by decide +kernel)
theorem sw_1 : ∀ w ∈ strW "MudWalls$Reader" 61 (wordB 1), w ∈ gvL := fun w hw => List.mem_of_mem_drop (i := 82) (List.mem_of_mem_take (i := 8) (show w ∈ (gvL.drop 82).take 8 from by
  have e : (gvL.drop 82).take 8 = strW "MudWalls$Reader" 61 (wordB 1) := by decide +kernel
  rw [e]
  exact hw))
theorem sr_1 : Cond.stringRef "MudWalls$Reader" 61 "wall" ∈ lw_tbl := tq3 208 (by decide +kernel)
theorem sw_2 : ∀ w ∈ strW "MudWalls$Reader" 66 (wordB 2), w ∈ gvL := fun w hw => List.mem_of_mem_drop (i := 134) (List.mem_of_mem_take (i := 8) (show w ∈ (gvL.drop 134).take 8 from by
  have e : (gvL.drop 134).take 8 = strW "MudWalls$Reader" 66 (wordB 2) := by decide +kernel
  rw [e]
  exact hw))
theorem sr_2 : Cond.stringRef "MudWalls$Reader" 66 "week" ∈ lw_tbl := tq3 226 (by decide +kernel)
theorem sw_3 : ∀ w ∈ strW "MudWalls$Reader" 93 (wordB 3), w ∈ gvL := fun w hw => List.mem_of_mem_drop (i := 90) (List.mem_of_mem_take (i := 10) (show w ∈ (gvL.drop 90).take 10 from by
  have e : (gvL.drop 90).take 10 = strW "MudWalls$Reader" 93 (wordB 3) := by decide +kernel
  rw [e]
  exact hw))
theorem sr_3 : Cond.stringRef "MudWalls$Reader" 93 "ground" ∈ lw_tbl := tq3 213 (by decide +kernel)
theorem sw_4 : ∀ w ∈ strW "MudWalls$Reader" 99 (wordB 4), w ∈ gvL := fun w hw => List.mem_of_mem_drop (i := 100) (List.mem_of_mem_take (i := 9) (show w ∈ (gvL.drop 100).take 9 from by
  have e : (gvL.drop 100).take 9 = strW "MudWalls$Reader" 99 (wordB 4) := by decide +kernel
  rw [e]
  exact hw))
theorem sr_4 : Cond.stringRef "MudWalls$Reader" 99 "shoes" ∈ lw_tbl := tq3 222 (by decide +kernel)
theorem sw_5 : ∀ w ∈ strW "MudWalls$Reader" 101 (wordB 5), w ∈ gvL := fun w hw => List.mem_of_mem_drop (i := 109) (List.mem_of_mem_take (i := 7) (show w ∈ (gvL.drop 109).take 7 from by
  have e : (gvL.drop 109).take 7 = strW "MudWalls$Reader" 101 (wordB 5) := by decide +kernel
  rw [e]
  exact hw))
theorem sr_5 : Cond.stringRef "MudWalls$Reader" 101 "hat" ∈ lw_tbl := tq3 223 (by decide +kernel)
theorem sw_6 : ∀ w ∈ strW "MudWalls$Reader" 106 (wordB 6), w ∈ gvL := fun w hw => List.mem_of_mem_drop (i := 116) (List.mem_of_mem_take (i := 9) (show w ∈ (gvL.drop 116).take 9 from by
  have e : (gvL.drop 116).take 9 = strW "MudWalls$Reader" 106 (wordB 6) := by decide +kernel
  rw [e]
  exact hw))
theorem sr_6 : Cond.stringRef "MudWalls$Reader" 106 "outer" ∈ lw_tbl := tq3 224 (by decide +kernel)
theorem sw_7 : ∀ w ∈ strW "MudWalls$Reader" 108 (wordB 7), w ∈ gvL := fun w hw => List.mem_of_mem_drop (i := 125) (List.mem_of_mem_take (i := 9) (show w ∈ (gvL.drop 125).take 9 from by
  have e : (gvL.drop 125).take 9 = strW "MudWalls$Reader" 108 (wordB 7) := by decide +kernel
  rw [e]
  exact hw))
theorem sr_7 : Cond.stringRef "MudWalls$Reader" 108 "inner" ∈ lw_tbl := tq3 225 (by decide +kernel)
theorem sw_8 : ∀ w ∈ strW "MudWalls$Reader" 116 (wordB 8), w ∈ gvL := fun w hw => List.mem_of_mem_drop (i := 142) (List.mem_of_mem_take (i := 9) (show w ∈ (gvL.drop 142).take 9 from by
  have e : (gvL.drop 142).take 9 = strW "MudWalls$Reader" 116 (wordB 8) := by decide +kernel
  rw [e]
  exact hw))
theorem sr_8 : Cond.stringRef "MudWalls$Reader" 116 "frost" ∈ lw_tbl := tq3 231 (by decide +kernel)
theorem sw_9 : ∀ w ∈ strW "MudWallsModel" 194 (wordB 9), w ∈ gvL := fun w hw => List.mem_of_mem_drop (i := 449) (List.mem_of_mem_take (i := 9) (show w ∈ (gvL.drop 449).take 9 from by
  have e : (gvL.drop 449).take 9 = strW "MudWallsModel" 194 (wordB 9) := by decide +kernel
  rw [e]
  exact hw))
theorem sr_9 : Cond.stringRef "MudWallsModel" 194 "earth" ∈ lw_tbl := tq6 164 (by decide +kernel)
theorem sw_10 : ∀ w ∈ strW "MudWallsModel" 195 (wordB 10), w ∈ gvL := fun w hw => List.mem_of_mem_drop (i := 459) (List.mem_of_mem_take (i := 8) (show w ∈ (gvL.drop 459).take 8 from by
  have e : (gvL.drop 459).take 8 = strW "MudWallsModel" 195 (wordB 10) := by decide +kernel
  rw [e]
  exact hw))
theorem sr_10 : Cond.stringRef "MudWallsModel" 195 "wall" ∈ lw_tbl := tq6 171 (by decide +kernel)
theorem sw_11 : ∀ w ∈ strW "MudWallsModel" 197 (wordB 11), w ∈ gvL := fun w hw => List.mem_of_mem_drop (i := 468) (List.mem_of_mem_take (i := 8) (show w ∈ (gvL.drop 468).take 8 from by
  have e : (gvL.drop 468).take 8 = strW "MudWallsModel" 197 (wordB 11) := by decide +kernel
  rw [e]
  exact hw))
theorem sr_11 : Cond.stringRef "MudWallsModel" 197 "week" ∈ lw_tbl := tq6 172 (by decide +kernel)
theorem sw_12 : ∀ w ∈ strW "MudWallsModel" 179 (wordB 12), w ∈ gvL := fun w hw => List.mem_of_mem_drop (i := 477) (List.mem_of_mem_take (i := 10) (show w ∈ (gvL.drop 477).take 10 from by
  have e : (gvL.drop 477).take 10 = strW "MudWallsModel" 179 (wordB 12) := by decide +kernel
  rw [e]
  exact hw))
theorem sr_12 : Cond.stringRef "MudWallsModel" 179 "ground" ∈ lw_tbl := tq6 189 (by decide +kernel)
theorem sw_13 : ∀ w ∈ strW "MudWallsModel" 185 (wordB 13), w ∈ gvL := fun w hw => List.mem_of_mem_drop (i := 488) (List.mem_of_mem_take (i := 9) (show w ∈ (gvL.drop 488).take 9 from by
  have e : (gvL.drop 488).take 9 = strW "MudWallsModel" 185 (wordB 13) := by decide +kernel
  rw [e]
  exact hw))
theorem sr_13 : Cond.stringRef "MudWallsModel" 185 "shoes" ∈ lw_tbl := tq6 198 (by decide +kernel)
theorem sw_14 : ∀ w ∈ strW "MudWallsModel" 187 (wordB 14), w ∈ gvL := fun w hw => List.mem_of_mem_drop (i := 498) (List.mem_of_mem_take (i := 7) (show w ∈ (gvL.drop 498).take 7 from by
  have e : (gvL.drop 498).take 7 = strW "MudWallsModel" 187 (wordB 14) := by decide +kernel
  rw [e]
  exact hw))
theorem sr_14 : Cond.stringRef "MudWallsModel" 187 "hat" ∈ lw_tbl := tq6 199 (by decide +kernel)
theorem sw_15 : ∀ w ∈ strW "MudWallsModel" 189 (wordB 15), w ∈ gvL := fun w hw => List.mem_of_mem_drop (i := 506) (List.mem_of_mem_take (i := 9) (show w ∈ (gvL.drop 506).take 9 from by
  have e : (gvL.drop 506).take 9 = strW "MudWallsModel" 189 (wordB 15) := by decide +kernel
  rw [e]
  exact hw))
theorem sr_15 : Cond.stringRef "MudWallsModel" 189 "outer" ∈ lw_tbl := tq6 200 (by decide +kernel)
theorem sw_16 : ∀ w ∈ strW "MudWallsModel" 191 (wordB 16), w ∈ gvL := fun w hw => List.mem_of_mem_drop (i := 516) (List.mem_of_mem_take (i := 9) (show w ∈ (gvL.drop 516).take 9 from by
  have e : (gvL.drop 516).take 9 = strW "MudWallsModel" 191 (wordB 16) := by decide +kernel
  rw [e]
  exact hw))
theorem sr_16 : Cond.stringRef "MudWallsModel" 191 "inner" ∈ lw_tbl := tq6 201 (by decide +kernel)
theorem sw_17 : ∀ w ∈ strW "MudWallsModel" 193 (wordB 17), w ∈ gvL := fun w hw => List.mem_of_mem_drop (i := 526) (List.mem_of_mem_take (i := 9) (show w ∈ (gvL.drop 526).take 9 from by
  have e : (gvL.drop 526).take 9 = strW "MudWallsModel" 193 (wordB 17) := by decide +kernel
  rw [e]
  exact hw))
theorem sr_17 : Cond.stringRef "MudWallsModel" 193 "frost" ∈ lw_tbl := tq6 206 (by decide +kernel)
theorem sw_18 : Cond.exactly (.string "MudWalls" 132) "java/lang/String" ∈ gvL := List.mem_of_getElem? (i := 39) (by decide +kernel)
theorem sr_18 : Cond.stringRef "MudWalls" 132 "the tape has not so many bytes" ∈ lw_tbl := tq3 94 (by decide +kernel)
theorem sw_19 : Cond.exactly (.string "MudWalls" 186) "java/lang/String" ∈ gvL := List.mem_of_getElem? (i := 151) (by decide +kernel)
theorem sr_19 : Cond.stringRef "MudWalls" 186 "no such count" ∈ lw_tbl := tq4 49 (by decide +kernel)
theorem sw_20 : Cond.exactly (.string "MudWalls" 195) "java/lang/String" ∈ gvL := List.mem_of_getElem? (i := 168) (by decide +kernel)
theorem sr_20 : Cond.stringRef "MudWalls" 195 "no such wall" ∈ lw_tbl := tq4 67 (by decide +kernel)
theorem sw_21 : Cond.exactly (.string "MudWalls" 204) "java/lang/String" ∈ gvL := List.mem_of_getElem? (i := 211) (by decide +kernel)
theorem sr_21 : Cond.stringRef "MudWalls" 204 "no such layer" ∈ lw_tbl := tq4 88 (by decide +kernel)
theorem sw_22 : Cond.exactly (.string "MudWalls" 213) "java/lang/String" ∈ gvL := List.mem_of_getElem? (i := 228) (by decide +kernel)
theorem sr_22 : Cond.stringRef "MudWalls" 213 "no such cell" ∈ lw_tbl := tq4 89 (by decide +kernel)
theorem sw_23 : Cond.exactly (.string "MudWalls" 245) "java/lang/String" ∈ gvL := List.mem_of_getElem? (i := 184) (by decide +kernel)
theorem sr_23 : Cond.stringRef "MudWalls" 245 "no such trait of a wall" ∈ lw_tbl := tq4 72 (by decide +kernel)
theorem sw_24 : Cond.exactly (.string "MudWalls" 270) "java/lang/String" ∈ gvL := List.mem_of_getElem? (i := 244) (by decide +kernel)
theorem sr_24 : Cond.stringRef "MudWalls" 270 "no such trait of a cell" ∈ lw_tbl := tq4 110 (by decide +kernel)
theorem sw_25 : Cond.exactly (.string "MudWalls" 281) "java/lang/String" ∈ gvL := List.mem_of_getElem? (i := 271) (by decide +kernel)
theorem sr_25 : Cond.stringRef "MudWalls" 281 "no such trait of a layer" ∈ lw_tbl := tq4 136 (by decide +kernel)
theorem sw_26 : Cond.exactly (.string "MudWalls" 300) "java/lang/String" ∈ gvL := List.mem_of_getElem? (i := 299) (by decide +kernel)
theorem sr_26 : Cond.stringRef "MudWalls" 300 "a number not as told" ∈ lw_tbl := tq4 181 (by decide +kernel)
theorem sw_27 : Cond.exactly (.string "MudWalls" 302) "java/lang/String" ∈ gvL := List.mem_of_getElem? (i := 349) (by decide +kernel)
theorem sr_27 : Cond.stringRef "MudWalls" 302 "no such thing is told" ∈ lw_tbl := tq5 74 (by decide +kernel)
theorem sw_28 : Cond.exactly (.string "MudWalls" 320) "java/lang/String" ∈ gvL := List.mem_of_getElem? (i := 323) (by decide +kernel)
theorem sr_28 : Cond.stringRef "MudWalls" 320 "no such week of a plan" ∈ lw_tbl := tq5 63 (by decide +kernel)
theorem sw_29 : Cond.exactly (.string "MudWalls" 326) "java/lang/String" ∈ gvL := List.mem_of_getElem? (i := 374) (by decide +kernel)
theorem sr_29 : Cond.stringRef "MudWalls" 326 "both are one wall" ∈ lw_tbl := tq5 75 (by decide +kernel)
theorem sw_30 : Cond.exactly (.string "MudWalls" 355) "java/lang/String" ∈ gvL := List.mem_of_getElem? (i := 395) (by decide +kernel)
theorem sr_30 : Cond.stringRef "MudWalls" 355 "no such work of an order" ∈ lw_tbl := tq5 166 (by decide +kernel)
theorem sw_31 : Cond.exactly (.string "MudWalls" 376) "java/lang/String" ∈ gvL := List.mem_of_getElem? (i := 423) (by decide +kernel)
theorem sr_31 : Cond.stringRef "MudWalls" 376 "no such thing of a mix" ∈ lw_tbl := tq5 190 (by decide +kernel)
end START
