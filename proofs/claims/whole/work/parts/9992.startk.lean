section STARTK
variable {s : State} {b : Nat}
theorem str_at (i : Nat) {args : Array Value} {A : Nat → Prop} (hi : i < 100) (hl : (wordB i).length < 100) (hg : ∀ w ∈ gvL, w.before args s = true) (hw : ∀ w ∈ strW (stT i).1 (stT i).2.1 (wordB i), w ∈ gvL) (hA : ∀ a : Nat, a < s.heap.size → ¬ A a) : va_O "java/lang/String" (adr args s b i) A s s.heap ∧ va_OF "java/lang/String" "coder" "B" (.int 0) (adr args s b i) A s s.heap ∧ va_OF "java/lang/String" "value" "[B" (.ref (adr args s b (100 + i))) (adr args s b i) A s s.heap ∧ va_T .byte (adr args s b (100 + i)) (wordB i).length (fun j => .int (nI ((wordB i).getD j 0))) A s s.heap := by
  obtain ⟨a, t, e1, e2, q1, q2, q3, q4⟩ := st_str hl (fun w h => hg w (hw w h)) hA
  have a1 : adr args s b i = a := by
    unfold adr
    rw [if_neg (by omega), if_neg (by omega), if_neg (by omega), e1]
    rfl
  have a2 : adr args s b (100 + i) = t := by
    unfold adr
    rw [if_neg (by omega), if_neg (by omega), if_pos (by omega), show 100 + i - 100 = i by omega, e2]
    rfl
  rw [a1, a2]
  exact ⟨q1, q2, q3, q4⟩
theorem ref_at (i : Nat) {args : Array Value} (hi : i < 100) (hg : (Cond.exactly (.string (stT i).1 (stT i).2.1) "java/lang/String").before args s = true) (hr : (Cond.stringRef (stT i).1 (stT i).2.1 (stT i).2.2.1).before args s = true) : vk_R (stT i).1 (stT i).2.1 (stT i).2.2.1 (adr args s b i) s := by
  obtain ⟨a, c, cA, kA, q1, -⟩ := Cond.exactly_spec (args := args) (first := s) (o := none) (s := s) (idx := []) (t := .string (stT i).1 (stT i).2.1) (cls := "java/lang/String") hg
  have a1 : adr args s b i = a := by
    unfold adr
    rw [if_neg (by omega), if_neg (by omega), if_neg (by omega), q1]
    rfl
  rw [a1]
  exact vk_R.of hr q1
theorem all_refs {args : Array Value} (hg : ∀ w ∈ gvL, w.before args s = true) (ht : ∀ w ∈ lw_tbl, w.before args s = true) : ∀ q ∈ strT, vk_R q.1 q.2.1 q.2.2.1 (adr args s b q.2.2.2) s := by
  unfold strT
  simp only [List.forall_mem_cons]
  exact ⟨ref_at 0 (by decide) (hg _ (sw_0 _ List.mem_cons_self)) (ht _ sr_0), ref_at 1 (by decide) (hg _ (sw_1 _ List.mem_cons_self)) (ht _ sr_1), ref_at 2 (by decide) (hg _ (sw_2 _ List.mem_cons_self)) (ht _ sr_2), ref_at 3 (by decide) (hg _ (sw_3 _ List.mem_cons_self)) (ht _ sr_3), ref_at 4 (by decide) (hg _ (sw_4 _ List.mem_cons_self)) (ht _ sr_4), ref_at 5 (by decide) (hg _ (sw_5 _ List.mem_cons_self)) (ht _ sr_5), ref_at 6 (by decide) (hg _ (sw_6 _ List.mem_cons_self)) (ht _ sr_6), ref_at 7 (by decide) (hg _ (sw_7 _ List.mem_cons_self)) (ht _ sr_7), ref_at 8 (by decide) (hg _ (sw_8 _ List.mem_cons_self)) (ht _ sr_8), ref_at 9 (by decide) (hg _ (sw_9 _ List.mem_cons_self)) (ht _ sr_9), ref_at 10 (by decide) (hg _ (sw_10 _ List.mem_cons_self)) (ht _ sr_10), ref_at 11 (by decide) (hg _ (sw_11 _ List.mem_cons_self)) (ht _ sr_11), ref_at 12 (by decide) (hg _ (sw_12 _ List.mem_cons_self)) (ht _ sr_12), ref_at 13 (by decide) (hg _ (sw_13 _ List.mem_cons_self)) (ht _ sr_13), ref_at 14 (by decide) (hg _ (sw_14 _ List.mem_cons_self)) (ht _ sr_14), ref_at 15 (by decide) (hg _ (sw_15 _ List.mem_cons_self)) (ht _ sr_15), ref_at 16 (by decide) (hg _ (sw_16 _ List.mem_cons_self)) (ht _ sr_16), ref_at 17 (by decide) (hg _ (sw_17 _ List.mem_cons_self)) (ht _ sr_17), ref_at 18 (by decide) (hg _ sw_18) (ht _ sr_18), ref_at 19 (by decide) (hg _ sw_19) (ht _ sr_19), ref_at 20 (by decide) (hg _ sw_20) (ht _ sr_20), ref_at 21 (by decide) (hg _ sw_21) (ht _ sr_21), ref_at 22 (by decide) (hg _ sw_22) (ht _ sr_22), ref_at 23 (by decide) (hg _ sw_23) (ht _ sr_23), ref_at 24 (by decide) (hg _ sw_24) (ht _ sr_24), ref_at 25 (by decide) (hg _ sw_25) (ht _ sr_25), ref_at 26 (by decide) (hg _ sw_26) (ht _ sr_26), ref_at 27 (by decide) (hg _ sw_27) (ht _ sr_27), ref_at 28 (by decide) (hg _ sw_28) (ht _ sr_28), ref_at 29 (by decide) (hg _ sw_29) (ht _ sr_29), ref_at 30 (by decide) (hg _ sw_30) (ht _ sr_30), ref_at 31 (by decide) (hg _ sw_31) (ht _ sr_31), fun _ h => absurd h List.not_mem_nil⟩
theorem all_strs {args : Array Value} {A : Nat → Prop} (hg : ∀ w ∈ gvL, w.before args s = true) (hA : ∀ a : Nat, a < s.heap.size → ¬ A a) : ∀ i, i < 18 → va_O "java/lang/String" (adr args s b i) A s s.heap ∧ va_OF "java/lang/String" "coder" "B" (.int 0) (adr args s b i) A s s.heap ∧ va_OF "java/lang/String" "value" "[B" (.ref (adr args s b (100 + i))) (adr args s b i) A s s.heap ∧ va_T .byte (adr args s b (100 + i)) (wordB i).length (fun j => .int (nI ((wordB i).getD j 0))) A s s.heap := by
  intro i hi
  match i, hi with
  | 0, _ => exact str_at 0 (by decide) (by decide) hg sw_0 hA
  | 1, _ => exact str_at 1 (by decide) (by decide) hg sw_1 hA
  | 2, _ => exact str_at 2 (by decide) (by decide) hg sw_2 hA
  | 3, _ => exact str_at 3 (by decide) (by decide) hg sw_3 hA
  | 4, _ => exact str_at 4 (by decide) (by decide) hg sw_4 hA
  | 5, _ => exact str_at 5 (by decide) (by decide) hg sw_5 hA
  | 6, _ => exact str_at 6 (by decide) (by decide) hg sw_6 hA
  | 7, _ => exact str_at 7 (by decide) (by decide) hg sw_7 hA
  | 8, _ => exact str_at 8 (by decide) (by decide) hg sw_8 hA
  | 9, _ => exact str_at 9 (by decide) (by decide) hg sw_9 hA
  | 10, _ => exact str_at 10 (by decide) (by decide) hg sw_10 hA
  | 11, _ => exact str_at 11 (by decide) (by decide) hg sw_11 hA
  | 12, _ => exact str_at 12 (by decide) (by decide) hg sw_12 hA
  | 13, _ => exact str_at 13 (by decide) (by decide) hg sw_13 hA
  | 14, _ => exact str_at 14 (by decide) (by decide) hg sw_14 hA
  | 15, _ => exact str_at 15 (by decide) (by decide) hg sw_15 hA
  | 16, _ => exact str_at 16 (by decide) (by decide) hg sw_16 hA
  | 17, _ => exact str_at 17 (by decide) (by decide) hg sw_17 hA
  | n + 18, h => exact absurd h (by omega)
theorem all_known {args : Array Value} (ht : ∀ w ∈ TB, w.before args s = true) : ∃ D : va_G, ∀ (c : Nat) (q : vw_C), vwCl[c]? = some q → u_Kn s q.1 q.2.1 q.2.2 (D.1 c) (D.2 c) := by
  have h : ∀ c : Nat, ∃ p : ClassId × (Nat → Nat), ∀ q : vw_C, vwCl[c]? = some q → u_Kn s q.1 q.2.1 q.2.2 p.1 p.2 := by
    intro c
    match c with
    | 0 =>
      obtain ⟨cC, iS, hK⟩ := u_known ht cf_X0.2.1 (ht _ nw_X0.2.2.1)
      exact ⟨(cC, iS), fun q hq => by cases hq; exact hK⟩
    | 1 =>
      obtain ⟨cC, iS, hK⟩ := u_known ht cf_X1.2.1 (ht _ nw_X1.2.2.1)
      exact ⟨(cC, iS), fun q hq => by cases hq; exact hK⟩
    | 2 =>
      obtain ⟨cC, iS, hK⟩ := u_known ht cf_X2.2.1 (ht _ nw_X2.2.2.1)
      exact ⟨(cC, iS), fun q hq => by cases hq; exact hK⟩
    | 3 =>
      obtain ⟨cC, iS, hK⟩ := u_known ht cf_X3.2.1 (ht _ nw_X3.2.2.1)
      exact ⟨(cC, iS), fun q hq => by cases hq; exact hK⟩
    | 4 =>
      obtain ⟨cC, iS, hK⟩ := u_known ht cf_X4.2.1 (ht _ nw_X4.2.2.1)
      exact ⟨(cC, iS), fun q hq => by cases hq; exact hK⟩
    | 5 =>
      obtain ⟨cC, iS, hK⟩ := u_known ht cf_X5.2.1 (ht _ nw_X5.2.2.1)
      exact ⟨(cC, iS), fun q hq => by cases hq; exact hK⟩
    | 6 =>
      obtain ⟨cC, iS, hK⟩ := u_known ht cf_X6.2.1 (ht _ nw_X6.2.2.1)
      exact ⟨(cC, iS), fun q hq => by cases hq; exact hK⟩
    | 7 =>
      obtain ⟨cC, iS, hK⟩ := u_known ht cf_X7.2.1 (ht _ nw_X7.2.2.1)
      exact ⟨(cC, iS), fun q hq => by cases hq; exact hK⟩
    | 8 =>
      obtain ⟨cC, iS, hK⟩ := u_known ht cf_X8.2.1 (ht _ nw_X8.2.2.1)
      exact ⟨(cC, iS), fun q hq => by cases hq; exact hK⟩
    | 9 =>
      obtain ⟨cC, iS, hK⟩ := u_known ht cf_X9.2.1 (ht _ nw_X9.2.2.1)
      exact ⟨(cC, iS), fun q hq => by cases hq; exact hK⟩
    | 10 =>
      obtain ⟨cC, iS, hK⟩ := u_known ht cf_X10.2.1 (ht _ nw_X10.2.2.1)
      exact ⟨(cC, iS), fun q hq => by cases hq; exact hK⟩
    | 11 =>
      obtain ⟨cC, iS, hK⟩ := u_known ht cf_X11.2.1 (ht _ nw_X11.2.2.1)
      exact ⟨(cC, iS), fun q hq => by cases hq; exact hK⟩
    | 12 =>
      obtain ⟨cC, iS, hK⟩ := u_known ht cf_X12.2.1 (ht _ nw_X12.2.2.1)
      exact ⟨(cC, iS), fun q hq => by cases hq; exact hK⟩
    | n + 13 => exact ⟨(0, fun _ => 0), fun q hq => by rw [List.getElem?_eq_none (show vwCl.length ≤ n + 13 by exact Nat.le_add_left 13 n)] at hq; cases hq⟩
  obtain ⟨f, hf⟩ := Classical.axiomOfChoice h
  exact ⟨(fun c => (f c).1, fun c => (f c).2), hf⟩
theorem arr_known {args : Array Value} {t : FieldType} (h : (Cond.arrayClass t).before args s = true) : ∃ cA : ClassId, ArrOfT s cA t ∧ s.vm.findClass ("[" ++ t.toString) = some cA := by
  obtain ⟨cA, kA, comp, h1, h2, h3⟩ := Cond.arrayClass_spec (args := args) (first := s) (o := none) (idx := []) h
  exact ⟨cA, fun n z => ⟨fun k h => (by cases h), kA, h2, comp, h3⟩, h1⟩
theorem arr_over {args : Array Value} {C : String} (h : (Cond.arrayOver (.object C)).before args s = true) : ∃ cA : ClassId, ArrOfT s cA (.object C) ∧ va_RA s cA (.object C) := by
  obtain ⟨comp, cA, kA, h1, -, h3, h4, h5⟩ := Cond.arrayOver_spec (args := args) (first := s) (o := none) (idx := []) h
  exact ⟨cA, fun n z => ⟨fun k h => (by cases h), kA, h3, comp, h4⟩, kA, comp, h3, h4, h1, h5⟩
theorem start_K {args : Array Value} (hg : ∀ w ∈ gvL, w.before args s = true) (ht : ∀ w ∈ lw_tbl, w.before args s = true) : ∃ E : VE, E.2.1 = s.heap.size ∧ E.2.2.1 201 = b ∧ KX E s := by
  obtain ⟨D, hD⟩ := all_known (args := args) (fun w hw => ht w (TB_in hw))
  obtain ⟨k0, a0, b0⟩ := arr_known (t := .int) (ht _ (tq1 63 (by decide +kernel)))
  obtain ⟨k1, a1, b1⟩ := arr_known (t := .byte) (ht _ (tq1 62 (by decide +kernel)))
  obtain ⟨k2, a2, b2⟩ := arr_known (t := .boolean) (ht _ (tq6 127 (by decide +kernel)))
  obtain ⟨k3, a3, b3⟩ := arr_known (t := .long) (ht _ (tq7 235 (by decide +kernel)))
  have w4 : (Cond.arrayOver (.object "MudWalls$Wall")).before args s = true := ht _ (tq1 130 (by decide +kernel))
  obtain ⟨k4, a4, b4⟩ := arr_over w4
  have hA : ∀ a : Nat, a < s.heap.size → ¬ (fun q => s.heap.size ≤ q) a := fun a h1 h2 => Nat.not_le_of_lt h1 h2
  refine ⟨(D, s.heap.size, adr args s b, fun t => match t with | 0 => k0 | 1 => k1 | 2 => k2 | 3 => k3 | _ => k4), rfl, (show adr args s b 201 = b from if_pos rfl), Nat.le_refl _, ⟨hD, ?_⟩, all_refs hg ht, all_strs hg hA, ?_, ?_, ?_, ⟨?_, ?_, ⟨?_, ?_, ?_⟩, ?_, ?_⟩, ?_⟩
  · intro c q hq
    match c, hq with
    | 0, hq => cases hq; exact ⟨a0, b0⟩
    | 1, hq => cases hq; exact ⟨a1, b1⟩
    | 2, hq => cases hq; exact ⟨a2, b2⟩
    | 3, hq => cases hq; exact ⟨a3, b3⟩
    | 4, hq => cases hq; exact ⟨a4, b4⟩
    | n + 5, hq => exact absurd hq (by simp [tysOf])
  · exact vx_Zqof (ht _ (tq3 81 (by decide +kernel))) (ht _ (tq1 15 (by decide +kernel))) (hg _ (List.mem_of_getElem? (i := 4) (by decide +kernel))) hA
  · exact vx_Zqof (ht _ (tq3 83 (by decide +kernel))) (ht _ (tq1 15 (by decide +kernel))) (hg _ (List.mem_of_getElem? (i := 5) (by decide +kernel))) hA
  · exact va_Zof (ht _ (tq3 152 (by decide +kernel))) (ht _ (tq1 19 (by decide +kernel))) (va_eqt (hg _ (List.mem_of_getElem? (i := 6) (by decide +kernel)))) hA
  · exact va_Nc.of (args := args) (hg _ (List.mem_of_getElem? (i := 38) (by decide +kernel)))
  · exact va_AO.of w4
  · exact va_Nw.of rfl (ht _ (tq1 35 (by decide +kernel)))
  · exact va_Nw.of rfl (ht _ (tq2 91 (by decide +kernel)))
  · exact va_Nw.of rfl (ht _ (tq2 110 (by decide +kernel)))
  · exact va_Nw.of rfl (ht _ (tq3 56 (by decide +kernel)))
  · exact va_Nw.of rfl (ht _ (tq4 42 (by decide +kernel)))
  · have hl : (Cond.laysStatic "jdk/internal/util/Preconditions" "SIOOBE_FORMATTER" "Ljava/util/function/BiFunction;").before args s = true := ht _ (tq3 168 (by decide +kernel))
    have hi : (Cond.initialized "jdk/internal/util/Preconditions").before args s = true := ht _ (tq1 21 (by decide +kernel))
    have hf : (Cond.isRef fmT).before args s = true := hg _ (List.mem_of_getElem? (i := 7) (by decide +kernel))
    obtain ⟨v, hv, hr⟩ := Cond.isRef_spec (args := args) (first := s) (o := none) (s := s) (idx := []) (t := fmT) hf
    cases v with
    | null => exact Or.inl (va_Zof hl hi hv hA)
    | ref a =>
      have e : adr args s b 200 = a := by
        unfold adr
        rw [if_neg (by decide), if_pos rfl, hv]
        rfl
      refine Or.inr ?_
      show va_Z _ _ _ (.ref (adr args s b 200)) _ _ _
      rw [e]
      exact va_Zof hl hi hv hA
    | _ => cases hr
end STARTK
