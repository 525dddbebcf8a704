section LAWW
variable {k : MC} {E : VE} {md : MD} {kd : List (Nat × Instr × Nat)} {d mc ms : Nat} {Q : State → Prop} {cm sm : Nat} {Sh : Nat → SE} {N : Nat} {G : Bool} {M : MM} {pc : Nat} {L : List (Option Value)} {st : List Value}
/-- the words of a static method with a table -/
def MSH (md : MD) (hh : List (Nat × Nat × Nat × Nat)) (n : Nat) : Prop := Cond.codeWith md.1 md.2.1 md.2.2.1 md.2.2.2 hh ∈ TB ∧ Cond.initialized md.1.cls ∈ TB ∧ (md.1.cls ≠ "java/lang/invoke/MethodHandle" ∧ md.1.cls ≠ "java/lang/invoke/VarHandle" ∧ (parseMethodDescriptor md.1.desc).map (fun d => d.parameters.length) = some n) ∧ md.2.2.1 ≤ 20 ∧ Cond.static md.1 ∈ TB
theorem ConH.met {md' : MD} {hh : List (Nat × Nat × Nat × Nat)} {d' mc' ms' : Nat} {av : List Value} {Post : Option Value → (Nat → SE) → Nat → MM → Prop} (h : ConH E md' hh d' mc' ms' av Sh N G M Post) (l : Launch) (hl : l.stackTraces = false) : Met l md'.1 (Cond.codeWith md'.1 md'.2.1 md'.2.2.1 md'.2.2.2 hh :: TB) { frames := d', cells := mc', slots := ms', locals := 40 * d' } (va_Pc (av.map (cv E)) (fun U => HR E Sh N G M U.heap ∧ KX E U)) (QC E G Post) mc' ms' (AE E) := by
  intro p e ha hc hk s m args below hf happ hP hK
  obtain ⟨n, o, g1, g2, g3, g4⟩ := h l hl p e ha hc hk s m args below hf happ hP hK
  refine ⟨n, o, g1, g2, g3, ?_⟩
  rcases g4 with g4 | ⟨q, -, X, ce, Lo, ⟨hx, -⟩, -⟩
  · exact g4
  · exact hx.elim
theorem r_callSH (C : CK k E md kd d mc ms) {idx n d' mc' ms' : Nat} {md' : MD} {hh : List (Nat × Nat × Nat × Nat)} {As rest : List Value} {Post : Option Value → (Nat → SE) → Nat → MM → Prop}
    (hd : cod kd pc = some (.invokestatic idx, 3)) (hm : MSH md' hh n) (hlk : Cond.methodLink md.1.cls idx md'.1 ∈ TB)
    (hC : ConH E md' hh d' mc' ms' As Sh N G M Post) (hn : As.length = n) (hLn : L.length = md.2.2.1) (hd' : d' < d) (hrest : (rest.map fun v => v.category).sum ≤ 8) (h1 : mc' ≤ cm) (h2 : ms' ≤ sm)
    (kk : ∀ r Sh' N' M', Post r Sh' N' M' → PT k E Q (cm - mc') (sm - ms') Sh' N' G M' (pc + 3) L (r.toList ++ rest)) : PT k E Q cm sm Sh N G M pc L (As.reverse ++ rest) := by
  intro ls H locs cells slots hL hH hS hc hs
  rw [List.map_append, List.map_reverse]
  obtain ⟨w1, w2, w3, w4, w5⟩ := hm
  have hG : GoodIn TB (va_wsS md.1.cls idx md'.1 (Cond.codeWith md'.1 md'.2.1 md'.2.2.1 md'.2.2.2 hh :: TB)) := by
    intro w hw
    have hin : w ∈ TB := by
      simp only [va_wsS, List.mem_append, List.mem_cons, List.not_mem_nil, or_false] at hw
      rcases hw with (rfl | rfl | rfl) | rfl | hw
      · exact hlk
      · exact w5
      · exact w2
      · exact w1
      · exact hw
    exact ⟨hin, good_of_word (TB_good hin)⟩
  have h21 := C.lc
  have cw := vx_cwSW (R := kR k) (s := kS k) (args := kA k) (mc := mc') (ms := ms') (rm := { frames := d', cells := mc', slots := ms', locals := 40 * d' }) n C.ts hG rfl rfl rfl w3 ⟨by rw [C.fr]; exact hd', by show 8 + (md'.2.2.1 + 11) + 40 * d' ≤ (kR k).locals; omega⟩
  have hr := vx_runSW (cells := cells) (slots := slots) (rest := rest.map (cv E)) (As := As.map (cv E)) (g := F0 (kM k) pc ls ((As.map (cv E)).reverse ++ rest.map (cv E))) (Pc := va_Pc (As.map (cv E)) (fun U => HR E Sh N G M U.heap ∧ KX E U)) (locs := locs) (meth := kMe k) (below := kB k) (e := k.2.2.1) ⟨C.x, C.b, C.ml, C.own, C.ts⟩ (hC.met k.2.1 C.tr) cw ⟨blind, pre_at C hH hS As⟩ rfl (by rw [List.length_map]; exact hn) (by show ls.size = md.2.2.1; rw [hL.1, hLn]) rfl (cat_rest rest hrest) (C.dec hd) ⟨by omega, by omega⟩
  intro T hT X
  obtain ⟨v, st₀, t, T', Lo, h0, X', hLo, e1, e2, ⟨⟨r, Sh', N', M', hv, hp, hb⟩, hF⟩, st⟩ := hr T hT X
  cases hv
  obtain ⟨k1, k2, k3⟩ := vx_keep h0 e1 hS (fun _ _ h => h) (fun _ h => h) hLo hF
  have hw := kk r Sh' N' M' hp ls T'.heap (locs ++ Lo) (cells + mc') (slots + ms') hL (by rw [e1]; exact hb) k3 (by omega) (by omega)
  rw [← opt_list] at hw
  obtain ⟨t2, a1, b1⟩ := hw T' rfl X'
  exact ⟨t2, st t2 a1, b1⟩
def mL_yard : MD := (yL_yard, cL_yard, 4, some .int)
def hL_yard : List (Nat × Nat × Nat × Nat) := [(0, 9, 12, 13)]
theorem mhL_yard : MSH mL_yard hL_yard 3 := ⟨tb3 48 (by decide +kernel) (by decide +kernel), tb1 0 (by decide +kernel) (by decide +kernel), by decide +kernel, by decide +kernel, tb3 47 (by decide +kernel) (by decide +kernel)⟩
def mL_count : MD := (yL_count, cL_count, 4, some .int)
def hL_count : List (Nat × Nat × Nat × Nat) := [(0, 9, 12, 18)]
theorem mhL_count : MSH mL_count hL_count 3 := ⟨tb4 26 (by decide +kernel) (by decide +kernel), tb1 0 (by decide +kernel) (by decide +kernel), by decide +kernel, by decide +kernel, tb4 25 (by decide +kernel) (by decide +kernel)⟩
def mL_wall : MD := (yL_wall, cL_wall, 5, some .int)
def hL_wall : List (Nat × Nat × Nat × Nat) := [(0, 10, 13, 18)]
theorem mhL_wall : MSH mL_wall hL_wall 4 := ⟨tb4 58 (by decide +kernel) (by decide +kernel), tb1 0 (by decide +kernel) (by decide +kernel), by decide +kernel, by decide +kernel, tb4 57 (by decide +kernel) (by decide +kernel)⟩
def mL_cell : MD := (yL_cell, cL_cell, 7, some .int)
def hL_cell : List (Nat × Nat × Nat × Nat) := [(0, 14, 17, 18)]
theorem mhL_cell : MSH mL_cell hL_cell 6 := ⟨tb4 75 (by decide +kernel) (by decide +kernel), tb1 0 (by decide +kernel) (by decide +kernel), by decide +kernel, by decide +kernel, tb4 74 (by decide +kernel) (by decide +kernel)⟩
def mL_layer : MD := (yL_layer, cL_layer, 6, some .int)
def hL_layer : List (Nat × Nat × Nat × Nat) := [(0, 12, 15, 18)]
theorem mhL_layer : MSH mL_layer hL_layer 5 := ⟨tb4 113 (by decide +kernel) (by decide +kernel), tb1 0 (by decide +kernel) (by decide +kernel), by decide +kernel, by decide +kernel, tb4 112 (by decide +kernel) (by decide +kernel)⟩
def mL_lift : MD := (yL_lift, cL_lift, 5, some .int)
def hL_lift : List (Nat × Nat × Nat × Nat) := [(0, 10, 13, 18)]
theorem mhL_lift : MSH mL_lift hL_lift 4 := ⟨tb4 139 (by decide +kernel) (by decide +kernel), tb1 0 (by decide +kernel) (by decide +kernel), by decide +kernel, by decide +kernel, tb4 138 (by decide +kernel) (by decide +kernel)⟩
def mL_down : MD := (yL_down, cL_down, 4, some .int)
def hL_down : List (Nat × Nat × Nat × Nat) := [(0, 9, 12, 18)]
theorem mhL_down : MSH mL_down hL_down 3 := ⟨tb4 150 (by decide +kernel) (by decide +kernel), tb1 0 (by decide +kernel) (by decide +kernel), by decide +kernel, by decide +kernel, tb4 149 (by decide +kernel) (by decide +kernel)⟩
def mL_hollow : MD := (yL_hollow, cL_hollow, 5, some .int)
def hL_hollow : List (Nat × Nat × Nat × Nat) := [(0, 7, 10, 18)]
theorem mhL_hollow : MSH mL_hollow hL_hollow 4 := ⟨tb4 162 (by decide +kernel) (by decide +kernel), tb1 0 (by decide +kernel) (by decide +kernel), by decide +kernel, by decide +kernel, tb4 161 (by decide +kernel) (by decide +kernel)⟩
def mL_weeks : MD := (yL_weeks, cL_weeks, 5, some .int)
def hL_weeks : List (Nat × Nat × Nat × Nat) := [(0, 10, 13, 18), (0, 10, 17, 13)]
theorem mhL_weeks : MSH mL_weeks hL_weeks 4 := ⟨tb4 173 (by decide +kernel) (by decide +kernel), tb1 0 (by decide +kernel) (by decide +kernel), by decide +kernel, by decide +kernel, tb4 172 (by decide +kernel) (by decide +kernel)⟩
def mL_high : MD := (yL_high, cL_high, 4, some .int)
def hL_high : List (Nat × Nat × Nat × Nat) := [(0, 9, 12, 18)]
theorem mhL_high : MSH mL_high hL_high 3 := ⟨tb5 0 (by decide +kernel) (by decide +kernel), tb1 0 (by decide +kernel) (by decide +kernel), by decide +kernel, by decide +kernel, tb4 239 (by decide +kernel) (by decide +kernel)⟩
def mL_when : MD := (yL_when, cL_when, 5, some .int)
def hL_when : List (Nat × Nat × Nat × Nat) := [(0, 10, 13, 18), (0, 10, 17, 13)]
theorem mhL_when : MSH mL_when hL_when 4 := ⟨tb5 17 (by decide +kernel) (by decide +kernel), tb1 0 (by decide +kernel) (by decide +kernel), by decide +kernel, by decide +kernel, tb5 16 (by decide +kernel) (by decide +kernel)⟩
def mL_plan : MD := (yL_plan, cL_plan, 5, some .int)
def hL_plan : List (Nat × Nat × Nat × Nat) := [(0, 10, 13, 18), (0, 10, 17, 13)]
theorem mhL_plan : MSH mL_plan hL_plan 4 := ⟨tb5 31 (by decide +kernel) (by decide +kernel), tb1 0 (by decide +kernel) (by decide +kernel), by decide +kernel, by decide +kernel, tb5 30 (by decide +kernel) (by decide +kernel)⟩
def mL_planned : MD := (yL_planned, cL_planned, 4, some .int)
def hL_planned : List (Nat × Nat × Nat × Nat) := [(0, 9, 12, 18)]
theorem mhL_planned : MSH mL_planned hL_planned 3 := ⟨tb5 58 (by decide +kernel) (by decide +kernel), tb1 0 (by decide +kernel) (by decide +kernel), by decide +kernel, by decide +kernel, tb5 57 (by decide +kernel) (by decide +kernel)⟩
def mL_turned : MD := (yL_turned, cL_turned, 7, some .int)
def hL_turned : List (Nat × Nat × Nat × Nat) := [(0, 14, 17, 18), (0, 14, 21, 13)]
theorem mhL_turned : MSH mL_turned hL_turned 6 := ⟨tb5 66 (by decide +kernel) (by decide +kernel), tb1 0 (by decide +kernel) (by decide +kernel), by decide +kernel, by decide +kernel, tb5 65 (by decide +kernel) (by decide +kernel)⟩
def mL_line : MD := (yL_line, cL_line, 6, some .int)
def hL_line : List (Nat × Nat × Nat × Nat) := [(0, 12, 15, 18), (0, 12, 19, 13)]
theorem mhL_line : MSH mL_line hL_line 5 := ⟨tb5 95 (by decide +kernel) (by decide +kernel), tb1 0 (by decide +kernel) (by decide +kernel), by decide +kernel, by decide +kernel, tb5 94 (by decide +kernel) (by decide +kernel)⟩
def mL_work : MD := (yL_work, cL_work, 4, some .int)
def hL_work : List (Nat × Nat × Nat × Nat) := [(0, 6, 9, 18)]
theorem mhL_work : MSH mL_work hL_work 3 := ⟨tb5 127 (by decide +kernel) (by decide +kernel), tb1 0 (by decide +kernel) (by decide +kernel), by decide +kernel, by decide +kernel, tb5 126 (by decide +kernel) (by decide +kernel)⟩
def mL_order : MD := (yL_order, cL_order, 5, some .int)
def hL_order : List (Nat × Nat × Nat × Nat) := [(0, 10, 13, 18), (0, 10, 17, 13)]
theorem mhL_order : MSH mL_order hL_order 4 := ⟨tb5 138 (by decide +kernel) (by decide +kernel), tb1 0 (by decide +kernel) (by decide +kernel), by decide +kernel, by decide +kernel, tb5 137 (by decide +kernel) (by decide +kernel)⟩
def mL_ordered : MD := (yL_ordered, cL_ordered, 4, some .int)
def hL_ordered : List (Nat × Nat × Nat × Nat) := [(0, 9, 12, 18)]
theorem mhL_ordered : MSH mL_ordered hL_ordered 3 := ⟨tb5 161 (by decide +kernel) (by decide +kernel), tb1 0 (by decide +kernel) (by decide +kernel), by decide +kernel, by decide +kernel, tb5 160 (by decide +kernel) (by decide +kernel)⟩
def mL_mix : MD := (yL_mix, cL_mix, 4, some .int)
def hL_mix : List (Nat × Nat × Nat × Nat) := [(0, 9, 12, 18)]
theorem mhL_mix : MSH mL_mix hL_mix 3 := ⟨tb5 169 (by decide +kernel) (by decide +kernel), tb1 0 (by decide +kernel) (by decide +kernel), by decide +kernel, by decide +kernel, tb5 168 (by decide +kernel) (by decide +kernel)⟩
def mL_first : MD := (yL_first, cL_first, 5, some .int)
def hL_first : List (Nat × Nat × Nat × Nat) := [(0, 10, 13, 18), (0, 10, 17, 13)]
theorem mhL_first : MSH mL_first hL_first 4 := ⟨tb5 193 (by decide +kernel) (by decide +kernel), tb1 0 (by decide +kernel) (by decide +kernel), by decide +kernel, by decide +kernel, tb5 192 (by decide +kernel) (by decide +kernel)⟩
def mL_guess : MD := (yL_guess, cL_guess, 4, some .int)
def hL_guess : List (Nat × Nat × Nat × Nat) := [(0, 6, 9, 18)]
theorem mhL_guess : MSH mL_guess hL_guess 3 := ⟨tb5 204 (by decide +kernel) (by decide +kernel), tb1 0 (by decide +kernel) (by decide +kernel), by decide +kernel, by decide +kernel, tb5 203 (by decide +kernel) (by decide +kernel)⟩
def mL_stick : MD := (yL_stick, cL_stick, 7, some .int)
def hL_stick : List (Nat × Nat × Nat × Nat) := [(0, 14, 17, 13)]
theorem mhL_stick : MSH mL_stick hL_stick 6 := ⟨tb5 215 (by decide +kernel) (by decide +kernel), tb1 0 (by decide +kernel) (by decide +kernel), by decide +kernel, by decide +kernel, tb5 214 (by decide +kernel) (by decide +kernel)⟩
def mL_credit : MD := (yL_credit, cL_credit, 4, some .int)
def hL_credit : List (Nat × Nat × Nat × Nat) := [(0, 9, 12, 18)]
theorem mhL_credit : MSH mL_credit hL_credit 3 := ⟨tb5 229 (by decide +kernel) (by decide +kernel), tb1 0 (by decide +kernel) (by decide +kernel), by decide +kernel, by decide +kernel, tb5 228 (by decide +kernel) (by decide +kernel)⟩
end LAWW
