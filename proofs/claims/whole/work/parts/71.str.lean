section STR
variable {k : MC} {E : VE} {md : MD} {kd : List (Nat × Instr × Nat)} {d mc ms : Nat} {Q : State → Prop} {cm sm : Nat} {Sh : Nat → SE} {N : Nat} {G : Bool} {M : MM} {pc : Nat} {L : List (Option Value)} {st : List Value}
/-- a text's constant -/
theorem r_ldcs (C : CK k E md kd d mc ms) {idx n : Nat} {text : String} (hd : cod kd pc = some (.ldc idx, 2)) (hq : (md.1.cls, idx, text, n) ∈ strT) (kk : PT k E Q cm sm Sh N G M (pc + 2) L (.retAddr n :: st)) : PT k E Q cm sm Sh N G M pc L st := by
  intro ls H locs cells slots hL hH hS hc hs
  have h := C.K.2.2.1 _ hq
  intro T hT X
  obtain ⟨t, a1, b1⟩ := kk ls H locs cells slots hL hH hS hc hs T hT X
  exact ⟨t, X.ldcString C.x (own := md.1.cls) (text := text) (index := idx) (a := E.2.2.1 n) C.own h.1 h.2 (g := F0 (kM k) pc ls (st.map (cv E))) rfl (by rw [C.b]; exact C.dec hd) _ a1, b1⟩
/-- a call by a text's constant -/
theorem r_callK (C : CK k E md kd d mc ms) {idx i n d' mc' ms' : Nat} {md' : MD} {As rest : List Value} {Post : Option Value → (Nat → SE) → Nat → MM → Prop} {PX : String → Prop}
    (hd : cod kd pc = some (.invokevirtual idx, 3)) (hm : MI md' n) (hlk : Cond.methodLink md.1.cls idx md'.1 ∈ TB) (hi : i < 18) (hci : md'.1.cls = "java/lang/String")
    (hC : Con E md' d' mc' ms' (.retAddr i :: As) Sh N G M Post PX) (hn : As.length = n) (hLn : L.length = md.2.2.1) (hd' : d' < d) (hrest : (rest.map fun v => v.category).sum ≤ 8) (h1 : mc' ≤ cm) (h2 : ms' ≤ sm)
    (kx : ∀ X, PX X → TH k E Q (cm - mc') (sm - ms') Sh N M pc L X)
    (kk : ∀ r Sh' N' M', Post r Sh' N' M' → PT k E Q (cm - mc') (sm - ms') Sh' N' G M' (pc + 3) L (r.toList ++ rest)) : PT k E Q cm sm Sh N G M pc L (As.reverse ++ .retAddr i :: rest) := by
  intro ls H locs cells slots hL hH hS hc hs
  rw [map_rev]
  have hrecv : ∃ cellB : Cell, H[E.2.2.1 i]? = some cellB ∧ cellB.vm.isStatics = false ∧ (kS k).vm.findClass md'.1.cls = some cellB.cls := by
    obtain ⟨cell, g1, g2, g3, -⟩ := (C.K.2.2.2.1 i hi).1.kept hS.2.1
    exact ⟨cell, g1, g2, by rw [hci]; exact g3⟩
  refine run_W (a := (cv E (.retAddr i) :: As.map (cv E)).toArray) (rest := rest) (vx_runV (C := md'.1.cls) (As := As.map (cv E)) (Pc := va_Pc ((.retAddr i :: As).map (cv E)) (fun U => HR E Sh N G M U.heap ∧ KX E U)) ⟨C.x, C.b, C.ml, C.own, C.ts⟩ (hC k.2.1 C.tr) ⟨callb C hm.1 hlk hd', C.ts _ hm.2.1, C.ts _ hm.2.2⟩ ⟨blind, hrecv, pre_at C hH hS (.retAddr i :: As)⟩ rfl (by rw [List.length_map]; exact hn) ?_ rfl ?_ (C.dec hd) ⟨by omega, by omega⟩) hL hS hc hs h1 h2 kx kk
  · show ls.size = md.2.2.1
    rw [hL.1, hLn]
  · show 2 * 0 + ((rest.map (cv E)).map fun v => v.category).sum ≤ 8
    exact cat_rest rest hrest
theorem k0_r (C : CK k E md kd d mc ms) {idx i d' : Nat} {md' : MD} {rest : List Value} {x : Value} {M1 : MM} (hd : cod kd pc = some (.invokevirtual idx, 3)) (hm : MI md' 0) (hlk : Cond.methodLink md.1.cls idx md'.1 ∈ TB) (hi : i < 18) (hci : md'.1.cls = "java/lang/String") (hC : Con E md' d' 0 0 [.retAddr i] Sh N G M (P1 (some x) Sh N M1) nox) (kk : PT k E Q cm sm Sh N G M1 (pc + 3) L (x :: rest)) (hd' : d' < d := by omega) (hLn : L.length = md.2.2.1 := by rfl) (hrest : (rest.map fun v => v.category).sum ≤ 8 := by exact Nat.le_of_ble_eq_true rfl) : PT k E Q cm sm Sh N G M pc L (.retAddr i :: rest) := by
  refine r_callK (As := []) (rest := rest) C hd hm hlk hi hci hC rfl hLn hd' hrest (Nat.zero_le _) (Nat.zero_le _) (fun _ h => h.elim) ?_
  rintro r Sh' N' M' ⟨rfl, rfl, rfl, rfl⟩
  exact kk
theorem k1_r (C : CK k E md kd d mc ms) {idx i d' : Nat} {md' : MD} {rest : List Value} {x a : Value} {M1 : MM} (hd : cod kd pc = some (.invokevirtual idx, 3)) (hm : MI md' 1) (hlk : Cond.methodLink md.1.cls idx md'.1 ∈ TB) (hi : i < 18) (hci : md'.1.cls = "java/lang/String") (hC : Con E md' d' 0 0 [.retAddr i, a] Sh N G M (P1 (some x) Sh N M1) nox) (kk : PT k E Q cm sm Sh N G M1 (pc + 3) L (x :: rest)) (hd' : d' < d := by omega) (hLn : L.length = md.2.2.1 := by rfl) (hrest : (rest.map fun v => v.category).sum ≤ 8 := by exact Nat.le_of_ble_eq_true rfl) : PT k E Q cm sm Sh N G M pc L (a :: .retAddr i :: rest) := by
  refine r_callK (As := [a]) (rest := rest) C hd hm hlk hi hci hC rfl hLn hd' hrest (Nat.zero_le _) (Nat.zero_le _) (fun _ h => h.elim) ?_
  rintro r Sh' N' M' ⟨rfl, rfl, rfl, rfl⟩
  exact kk
/-- a field of a text's constant -/
theorem r_getK (C : CK k E md kd d mc ms) {idx i : Nat} {n dd : String} {v : Value} (hd : cod kd pc = some (.getfield idx, 3)) (hlk : Cond.fieldLink md.1.cls idx "java/lang/String" n dd ∈ TB) (hO : va_OF "java/lang/String" n dd (cv E v) (E.2.2.1 i) (AE E) (kS k) (kS k).heap) (kk : PT k E Q cm sm Sh N G M (pc + 3) L (v :: st)) : PT k E Q cm sm Sh N G M pc L (.retAddr i :: st) := by
  intro ls H locs cells slots hL hH hS hc hs
  exact vk_getf C.x C.b hO hS C.own (C.ts _ hlk) (fun _ h => h) (C.dec hd) (kk ls H locs cells slots hL hH hS hc hs)
theorem r_gets (C : CK k E md kd d mc ms) {idx : Nat} {cl n dd : String} {v : Value} (hd : cod kd pc = some (.getstatic idx, 3)) (hlk : Cond.fieldLink md.1.cls idx cl n dd ∈ TB) (hZ : va_Z cl n dd (cv E v) (AE E) (kS k) (kS k).heap) (kk : PT k E Q cm sm Sh N G M (pc + 3) L (v :: st)) : PT k E Q cm sm Sh N G M pc L st := by
  intro ls H locs cells slots hL hH hS hc hs
  exact va_gets C.x C.b hZ hS C.own (C.ts _ hlk) (fun _ h => h) (C.dec hd) (kk ls H locs cells slots hL hH hS hc hs)
theorem r_alenK (C : CK k E md kd d mc ms) {i : Nat} (hi : i < 18) (hd : cod kd pc = some (.arraylength, 1)) (kk : PT k E Q cm sm Sh N G M (pc + 1) L (.int (nI (wordB i).length) :: st)) : PT k E Q cm sm Sh N G M pc L (.retAddr (100 + i) :: st) := by
  intro ls H locs cells slots hL hH hS hc hs
  exact va_tlen C.x C.b (C.K.2.2.2.1 i hi).2.2.2 hS rfl (C.dec hd) (kk ls H locs cells slots hL hH hS hc hs)
theorem r_baldK (C : CK k E md kd d mc ms) {i : Nat} (hi : i < 18) (j : Nat) (hj : j < (wordB i).length) (hd : cod kd pc = some (.baload, 1)) (kk : PT k E Q cm sm Sh N G M (pc + 1) L (.int (nI ((wordB i).getD j 0)) :: st)) : PT k E Q cm sm Sh N G M pc L (.int (nI j) :: .retAddr (100 + i) :: st) := by
  intro ls H locs cells slots hL hH hS hc hs
  have h7 : ∀ i, i < 18 → (wordB i).length < 7 := by decide +kernel
  have h8 := h7 i hi
  refine va_tb C.x C.b (C.K.2.2.2.1 i hi).2.2.2 hS ?_ (by rw [nI_clamp (by omega)]; rfl) (C.dec hd) (kk ls H locs cells slots hL hH hS hc hs)
  rintro (h | h)
  · exact absurd ((nI_leI (a := 0) (by omega) (by omega)).mpr (Nat.zero_le j)) (Int32.not_le.mpr h)
  · rw [nI_clamp (by omega)] at h
    omega
theorem r_i2c (C : CK k E md kd d mc ms) {x y : Int32} (hd : cod kd pc = some (.i2c, 1)) (hv : (x.toUInt32 % 65536).toInt32 = y) (kk : PT k E Q cm sm Sh N G M (pc + 1) L (.int y :: st)) : PT k E Q cm sm Sh N G M pc L (.int x :: st) := by
  intro ls H locs cells slots hL hH hS hc hs
  exact lv_i2c C.x C.b (C.dec hd) hv (kk ls H locs cells slots hL hH hS hc hs)
end STR
section STM
variable {E : VE} {Sh : Nat → SE} {N : Nat} {G : Bool} {M : MM}
def mS_coder : MD := (yJ0_coder_7d493, cJ0_coder_7d493, 1, some .byte)
def mS_lat : MD := (yJ0_isLatin1_aae02, cJ0_isLatin1_aae02, 1, some .boolean)
def mS_len : MD := (yJ0_length_8abf5, cJ0_length_8abf5, 1, some .int)
def mS_charAt : MD := (yJ0_charAt_5068e, cJ0_charAt_5068e, 2, some .char)
def mS_l1 : MD := (yJ1_charAt_3b067, cJ1_charAt_3b067, 2, some .char)
def mS_chk : MD := (yJ0_checkIndex_df160, cJ0_checkIndex_df160, 2, none)
def mS_pre : MD := (yJ3_checkIndex_8e157, cJ3_checkIndex_8e157, 3, some .int)
theorem mfS_coder : MI mS_coder 0 := ⟨⟨tb3 150 (by decide +kernel) (by decide +kernel), tb1 19 (by decide +kernel) (by decide +kernel), by decide +kernel, by decide +kernel⟩, tb3 148 (by decide +kernel) (by decide +kernel), tb3 149 (by decide +kernel) (by decide +kernel)⟩
theorem mfS_lat : MI mS_lat 0 := ⟨⟨tb3 160 (by decide +kernel) (by decide +kernel), tb1 19 (by decide +kernel) (by decide +kernel), by decide +kernel, by decide +kernel⟩, tb3 158 (by decide +kernel) (by decide +kernel), tb3 159 (by decide +kernel) (by decide +kernel)⟩
theorem mfS_len : MI mS_len 0 := ⟨⟨tb3 146 (by decide +kernel) (by decide +kernel), tb1 19 (by decide +kernel) (by decide +kernel), by decide +kernel, by decide +kernel⟩, tb3 144 (by decide +kernel) (by decide +kernel), tb3 145 (by decide +kernel) (by decide +kernel)⟩
theorem mfS_charAt : MI mS_charAt 1 := ⟨⟨tb3 156 (by decide +kernel) (by decide +kernel), tb1 19 (by decide +kernel) (by decide +kernel), by decide +kernel, by decide +kernel⟩, tb3 154 (by decide +kernel) (by decide +kernel), tb3 155 (by decide +kernel) (by decide +kernel)⟩
theorem mfS_l1 : MS mS_l1 2 := ⟨⟨tb3 163 (by decide +kernel) (by decide +kernel), tb1 20 (by decide +kernel) (by decide +kernel), by decide +kernel, by decide +kernel⟩, tb3 162 (by decide +kernel) (by decide +kernel)⟩
theorem mfS_chk : MS mS_chk 2 := ⟨⟨tb3 166 (by decide +kernel) (by decide +kernel), tb1 19 (by decide +kernel) (by decide +kernel), by decide +kernel, by decide +kernel⟩, tb3 165 (by decide +kernel) (by decide +kernel)⟩
theorem mfS_pre : MS mS_pre 3 := ⟨⟨tb3 171 (by decide +kernel) (by decide +kernel), tb1 21 (by decide +kernel) (by decide +kernel), by decide +kernel, by decide +kernel⟩, tb3 170 (by decide +kernel) (by decide +kernel)⟩
theorem lkS_335 : Cond.methodLink RJ0 335 yJ0_coder_7d493 ∈ TB := tb3 147 (by decide +kernel) (by decide +kernel)
theorem lkS_492 : Cond.methodLink RJ0 492 yJ0_isLatin1_aae02 ∈ TB := tb3 157 (by decide +kernel) (by decide +kernel)
theorem lkS_495 : Cond.methodLink RJ0 495 yJ1_charAt_3b067 ∈ TB := tb3 161 (by decide +kernel) (by decide +kernel)
theorem lkS_9 : Cond.methodLink RJ1 9 yJ0_checkIndex_df160 ∈ TB := tb3 164 (by decide +kernel) (by decide +kernel)
theorem lkS_1059 : Cond.methodLink RJ0 1059 yJ3_checkIndex_8e157 ∈ TB := tb3 169 (by decide +kernel) (by decide +kernel)
theorem flS_38 : Cond.fieldLink RJ0 38 "java/lang/String" "COMPACT_STRINGS" "Z" ∈ TB := tb3 151 (by decide +kernel) (by decide +kernel)
theorem flS_9 : Cond.fieldLink RJ0 9 "java/lang/String" "value" "[B" ∈ TB := tb8 14 (by decide +kernel) (by decide +kernel)
theorem flS_15 : Cond.fieldLink RJ0 15 "java/lang/String" "coder" "B" ∈ TB := tb8 15 (by decide +kernel) (by decide +kernel)
theorem flS_1053 : Cond.fieldLink RJ0 1053 "jdk/internal/util/Preconditions" "SIOOBE_FORMATTER" "Ljava/util/function/BiFunction;" ∈ TB := tb3 167 (by decide +kernel) (by decide +kernel)
def kdS_coder : List (Nat × Instr × Nat) := [(0, .getstatic 38, 3), (3, .ifCond .eq 10, 3), (6, .aload_n 0, 1), (7, .getfield 15, 3), (10, .goto 4, 3), (13, .iconst 1, 1), (14, .ireturn, 1)]
theorem kdS_coder_ok : ∀ q ∈ kdS_coder, decode mS_coder.2.1 q.1 = .ok q.2 := by decide +kernel
def kdS_lat : List (Nat × Instr × Nat) := [(0, .getstatic 38, 3), (3, .ifCond .eq 14, 3), (6, .aload_n 0, 1), (7, .getfield 15, 3), (10, .ifCond .ne 7, 3), (13, .iconst 1, 1), (14, .goto 4, 3), (17, .iconst 0, 1), (18, .ireturn, 1)]
theorem kdS_lat_ok : ∀ q ∈ kdS_lat, decode mS_lat.2.1 q.1 = .ok q.2 := by decide +kernel
def kdS_len : List (Nat × Instr × Nat) := [(0, .aload_n 0, 1), (1, .getfield 9, 3), (4, .arraylength, 1), (5, .aload_n 0, 1), (6, .invokevirtual 335, 3), (9, .ishr, 1), (10, .ireturn, 1)]
theorem kdS_len_ok : ∀ q ∈ kdS_len, decode mS_len.2.1 q.1 = .ok q.2 := by decide +kernel
def kdS_charAt : List (Nat × Instr × Nat) := [(0, .aload_n 0, 1), (1, .invokevirtual 492, 3), (4, .ifCond .eq 12, 3), (7, .aload_n 0, 1), (8, .getfield 9, 3), (11, .iload_n 1, 1), (12, .invokestatic 495, 3), (15, .ireturn, 1), (16, .aload_n 0, 1), (17, .getfield 9, 3), (20, .iload_n 1, 1), (21, .invokestatic 498, 3), (24, .ireturn, 1)]
theorem kdS_charAt_ok : ∀ q ∈ kdS_charAt, decode mS_charAt.2.1 q.1 = .ok q.2 := by decide +kernel
def kdS_l1 : List (Nat × Instr × Nat) := [(0, .iload_n 1, 1), (1, .aload_n 0, 1), (2, .arraylength, 1), (3, .invokestatic 9, 3), (6, .aload_n 0, 1), (7, .iload_n 1, 1), (8, .baload, 1), (9, .sipush 255, 3), (12, .iand, 1), (13, .i2c, 1), (14, .ireturn, 1)]
theorem kdS_l1_ok : ∀ q ∈ kdS_l1, decode mS_l1.2.1 q.1 = .ok q.2 := by decide +kernel
def kdS_chk : List (Nat × Instr × Nat) := [(0, .iload_n 0, 1), (1, .iload_n 1, 1), (2, .getstatic 1053, 3), (5, .invokestatic 1059, 3), (8, .pop, 1), (9, .return_, 1)]
theorem kdS_chk_ok : ∀ q ∈ kdS_chk, decode mS_chk.2.1 q.1 = .ok q.2 := by decide +kernel
def kdS_pre : List (Nat × Instr × Nat) := [(0, .iload_n 0, 1), (1, .ifCond .lt 8, 3), (4, .iload_n 0, 1), (5, .iload_n 1, 1), (6, .if_icmp .lt 10, 3), (9, .aload_n 2, 1), (10, .iload_n 0, 1), (11, .iload_n 1, 1), (12, .invokestatic 95, 3), (15, .athrow, 1), (16, .iload_n 0, 1), (17, .ireturn, 1)]
theorem kdS_pre_ok : ∀ q ∈ kdS_pre, decode mS_pre.2.1 q.1 = .ok q.2 := by decide +kernel
theorem c_S_coder {i : Nat} (hi : i < 18) : Con E mS_coder 1 0 0 [.retAddr i] Sh N G M (P1 (some (.int 0)) Sh N M) nox := by
  refine Con.ofF (by decide +kernel) (by simp [Value.category]) (Nat.le_of_ble_eq_true rfl) (fun k C0 Q hQ => ?_)
  have C : CK k E mS_coder kdS_coder 1 0 0 := ⟨C0, kdS_coder_ok⟩
  refine r_gets (v := .int 1) C rfl flS_38 C.K.2.2.2.2.2.2.1 ?_
  refine r_if_eq C 13 rfl (by decide) (fun h => absurd h (by decide)) (fun _ => ?_)
  refine r_aload_n C 0 rfl rfl rfl rfl ?_
  refine r_getK (v := .int 0) C rfl flS_15 (C.K.2.2.2.1 i hi).2.1 ?_
  refine r_goto C 14 rfl (by decide) ?_
  exact q_iret C hQ rfl rfl rfl ⟨rfl, rfl, rfl, rfl⟩
theorem c_S_lat {i : Nat} (hi : i < 18) : Con E mS_lat 1 0 0 [.retAddr i] Sh N G M (P1 (some (.int 1)) Sh N M) nox := by
  refine Con.ofF (by decide +kernel) (by simp [Value.category]) (Nat.le_of_ble_eq_true rfl) (fun k C0 Q hQ => ?_)
  have C : CK k E mS_lat kdS_lat 1 0 0 := ⟨C0, kdS_lat_ok⟩
  refine r_gets (v := .int 1) C rfl flS_38 C.K.2.2.2.2.2.2.1 ?_
  refine r_if_eq C 17 rfl (by decide) (fun h => absurd h (by decide)) (fun _ => ?_)
  refine r_aload_n C 0 rfl rfl rfl rfl ?_
  refine r_getK (v := .int 0) C rfl flS_15 (C.K.2.2.2.1 i hi).2.1 ?_
  refine r_if_ne C 17 rfl (by decide) (fun h => absurd rfl h) (fun _ => ?_)
  refine r_ic (v := 1) C rfl (by decide) ?_
  refine r_goto C 18 rfl (by decide) ?_
  exact q_iret C hQ rfl rfl rfl ⟨rfl, rfl, rfl, rfl⟩
/-- a text's length -/
theorem c_S_len {i : Nat} (hi : i < 18) : Con E mS_len 2 0 0 [.retAddr i] Sh N G M (P1 (some (.int (nI (wordB i).length))) Sh N M) nox := by
  refine Con.ofF (by decide +kernel) (by simp [Value.category]) (Nat.le_of_ble_eq_true rfl) (fun k C0 Q hQ => ?_)
  have C : CK k E mS_len kdS_len 2 0 0 := ⟨C0, kdS_len_ok⟩
  refine r_aload_n C 0 rfl rfl rfl rfl ?_
  refine r_getK (v := .retAddr (100 + i)) C rfl flS_9 (C.K.2.2.2.1 i hi).2.2.1 ?_
  refine r_alenK C hi rfl ?_
  refine r_aload_n C 0 rfl rfl rfl rfl ?_
  refine k0_r C rfl mfS_coder lkS_335 hi rfl (c_S_coder hi) ?_
  refine r_ishr C rfl ?_
  refine q_iret C hQ rfl rfl rfl ⟨?_, rfl, rfl, rfl⟩
  have h : ∀ i, i < 18 → nI (wordB i).length >>> ((0 : Int32) &&& 31) = nI (wordB i).length := by decide +kernel
  rw [h i hi]
theorem c_S_pre {v : Value} (hv : v.category = 1) {j n : Nat} (hj : j < n) (hn : n < 2 ^ 31) : Con E mS_pre 1 0 0 [.int (nI j), .int (nI n), v] Sh N G M (P1 (some (.int (nI j))) Sh N M) nox := by
  refine Con.ofF (by decide +kernel) (fun w hw => by simp only [List.mem_cons, List.not_mem_nil, or_false] at hw; rcases hw with rfl | rfl | rfl; rfl; rfl; exact hv) (Nat.le_of_ble_eq_true rfl) (fun k C0 Q hQ => ?_)
  have C : CK k E mS_pre kdS_pre 1 0 0 := ⟨C0, kdS_pre_ok⟩
  refine r_iload_n C 0 rfl rfl rfl ?_
  refine r_if_lt C 9 rfl (by decide) (fun h => absurd ((nI_leI (a := 0) (by omega) (by omega)).mpr (Nat.zero_le j)) (Int32.not_le.mpr h)) (fun _ => ?_)
  refine r_iload_n C 0 rfl rfl rfl ?_
  refine r_iload_n C 1 rfl rfl rfl ?_
  refine r_icmp_lt C 16 rfl (by decide) (fun _ => ?_) (fun h => absurd (Int32.not_lt.mp h) (fun q => by have := le_nI (by omega) (by omega) q; omega))
  refine r_iload_n C 0 rfl rfl rfl ?_
  exact q_iret C hQ rfl rfl rfl ⟨rfl, rfl, rfl, rfl⟩
theorem c_S_chk {j n : Nat} (hj : j < n) (hn : n < 2 ^ 31) : Con E mS_chk 2 0 0 [.int (nI j), .int (nI n)] Sh N G M (PR Sh N (fun v M' => v = none ∧ M' = M)) nox := by
  refine Con.ofF (by decide +kernel) (by simp [Value.category]) (Nat.le_of_ble_eq_true rfl) (fun k C0 Q hQ => ?_)
  have C : CK k E mS_chk kdS_chk 2 0 0 := ⟨C0, kdS_chk_ok⟩
  refine r_iload_n C 0 rfl rfl rfl ?_
  refine r_iload_n C 1 rfl rfl rfl ?_
  have go : ∀ v : Value, v.category = 1 → PT k E Q 0 0 Sh N G M 5 [some (.int (nI j)), some (.int (nI n))] [v, .int (nI n), .int (nI j)] := by
    intro v hv
    refine s3_r C rfl mfS_pre lkS_1059 (c_S_pre hv hj hn) ?_
    refine r_pop C rfl rfl ?_
    exact q_vret C hQ rfl rfl ⟨rfl, rfl, rfl, rfl⟩
  rcases C.K.2.2.2.2.2.2.2.2 with h | h
  · exact r_gets (v := .null) C rfl flS_1053 h (go _ rfl)
  · exact r_gets (v := .retAddr 200) C rfl flS_1053 h (go _ rfl)
theorem wordB_s : ∀ i, i < 18 → (wordB i).length < 7 ∧ ∀ j, j < (wordB i).length → (wordB i).getD j 0 < 128 := by decide +kernel
theorem ch_ok (b : Nat) (h : b < 128) : ((nI b &&& nI 255).toUInt32 % 65536).toInt32 = nI b ∧ narrow .char (.int (nI b)) = .int (nI b) := by
  have h9 : ∀ b : Fin 128, ((nI b.1 &&& nI 255).toUInt32 % 65536).toInt32 = nI b.1 ∧ narrow .char (.int (nI b.1)) = .int (nI b.1) := by decide +kernel
  exact h9 ⟨b, h⟩
theorem c_S_l1 {i j : Nat} (hi : i < 18) (hj : j < (wordB i).length) : Con E mS_l1 3 0 0 [.retAddr (100 + i), .int (nI j)] Sh N G M (P1 (some (.int (nI ((wordB i).getD j 0)))) Sh N M) nox := by
  have hw := wordB_s i hi
  have hb := ch_ok _ (hw.2 j hj)
  refine Con.ofF (by decide +kernel) (by simp [Value.category]) (Nat.le_of_ble_eq_true rfl) (fun k C0 Q hQ => ?_)
  have C : CK k E mS_l1 kdS_l1 3 0 0 := ⟨C0, kdS_l1_ok⟩
  refine r_iload_n C 1 rfl rfl rfl ?_
  refine r_aload_n C 0 rfl rfl rfl rfl ?_
  refine r_alenK C hi rfl ?_
  refine s2_x C rfl mfS_chk lkS_9 (c_S_chk hj (by omega)) (Nat.zero_le _) (Nat.zero_le _) (fun _ h => h.elim) ?_
  rintro r M1 ⟨rfl, rfl⟩
  refine r_aload_n C 0 rfl rfl rfl rfl ?_
  refine r_iload_n C 1 rfl rfl rfl ?_
  refine r_baldK C hi j hj rfl ?_
  refine r_si (v := nI 255) C rfl (by decide) ?_
  refine r_iand C rfl ?_
  refine r_i2c C rfl hb.1 ?_
  exact q_iret C hQ rfl rfl hb.2 ⟨rfl, rfl, rfl, rfl⟩
/-- a text's sign -/
theorem c_S_charAt {i j : Nat} (hi : i < 18) (hj : j < (wordB i).length) : Con E mS_charAt 4 0 0 [.retAddr i, .int (nI j)] Sh N G M (P1 (some (.int (nI ((wordB i).getD j 0)))) Sh N M) nox := by
  have hb := ch_ok _ ((wordB_s i hi).2 j hj)
  refine Con.ofF (by decide +kernel) (by simp [Value.category]) (Nat.le_of_ble_eq_true rfl) (fun k C0 Q hQ => ?_)
  have C : CK k E mS_charAt kdS_charAt 4 0 0 := ⟨C0, kdS_charAt_ok⟩
  refine r_aload_n C 0 rfl rfl rfl rfl ?_
  refine k0_r C rfl mfS_lat lkS_492 hi rfl (c_S_lat hi) ?_
  refine r_if_eq C 16 rfl (by decide) (fun h => absurd h (by decide)) (fun _ => ?_)
  refine r_aload_n C 0 rfl rfl rfl rfl ?_
  refine r_getK (v := .retAddr (100 + i)) C rfl flS_9 (C.K.2.2.2.1 i hi).2.2.1 ?_
  refine r_iload_n C 1 rfl rfl rfl ?_
  refine s2_r C rfl mfS_l1 lkS_495 (c_S_l1 hi hj) ?_
  exact q_iret C hQ rfl rfl hb.2 ⟨rfl, rfl, rfl, rfl⟩
end STM
