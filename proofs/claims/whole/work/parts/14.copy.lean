section COPY
/-- the numbers with another array a -/
def aset (M : MM) (a : Nat) (F : Nat → Int32) : MM := fun x y => if x = a then F y else M x y
theorem aset_own (M : MM) (a : Nat) (F : Nat → Int32) : aset M a F a = F := by funext y; simp [aset]
theorem aset_ne (M : MM) {a b : Nat} (F : Nat → Int32) (h : b ≠ a) : aset M a F b = M b := by funext y; simp [aset, h]
theorem aset_self (M : MM) (a : Nat) : aset M a (M a) = M := by funext x y; by_cases h : x = a <;> simp [aset, h]
theorem aset_aset (M : MM) (a : Nat) (F F' : Nat → Int32) : aset (aset M a F) a F' = aset M a F' := by funext x y; by_cases h : x = a <;> simp [aset, h]
variable {k : MC} {E : VE} {md : MD} {kd : List (Nat × Instr × Nat)} {d mc ms : Nat} {Q : State → Prop} {cm sm : Nat} {Sh : Nat → SE} {N : Nat} {G : Bool} {M : MM} {pc : Nat} {L : List (Option Value)}
/-- System.arraycopy of ints -/
theorem r_acopy (C : CK k E md kd d mc ms) {idx a0 a1 n0 n1 : Nat} (sp dp n : Nat) {x y z : Int32} {rest : List Value} (hd : cod kd pc = some (.invokestatic idx, 3)) (hlk : Cond.methodLink md.1.cls idx arraycopyName ∈ TB) (h0 : At Sh N a0 (arE 0 n0)) (h1 : At Sh N a1 (arE 0 n1)) (hx : x = nI sp) (hy : y = nI dp) (hz : z = nI n) (b0 : sp + n ≤ n0) (b1 : dp + n ≤ n1) (hn0 : n0 < 2 ^ 31) (hn1 : n1 < 2 ^ 31)
    (kk : PT k E Q cm sm Sh N G (aset M a1 (va_cpy (M a0) (M a1) sp dp n)) (pc + 3) L rest) (hd1 : 1 ≤ d := by omega) (hLn : L.length = md.2.2.1 := by rfl) (hrest : (rest.map fun v => v.category).sum ≤ 8 := by exact Nat.le_of_ble_eq_true rfl) : PT k E Q cm sm Sh N G M pc L (.int z :: .int y :: .ref a1 :: .int x :: .ref a0 :: rest) := by
  subst hx; subst hy; subst hz
  intro ls H locs cells slots hL hH hS hc hs
  have h8 := cat_rest (E := E) rest hrest
  have c0 := ar_at h0 (by decide) hH
  have c1 := ar_at h1 (by decide) hH
  have es : (nI sp).toNatClampNeg = sp := nI_clamp (by omega)
  have ed : (nI dp).toNatClampNeg = dp := nI_clamp (by omega)
  have en : (nI n).toNatClampNeg = n := nI_clamp (by omega)
  intro T hT X
  obtain ⟨-, k0, hk0, cm0, hkk0⟩ := ar_ty0 C n0 (fun j => .int (M a0 j))
  obtain ⟨-, k1, hk1, cm1, hkk1⟩ := ar_ty0 C n1 (fun j => .int (M a1 j))
  obtain ⟨vm', X', step⟩ := X.arraycopy C.x C.own (C.ts _ hlk) (C.ts _ ac_nat) (C.ts _ ac_stat) (C.ts _ ac_ini) (src := E.2.1 + a0) (dst := E.2.1 + a1) (cs := vp_cell (E.2.2.2 0) (n0, .inl (M a0))) (cd := vp_cell (E.2.2.2 0) (n1, .inl (M a1))) (srcPos := nI sp) (destPos := nI dp) (n := nI n) (by rw [hT]; exact c0) (by rw [hT]; exact c1)
    (fun _ h => by cases h) (fun _ h => by cases h) (fun h => by cases h) (fun h => by cases h) hk0 hk1 hkk0 hkk1 (by decide) (nI_pos (by omega)) (nI_pos (by omega)) (nI_pos (by omega))
    (by rw [nI_toInt (by omega), nI_toInt (by omega)]; show ¬ _ > ((arrV _ n0 (fun j => .int (M a0 j))).slots.size : Int); rw [arrV_size]; omega)
    (by rw [nI_toInt (by omega), nI_toInt (by omega)]; show ¬ _ > ((arrV _ n1 (fun j => .int (M a1 j))).slots.size : Int); rw [arrV_size]; omega)
    (fun vm₁ _ i hi => by
      rw [en] at hi
      have e : (vp_cell (E.2.2.2 0) (n0, .inl (M a0))).slots.getD ((nI sp).toNatClampNeg + i) .null = .int (M a0 (sp + i)) := by
        rw [es]
        show (arrV _ n0 (fun j => .int (M a0 j))).slots.getD _ _ = _
        rw [Array.getD_eq_getD_getElem?, arrV_read _ _ (by omega)]
        rfl
      refine ⟨?_, ?_⟩
      · rw [e]; rfl
      · rw [e]; exact trivial)
    (g := F0 (kM k) pc ls (.int (nI n) :: .int (nI dp) :: .ref (E.2.1 + a1) :: .int (nI sp) :: .ref (E.2.1 + a0) :: rest.map (cv E))) rfl (by rw [C.ml]; show ls.size = _; rw [hL.1, hLn]) (rest := rest.map (cv E)) rfl (by rw [C.b]; exact C.dec hd) (by rw [C.fr]; exact hd1) (by
      have hnw : nativeFrameWords "java/lang/System" "arraycopy" 5 ≤ 20 := by decide
      refine Nat.le_trans ?_ C.lc
      show 2 * 0 + _ + _ ≤ 40 * d
      omega)
  have e1 : copied (vp_cell (E.2.2.2 0) (n0, .inl (M a0))) (vp_cell (E.2.2.2 0) (n1, .inl (M a1))) (nI sp) (nI dp) (nI n) = vp_cell (E.2.2.2 0) (n1, .inl (va_cpy (M a0) (M a1) (nI sp).toNatClampNeg (nI dp).toNatClampNeg (nI n).toNatClampNeg)) := va_copied (fun z => .int z) _ _ (M a0) (M a1) (by rw [es, en]; exact b0)
  rw [es, ed, en] at e1
  rw [e1] at X' step
  have hl : E.2.1 + a1 < H.size := (Array.getElem?_eq_some_iff.mp c1).1
  have hheap : ((T.setVm vm').setCell (E.2.1 + a1) (vp_cell (E.2.2.2 0) (n1, .inl (va_cpy (M a0) (M a1) sp dp n)))).heap = H.setIfInBounds (E.2.1 + a1) (vp_cell (E.2.2.2 0) (n1, .inl (va_cpy (M a0) (M a1) sp dp n))) := by rw [← hT]; rfl
  have oq : ∀ q : Nat, q ≠ E.2.1 + a1 → (H.setIfInBounds (E.2.1 + a1) (vp_cell (E.2.2.2 0) (n1, .inl (va_cpy (M a0) (M a1) sp dp n))))[q]? = H[q]? := fun q hq => by simp [Array.getElem?_setIfInBounds, Ne.symm hq]
  have hH' : HR E Sh N G (aset M a1 (va_cpy (M a0) (M a1) sp dp n)) (H.setIfInBounds (E.2.1 + a1) (vp_cell (E.2.2.2 0) (n1, .inl (va_cpy (M a0) (M a1) sp dp n)))) := by
    refine hH.put a1 ?_ (fun _ _ => rfl) (fun i hi => aset_ne M _ hi) (by simp) oq
    rw [h1.2, aset_own]
    show (H.setIfInBounds (E.2.1 + a1) _)[E.2.1 + a1]? = some _
    simp [Array.getElem?_setIfInBounds, hl]
  obtain ⟨t, g1, g2⟩ := kk ls _ _ cells slots hL hH' ⟨by simp; exact hS.1, fun q g1 g2 => by
      rw [oq q (fun e => g2 (by rw [e]; exact Nat.le_add_right _ _))]
      exact hS.2.1 q g1 g2, fun q hq => by
      rcases List.mem_append.mp hq with h | h
      · exact hS.2.2 q h
      · obtain ⟨z, -, hz⟩ := List.mem_map.mp h
        rw [← hz]
        exact Nat.le_add_right _ _⟩ hc hs _ hheap X'
  exact ⟨t, step t g1, g2⟩
/-- a member of which the machine has no entry of its own -/
theorem vx_ofWF {l : Launch} {y : MethodName} {ws ws' : List Cond} {rm : Room} {Pc : Array Value → State → Prop} {Qc : Array Value → State → Outcome → State → Prop} {XC : String → State → State → Prop} {mc ms : Nat} {free : Addr → Prop} {cc : ByteArray} {maxL : Nat} {ret : Option FieldType}
    (hy : plainFor y = true) (hw : ws = Cond.code y cc maxL ret :: ws')
    (body : ∀ p e s m args below meth c s₁, BodyLoose p l y (headSpec ws rm) cc maxL ret e s m args below meth c s₁ → c.maxLocals = maxL → (∀ x ∈ c.exceptionTable.toList, False) → Pc args s →
      W p l e (headSpec ws rm).room s m args below meth c s.heap [] 0 0 (vx_MQ below Qc XC args s mc ms free) (entryFrame m args maxL)) : vx_Met l y ws rm Pc Qc XC mc ms free := by
  refine MetFree.of_bodySF (code := cc) (maxLocals := maxL) (ret := ret) hy ?_ ?_
  · intro args s m h hn
    obtain ⟨meth, c, h1, h2, h3, h4, h5, h6, -, -⟩ := Cond.code_spec hn (atoms_spec (ws := ws) h _ (by rw [hw]; exact List.mem_cons_self))
    exact ⟨meth, c, h1, h2, h3, h4, h5, h6⟩
  · intro p e s m args below meth c s₁ B hml hP _
    have hh0 : s₁.heap = s.heap := by rw [B.state]; rfl
    have ht : ∀ x ∈ c.exceptionTable.toList, False := by
      obtain ⟨meth9, c9, h1, h2, -, -, -, -, h7, -⟩ := Cond.code_spec B.named (atoms_spec (ws := ws) B.pre _ (by rw [hw]; exact List.mem_cons_self))
      cases Option.some.inj (h1.symm.trans B.method)
      cases Option.some.inj (h2.symm.trans (Stand.of_body B).code)
      intro x hx
      rw [Array.isEmpty_iff.mp h7] at hx
      cases hx
    obtain ⟨t, a1, o, b1, b2, b3⟩ := body p e s m args below meth c s₁ B hml ht hP s₁ hh0 (Stand.of_body B)
    exact ⟨t, o, a1, b1, b2, b3⟩
theorem Con.ofF {av : List Value} {Post : Option Value → (Nat → SE) → Nat → MM → Prop} {PX : String → Prop}
    (hy : plainFor md.1 = true) (h1 : ∀ v ∈ av, v.category = 1) (hn : av.length ≤ md.2.2.1)
    (body : ∀ k : MC, CX k E md d mc ms → ∀ Q : State → Prop, Q = QM k E mc ms Sh N G M Post PX → PT k E Q mc ms Sh N G M 0 (av.map some ++ List.replicate (md.2.2.1 - av.length) none) []) : Con E md d mc ms av Sh N G M Post PX := by
  intro l hl
  refine vx_ofWF (cc := md.2.1) (maxL := md.2.2.1) (ret := md.2.2.2) hy rfl ?_
  intro p e s m args below meth c s₁ B hml hex hv
  obtain ⟨rfl, hH, hK⟩ := hv
  have hts : ∀ w ∈ TB, w.before (av.map (cv E)).toArray s = true := fun w hw => atoms_spec (ws := Cond.code md.1 md.2.1 md.2.2.1 md.2.2.2 :: TB) B.pre w (List.mem_cons_of_mem _ hw)
  have hC : CX (p, l, e, { frames := d, cells := mc, slots := ms, locals := 40 * d }, s, m, (av.map (cv E)).toArray, below, meth, c) E md d mc ms :=
    ⟨B.exec, B.bytes, hml, findClass_of_methodNamed B.named, hts, hK, B.notSynchronized, B.returns, (name_of_methodNamed B.named B.method).1, hl, Or.inr hex, rfl, rfl, rfl, Nat.le_refl _⟩
  have hb := body _ hC _ rfl
  rw [lg_entry_eq]
  exact hb _ s.heap [] 0 0 (LR.entry E av md.2.2.1 h1 hn) hH va_S.rf (by show 0 + mc ≤ mc; omega) (by show 0 + ms ≤ ms; omega)
def kdJ9_floorMod : List (Nat × Instr × Nat) := [(0, .iload_n 0, 1), (1, .iload_n 1, 1), (2, .irem, 1), (3, .istore_n 2, 1), (4, .iload_n 0, 1), (5, .iload_n 1, 1), (6, .ixor, 1), (7, .ifCond .ge 11, 3), (10, .iload_n 2, 1), (11, .ifCond .eq 7, 3), (14, .iload_n 2, 1), (15, .iload_n 1, 1), (16, .iadd, 1), (17, .ireturn, 1), (18, .iload_n 2, 1), (19, .ireturn, 1)]
theorem kdJ9_floorMod_ok : ∀ q ∈ kdJ9_floorMod, decode cJ9_floorMod_7cf53 q.1 = .ok q.2 := by decide +kernel
theorem nx_xor (a b : Nat) : nI a ^^^ nI b = nI (a ^^^ b) := by
  apply Int32.toBitVec_inj.1
  show BitVec.ofNat 32 a ^^^ BitVec.ofNat 32 b = BitVec.ofNat 32 (a ^^^ b)
  apply BitVec.eq_of_getLsbD_eq
  intro i hi
  simp [hi]
theorem c_floorMod (a b : Nat) {x y : Int32} (hx : x = nI a) (hy : y = nI b) (ha : a < 2 ^ 31) (hb : b < 2 ^ 31) (hb0 : 0 < b) : Con E mJ9_floorMod 1 0 0 [.int x, .int y] Sh N G M (P1 (some (.int (nI (a % b)))) Sh N M) nox := by
  subst hx; subst hy
  refine Con.ofF (by decide +kernel) (by simp [Value.category]) (Nat.le_of_ble_eq_true rfl) (fun k C0 Q hQ => ?_)
  have C : CK k E mJ9_floorMod kdJ9_floorMod 1 0 0 := ⟨C0, kdJ9_floorMod_ok⟩
  refine r_iload_n C 0 rfl rfl rfl ?_
  refine r_iload_n C 1 rfl rfl rfl ?_
  refine r_irem C rfl (fun z => absurd ((nI_eq (b := 0) hb (by decide)).mp z) (by omega)) ?_
  refine r_top (nI (a % b)) (pk_rem ha hb0 hb) ?_
  refine r_istore_n C 2 rfl rfl (by exact Nat.le_of_ble_eq_true rfl) ?_
  refine r_iload_n C 0 rfl rfl rfl ?_
  refine r_iload_n C 1 rfl rfl rfl ?_
  refine r_ixor C rfl ?_
  refine r_if_ge C 18 rfl (by decide) (fun _ => ?_) (fun h => ?_)
  · refine r_iload_n C 2 rfl rfl rfl ?_
    exact q_iret C hQ rfl rfl rfl ⟨rfl, rfl, rfl, rfl⟩
  · refine absurd ?_ h
    rw [nx_xor]
    exact nI_pos' (Nat.xor_lt_two_pow ha hb)
end COPY
