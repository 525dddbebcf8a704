section NEWW
theorem wn_I : Cond.arrayClass .int ∈ TB := tb1 63 (by decide +kernel) (by decide +kernel)
theorem wn_B : Cond.arrayClass .byte ∈ TB := tb1 62 (by decide +kernel) (by decide +kernel)
theorem wn_Z : Cond.arrayClass .boolean ∈ TB := tb6 127 (by decide +kernel) (by decide +kernel)
theorem wn_J : Cond.arrayClass .long ∈ TB := tb7 235 (by decide +kernel) (by decide +kernel)
theorem wn_oi : Cond.instanceMethod Lib.objectInit ∈ TB := tb1 31 (by decide +kernel) (by decide +kernel)
theorem wn_oc : Cond.code Lib.objectInit ⟨#[0xb1]⟩ 1 none ∈ TB := tb1 32 (by decide +kernel) (by decide +kernel)
/-- a kind's object may be made by the owner's entry -/
def NW (own : String) (idx ci : Nat) (q : vw_C) (ty : Nat → FieldType) : Prop := CF ci q ty ∧ Cond.classLink own idx q.1 ∈ TB ∧ Cond.instantiable q.1 q.2.2 ∈ TB ∧ Cond.initialized q.1 ∈ TB
theorem nw_X0 : NW RX11 93 0 (RX0, TX0, 3) tyX0 := ⟨cf_X0, tb2 89 (by decide +kernel) (by decide +kernel), tb2 90 (by decide +kernel) (by decide +kernel), tb1 11 (by decide +kernel) (by decide +kernel)⟩
theorem ol_X0 : Cond.methodLink RX0 3 Lib.objectInit ∈ TB := tb2 94 (by decide +kernel) (by decide +kernel)
theorem nw_X1 : NW RX11 61 1 (RX1, TX1, 4) tyX1 := ⟨cf_X1, tb1 235 (by decide +kernel) (by decide +kernel), tb1 236 (by decide +kernel) (by decide +kernel), tb1 7 (by decide +kernel) (by decide +kernel)⟩
theorem ol_X1 : Cond.methodLink RX1 3 Lib.objectInit ∈ TB := tb2 0 (by decide +kernel) (by decide +kernel)
theorem nw_X2 : NW RX11 107 2 (RX2, TX2, 2) tyX2 := ⟨cf_X2, tb2 137 (by decide +kernel) (by decide +kernel), tb2 138 (by decide +kernel) (by decide +kernel), tb1 13 (by decide +kernel) (by decide +kernel)⟩
theorem ol_X2 : Cond.methodLink RX2 3 Lib.objectInit ∈ TB := tb2 142 (by decide +kernel) (by decide +kernel)
theorem nw_X3 : NW RX11 100 3 (RX3, TX3, 6) tyX3 := ⟨cf_X3, tb2 108 (by decide +kernel) (by decide +kernel), tb2 109 (by decide +kernel) (by decide +kernel), tb1 12 (by decide +kernel) (by decide +kernel)⟩
theorem ol_X3 : Cond.methodLink RX3 1 Lib.objectInit ∈ TB := tb2 113 (by decide +kernel) (by decide +kernel)
theorem nw_X4 : NW RX11 86 4 (RX4, TX4, 6) tyX4 := ⟨cf_X4, tb2 62 (by decide +kernel) (by decide +kernel), tb2 63 (by decide +kernel) (by decide +kernel), tb1 10 (by decide +kernel) (by decide +kernel)⟩
theorem ol_X4 : Cond.methodLink RX4 3 Lib.objectInit ∈ TB := tb2 67 (by decide +kernel) (by decide +kernel)
theorem nw_X5 : NW RX11 70 5 (RX5, TX5, 5) tyX5 := ⟨cf_X5, tb2 14 (by decide +kernel) (by decide +kernel), tb2 15 (by decide +kernel) (by decide +kernel), tb1 8 (by decide +kernel) (by decide +kernel)⟩
theorem ol_X5 : Cond.methodLink RX5 3 Lib.objectInit ∈ TB := tb2 19 (by decide +kernel) (by decide +kernel)
theorem nw_X6 : NW RX11 24 6 (RX6, TX6, 7) tyX6 := ⟨cf_X6, tb1 33 (by decide +kernel) (by decide +kernel), tb1 34 (by decide +kernel) (by decide +kernel), tb1 2 (by decide +kernel) (by decide +kernel)⟩
theorem ol_X6 : Cond.methodLink RX6 3 Lib.objectInit ∈ TB := tb1 38 (by decide +kernel) (by decide +kernel)
theorem nw_X7 : NW RX11 79 7 (RX7, TX7, 5) tyX7 := ⟨cf_X7, tb2 38 (by decide +kernel) (by decide +kernel), tb2 39 (by decide +kernel) (by decide +kernel), tb1 9 (by decide +kernel) (by decide +kernel)⟩
theorem ol_X7 : Cond.methodLink RX7 3 Lib.objectInit ∈ TB := tb2 43 (by decide +kernel) (by decide +kernel)
theorem nw_X8 : NW RX11 120 8 (RX8, TX8, 17) tyX8 := ⟨cf_X8, tb1 129 (by decide +kernel) (by decide +kernel), tb1 131 (by decide +kernel) (by decide +kernel), tb1 5 (by decide +kernel) (by decide +kernel)⟩
theorem ol_X8 : Cond.methodLink RX8 3 Lib.objectInit ∈ TB := tb1 135 (by decide +kernel) (by decide +kernel)
theorem nw_X9 : NW RX11 52 9 (RX9, TX9, 3) tyX9 := ⟨cf_X9, tb1 219 (by decide +kernel) (by decide +kernel), tb1 220 (by decide +kernel) (by decide +kernel), tb1 6 (by decide +kernel) (by decide +kernel)⟩
theorem ol_X9 : Cond.methodLink RX9 3 Lib.objectInit ∈ TB := tb1 224 (by decide +kernel) (by decide +kernel)
theorem nw_X10 : NW RX11 31 10 (RX10, TX10, 9) tyX10 := ⟨cf_X10, tb1 64 (by decide +kernel) (by decide +kernel), tb1 65 (by decide +kernel) (by decide +kernel), tb1 3 (by decide +kernel) (by decide +kernel)⟩
theorem ol_X10 : Cond.methodLink RX10 3 Lib.objectInit ∈ TB := tb1 69 (by decide +kernel) (by decide +kernel)
theorem nw_X11 : NW RL 8 11 (RX11, TX11, 19) tyX11 := ⟨cf_X11, tb1 25 (by decide +kernel) (by decide +kernel), tb1 26 (by decide +kernel) (by decide +kernel), tb1 1 (by decide +kernel) (by decide +kernel)⟩
theorem ol_X11 : Cond.methodLink RX11 3 Lib.objectInit ∈ TB := tb1 30 (by decide +kernel) (by decide +kernel)
theorem nw_X12 : NW RL 89 12 (RX12, TX12, 42) tyX12 := ⟨cf_X12, tb5 234 (by decide +kernel) (by decide +kernel), tb5 235 (by decide +kernel) (by decide +kernel), tb1 14 (by decide +kernel) (by decide +kernel)⟩
theorem ol_X12 : Cond.methodLink RX12 1 Lib.objectInit ∈ TB := tb5 239 (by decide +kernel) (by decide +kernel)
end NEWW
section NEWR
variable {k : MC} {E : VE} {md : MD} {kd : List (Nat × Instr × Nat)} {d mc ms : Nat} {Q : State → Prop} {cm sm : Nat} {Sh : Nat → SE} {N : Nat} {G : Bool} {M : MM} {pc : Nat} {L : List (Option Value)} {st : List Value}
/-- a cell is made -/
theorem HR.push {e : SE} {m : Nat → Int32} {H H' : Heap} (hH : HR E Sh N true M H) (hz : H'.size = H.size + 1) (ho : ∀ q : Nat, q < H.size → H'[q]? = H[q]?) (ha : va_at E.1 vwCl (E.2.1 + N, repE E e m) H') : HR E (shUp Sh N e) (N + 1) true (aset M N m) H' := by
  have h1 := hH.2.1 rfl
  refine ⟨by omega, fun _ => by omega, fun i hi => ?_⟩
  by_cases q : i = N
  · subst q
    rw [show shUp Sh i e i = e by simp [shUp], aset_own]
    exact ha
  · rw [show shUp Sh N e i = Sh i by simp [shUp, q], aset_ne _ _ q]
    exact (hH.2.2 i (by omega)).kept (ho _ (by show E.2.1 + i < H.size; omega))
theorem va_S.push {A : Nat → Prop} {H0 H H1 : Heap} {locs : List Loc} (hS : va_S A H0 H locs) (z1 : H1.size = H.size + 1) (o1 : ∀ q : Nat, q < H.size → H1[q]? = H[q]?) : va_S A H0 H1 locs := ⟨Nat.le_trans hS.1 (by omega), fun x h1 h2 => (o1 x (Nat.lt_of_lt_of_le h1 hS.1)).trans (hS.2.1 x h1 h2), hS.2.2⟩
theorem r_newG (C : CK k E md kd d mc ms) {ty : ArrayType} {t j : Nat} {n : Int32} (hd : cod kd pc = some (.newarray ty, 2)) (hw : Cond.arrayClass (newarray.typeOf ty) ∈ TB) (hcl : ∀ cA : ClassId, (kS k).vm.findClass ("[" ++ (newarray.typeOf ty).toString) = some cA → cA = E.2.2.2 t) (hrep : va_at E.1 vwCl (E.2.1 + N, repE E (arE t j) (fun _ => 0)) = fun H => H[E.2.1 + N]? = some (arrV (E.2.2.2 t) j (fun _ => defaultValue (newarray.typeOf ty))))
    (hb : j * componentBytes (newarray.typeOf ty) ≤ 536870912) (hj : n = nI j) (hjn : j < 2 ^ 31) (h1 : 1 ≤ cm) (h2 : j ≤ sm)
    (kk : PT k E Q (cm - 1) (sm - j) (shUp Sh N (arE t j)) (N + 1) true (aset M N (fun _ => 0)) (pc + 2) L (.ref N :: st)) : PT k E Q cm sm Sh N true M pc L (.int n :: st) := by
  intro ls H locs cells slots hL hH hS hc hs
  subst hj
  refine va_newaK C.x C.b (C.ts _ hw) rfl (C.dec hd) rfl (fun z => absurd ((nI_leI (a := 0) (by decide) hjn).mpr (Nat.zero_le _)) (Int32.not_le.mpr z)) (nI_clamp hjn) hb (by omega) (by omega) (hH.2.1 rfl) fun H1 cA e1 z1 o1 hAr hNm => ?_
  have hz : H.size = E.2.1 + N := hH.2.1 rfl
  have hcA := hcl cA hNm
  subst hcA
  exact kk ls H1 locs (cells + 1) (slots + j) hL (hH.push (by rw [z1, hz]) (fun q hq => o1 q (by omega)) (by rw [hrep]; exact e1)) (hS.push (by rw [z1, hz]) (fun q hq => o1 q (by omega))) (by omega) (by omega)
theorem r_newI (C : CK k E md kd d mc ms) {j : Nat} {n : Int32} (hd : cod kd pc = some (.newarray .int, 2)) (hj : n = nI j) (hjn : j < 2 ^ 20) (h1 : 1 ≤ cm) (h2 : j ≤ sm) (kk : PT k E Q (cm - 1) (sm - j) (shUp Sh N (arE 0 j)) (N + 1) true (aset M N (fun _ => 0)) (pc + 2) L (.ref N :: st)) : PT k E Q cm sm Sh N true M pc L (.int n :: st) :=
  r_newG C hd wn_I (fun cA h => Option.some.inj (h.symm.trans (C.va.2 0 _ rfl).2)) rfl (by show j * 4 ≤ 536870912; omega) hj (by omega) h1 h2 kk
theorem r_newB (C : CK k E md kd d mc ms) {j : Nat} {n : Int32} (hd : cod kd pc = some (.newarray .byte, 2)) (hj : n = nI j) (hjn : j < 2 ^ 20) (h1 : 1 ≤ cm) (h2 : j ≤ sm) (kk : PT k E Q (cm - 1) (sm - j) (shUp Sh N (arE 1 j)) (N + 1) true (aset M N (fun _ => 0)) (pc + 2) L (.ref N :: st)) : PT k E Q cm sm Sh N true M pc L (.int n :: st) :=
  r_newG C hd wn_B (fun cA h => Option.some.inj (h.symm.trans (C.va.2 1 _ rfl).2)) rfl (by show j * 1 ≤ 536870912; omega) hj (by omega) h1 h2 kk
theorem r_newZ (C : CK k E md kd d mc ms) {j : Nat} {n : Int32} (hd : cod kd pc = some (.newarray .boolean, 2)) (hj : n = nI j) (hjn : j < 2 ^ 20) (h1 : 1 ≤ cm) (h2 : j ≤ sm) (kk : PT k E Q (cm - 1) (sm - j) (shUp Sh N (arE 2 j)) (N + 1) true (aset M N (fun _ => 0)) (pc + 2) L (.ref N :: st)) : PT k E Q cm sm Sh N true M pc L (.int n :: st) :=
  r_newG C hd wn_Z (fun cA h => Option.some.inj (h.symm.trans (C.va.2 2 _ rfl).2)) rfl (by show j * 1 ≤ 536870912; omega) hj (by omega) h1 h2 kk
theorem r_newJ (C : CK k E md kd d mc ms) {j : Nat} {n : Int32} (hd : cod kd pc = some (.newarray .long, 2)) (hj : n = nI j) (hjn : j < 2 ^ 20) (h1 : 1 ≤ cm) (h2 : j ≤ sm) (kk : PT k E Q (cm - 1) (sm - j) (shUp Sh N (arE 3 j)) (N + 1) true (aset M N (fun _ => 0)) (pc + 2) L (.ref N :: st)) : PT k E Q cm sm Sh N true M pc L (.int n :: st) :=
  r_newG C hd wn_J (fun cA h => Option.some.inj (h.symm.trans (C.va.2 3 _ rfl).2)) rfl (by show j * 8 ≤ 536870912; omega) hj (by omega) h1 h2 kk
/-- a new object's fields: numbers 0, references null -/
def dfl (t : FieldType) : Option Value := match t with
  | .object _ => some .null
  | .array _ => some .null
  | _ => none
def okT (t : FieldType) : Bool := match t with
  | .object _ => true
  | .array _ => true
  | .int => true
  | .boolean => true
  | _ => false
def fl0 (ty : Nat → FieldType) (n : Nat) : List (Option Value) := (List.range n).map (fun j => dfl (ty j))
theorem dfl_ok {t : FieldType} (h : okT t = true) (E : VE) (j : Nat) : defaultValue t = fv E (fun _ => 0) j (dfl t) := by
  cases t <;> first | rfl | cases h
theorem r_newo (C : CK k E md kd d mc ms) {idx ci : Nat} {q : vw_C} {ty : Nat → FieldType} {fl : List (Option Value)} (hd : cod kd pc = some (.new idx, 3)) (hN : NW md.1.cls idx ci q ty) (hT : ((List.range q.2.2).all fun j => okT (ty j)) = true) (hfl : fl0 ty q.2.2 = fl) (h1 : 1 ≤ cm) (h2 : q.2.2 ≤ sm)
    (kk : PT k E Q (cm - 1) (sm - q.2.2) (shUp Sh N (.inr (ci, fl))) (N + 1) true (aset M N (fun _ => 0)) (pc + 3) L (.ref N :: st)) : PT k E Q cm sm Sh N true M pc L st := by
  intro ls H locs cells slots hL hH hS hc hs
  obtain ⟨⟨f1, f2, f3, -⟩, n1, n2, n3⟩ := hN
  have hKn := C.va.1 ci _ f1
  refine W.newcK C.x C.b C.own (C.ts _ n1) (C.ts _ n2) (C.ts _ n3) rfl (C.dec hd) (by omega) (by omega) hKn.2.1 (hH.2.1 rfl) fun H1 kC hkC e1 z1 o1 => ?_
  have hz : H.size = E.2.1 + N := hH.2.1 rfl
  refine kk ls H1 locs (cells + 1) (slots + q.2.2) hL (hH.push (by rw [z1, hz]) (fun q hq => o1 q (by omega)) ?_) (hS.push (by rw [z1, hz]) (fun q hq => o1 q (by omega))) (by omega) (by omega)
  refine ⟨q, f1, (u_born ty C.ts f2 hKn hkC e1 f3).to (fun j hj => ?_)⟩
  subst hfl
  show defaultValue (ty j) = (repF E (fun _ => 0) 0 (fl0 ty q.2.2)).getD j .null
  have h3 : (fl0 ty q.2.2)[j]? = some (dfl (ty j)) := by simp [fl0, hj]
  rw [List.getD_eq_getElem?_getD, repF_get, h3]
  exact dfl_ok (List.all_eq_true.mp hT j (List.mem_range.mpr hj)) E (0 + j)
/-- 'Object.<init>' -/
theorem r_oinit (C : CK k E md kd d mc ms) {idx o : Nat} (hd : cod kd pc = some (.invokespecial idx, 3)) (hlk : Cond.methodLink md.1.cls idx Lib.objectInit ∈ TB) (hLn : L.length = md.2.2.1) (h1 : 1 ≤ d) (kk : PT k E Q cm sm Sh N G M (pc + 3) L []) : PT k E Q cm sm Sh N G M pc L [.ref o] := by
  intro ls H locs cells slots hL hH hS hc hs
  refine W.objInit (a := E.2.1 + o) (rest := []) C.x C.b C.own (C.ts _ hlk) (C.ts _ wn_oi) (C.ts _ wn_oc) rfl ?_ rfl (C.dec hd) (by rw [C.fr]; exact h1) ?_ (kk ls H locs cells slots hL hH hS hc hs)
  · show ls.size = (kC k).maxLocals
    rw [hL.1, hLn, C.ml]
  · have := C.lc
    show 2 * 0 + 0 + 12 ≤ (kR k).locals
    omega
/-- an array of walls is made -/
theorem r_anew (C : CK k E md kd d mc ms) {j : Nat} {n : Int32} {idx : Nat} (hd : cod kd pc = some (.anewarray idx, 3)) (hcl : Cond.classLink md.1.cls idx "MudWalls$Wall" ∈ TB) (hj : n = nI j) (hjn : j < 2 ^ 20) (h1 : 1 ≤ cm) (h2 : j ≤ sm) (kk : PT k E Q (cm - 1) (sm - j) (shUp Sh N (arW j (fun _ => none))) (N + 1) true (aset M N (fun _ => 0)) (pc + 3) L (.ref N :: st)) : PT k E Q cm sm Sh N true M pc L (.int n :: st) := by
  intro ls H locs cells slots hL hH hS hc hs
  subst hj
  have hjc : (nI j).toNatClampNeg = j := nI_clamp (by omega)
  refine W.anew C.x C.b C.own (C.ts _ hcl) (va_AO.use C.K.2.2.2.2.2.2.2.1.2.1) rfl (C.dec hd) rfl (fun z => absurd ((nI_leI (a := 0) (by decide) (by omega)).mpr (Nat.zero_le _)) (Int32.not_le.mpr z)) (by rw [hjc]; omega) (by omega) (by rw [hjc]; omega) fun cA kA comp f1 f2 f3 f4 => ?_
  rw [hjc]
  obtain ⟨kB, comp2, g1, g2, g3, g4⟩ := (C.va.2 4 _ rfl).2
  have hcA : cA = E.2.2.2 4 := Option.some.inj (f1.symm.trans g4)
  subst hcA
  have hz : H.size = E.2.1 + N := hH.2.1 rfl
  generalize hH1 : H.push ({ cls := E.2.2.2 4, slots := Array.replicate j .null, vm := .none } : Cell) = H1
  have z1 : H1.size = H.size + 1 := by rw [← hH1, Array.size_push]
  have e1 : H1[H.size]? = some (arrV (E.2.2.2 4) j (fun _ => .null)) := by rw [← hH1, Array.getElem?_push_size, ← arrV_new]
  have o1 : ∀ q : Nat, q < H.size → H1[q]? = H[q]? := fun q hq => by rw [← hH1, Array.getElem?_push, if_neg (Nat.ne_of_lt hq)]
  have hk := kk ls H1 locs (cells + 1) (slots + j) hL (hH.push z1 o1 (by rw [← hz]; exact e1)) (hS.push z1 o1) (by omega) (by omega)
  have e2 : (Value.ref N :: st).map (cv E) = Value.ref H.size :: st.map (cv E) := by rw [hz]; rfl
  rw [e2] at hk
  exact hk
/-- a wall is put into an array of walls -/
theorem r_aast (C : CK k E md kd d mc ms) {o n w : Nat} {f : Nat → Option Nat} {fl : List (Option Value)} {i : Int32} (hd : cod kd pc = some (.aastore, 1)) (ho : At Sh N o (arW n f)) (hw : At Sh N w (.inr (8, fl))) (j : Nat) (hj : i = nI j) (hjn : j < n) (hn : n < 2 ^ 31) (kk : PT k E Q cm sm (shUp Sh o (arW n (fun q => if q = j then some w else f q))) N G M (pc + 1) L st) : PT k E Q cm sm Sh N G M pc L (.ref w :: .int i :: .ref o :: st) := by
  intro ls H locs cells slots hL hH hS hc hs
  subst hj
  have hjc : (nI j).toNatClampNeg = j := nI_clamp (by omega)
  have ha := hH.at ho.1
  rw [ho.2] at ha
  have hv := hH.at hw.1
  rw [hw.2] at hv
  obtain ⟨r', hr', cellV, g1, g2, g3, -⟩ := hv
  have hcls := (C.va.1 8 _ rfl).2
  obtain ⟨kA, comp, k1, k2, k3, -⟩ := (C.va.2 4 _ rfl).2
  have hcomp : comp = E.1.1 8 := Option.some.inj (k3.symm.trans hcls.1)
  subst hcomp
  obtain ⟨kC, hkC, -⟩ := hcls.2
  refine W.aast C.x C.b ha (fun q h => by cases h) (fun h => by cases h) k1 k2 rfl hkC ⟨fun z => absurd ((nI_leI (a := 0) (by decide) (by omega)).mpr (Nat.zero_le _)) (Int32.not_le.mpr z), by show _ < (arrV _ _ _).slots.size; rw [arrV_size, hjc]; exact hjn⟩ g1 (fun q h => by rw [g3] at h; cases h) (by rw [g2]; exact hkC) (by rw [g2]; exact va_assign hcls) rfl rfl (C.dec hd) fun H1 e z oq => ?_
  rw [hjc] at e ⊢
  refine kk ls H1 _ cells slots hL (hH.put o ?_ (fun q h => by simp [shUp, h]) (fun _ _ => rfl) z oq) (hS.put z oq (Nat.le_add_right _ _)) hc hs
  rw [show shUp Sh o (arW n (fun q => if q = j then some w else f q)) o = arW n (fun q => if q = j then some w else f q) by simp [shUp]]
  show H1[E.2.1 + o]? = some (vp_cell _ _)
  rw [e]
  show some ((vp_cell _ _).setSlot _ _) = _
  rw [vp_cell_q, vp_cell_q, arrV_store]
  congr 2
  funext q
  by_cases hq : q = j
  · subst hq
    simp [updV, va_rf]
  · simp [updV, hq]
/-- the world, by names -/
theorem r_eqS {k : MC} (kk : ∀ (S1 : Nat → SE) (M1 : MM), Sh = S1 → M = M1 → PT k E Q cm sm S1 N G M1 pc L st) : PT k E Q cm sm Sh N G M pc L st := kk Sh M rfl rfl
end NEWR
