section ROWS
/-- the instruction at a place -/
def cod (kd : List (Nat × Instr × Nat)) (pc : Nat) : Option (Instr × Nat) := kd.lookup pc
theorem cod_ok {cc : ByteArray} : ∀ {kd : List (Nat × Instr × Nat)}, (∀ q ∈ kd, decode cc q.1 = .ok q.2) → ∀ {pc : Nat} {x : Instr × Nat}, cod kd pc = some x → decode cc pc = .ok x
  | [], _, pc, x, h => by simp [cod] at h
  | (a, b) :: t, hk, pc, x, h => by
    unfold cod at h
    by_cases e : pc = a
    · subst e
      simp [List.lookup] at h
      rw [← h]
      exact hk (pc, b) List.mem_cons_self
    · have e' : (pc == a) = false := by simp [e]
      rw [List.lookup, e'] at h
      exact cod_ok (fun q hq => hk q (List.mem_cons_of_mem _ hq)) (by unfold cod; exact h)
/-- a method is walked, its instructions known -/
def CK (k : MC) (E : VE) (md : MD) (kd : List (Nat × Instr × Nat)) (d mc ms : Nat) : Prop := CX k E md d mc ms ∧ ∀ q ∈ kd, decode md.2.1 q.1 = .ok q.2
section CKS
variable {k : MC} {E : VE} {md : MD} {kd : List (Nat × Instr × Nat)} {d mc ms : Nat}
theorem CK.x (C : CK k E md kd d mc ms) : k.1.tables.exec = Jvm.exec := C.1.1
theorem CK.b (C : CK k E md kd d mc ms) : (kC k).code = md.2.1 := C.1.2.1
theorem CK.ml (C : CK k E md kd d mc ms) : (kC k).maxLocals = md.2.2.1 := C.1.2.2.1
theorem CK.own (C : CK k E md kd d mc ms) : (kS k).vm.findClass md.1.cls = some (kM k).cls := C.1.2.2.2.1
theorem CK.ts (C : CK k E md kd d mc ms) : ∀ w ∈ TB, w.before (kA k) (kS k) = true := C.1.2.2.2.2.1
theorem CK.K (C : CK k E md kd d mc ms) : KX E (kS k) := C.1.2.2.2.2.2.1
theorem CK.lk (C : CK k E md kd d mc ms) : (kMe k).locks = false := C.1.2.2.2.2.2.2.1
theorem CK.rt (C : CK k E md kd d mc ms) : (kMe k).sig.returnType = md.2.2.2 := C.1.2.2.2.2.2.2.2.1
theorem CK.nm (C : CK k E md kd d mc ms) : (kMe k).name = md.1.name := C.1.2.2.2.2.2.2.2.2.1
theorem CK.tr (C : CK k E md kd d mc ms) : k.2.1.stackTraces = false := C.1.2.2.2.2.2.2.2.2.2.1
theorem CK.ex (C : CK k E md kd d mc ms) : md.1.cls = "MudWallsLaw" ∨ ∀ x ∈ (kC k).exceptionTable.toList, False := C.1.2.2.2.2.2.2.2.2.2.2.1
theorem CK.fr (C : CK k E md kd d mc ms) : (kR k).frames = d := C.1.2.2.2.2.2.2.2.2.2.2.2.1
theorem CK.ce (C : CK k E md kd d mc ms) : (kR k).cells = mc := C.1.2.2.2.2.2.2.2.2.2.2.2.2.1
theorem CK.sl (C : CK k E md kd d mc ms) : (kR k).slots = ms := C.1.2.2.2.2.2.2.2.2.2.2.2.2.2.1
theorem CK.lc (C : CK k E md kd d mc ms) : 40 * d ≤ (kR k).locals := C.1.2.2.2.2.2.2.2.2.2.2.2.2.2.2
theorem CK.dec (C : CK k E md kd d mc ms) {pc : Nat} {x : Instr × Nat} (h : cod kd pc = some x) : decode md.2.1 pc = .ok x := cod_ok C.2 h
theorem CK.va (C : CK k E md kd d mc ms) : va_K E.1 vwCl (tysOf E) (kS k) := C.K.2.1
end CKS
/-- the known locals as the kit lists them -/
def lvOf (E : VE) (L : List (Option Value)) : List (Nat × Value) := L.zipIdx.filterMap (fun q => q.1.map (fun v => (q.2, cv E v)))
theorem lvOf_mem {E : VE} {L : List (Option Value)} {j : Nat} {w : Value} : (j, w) ∈ lvOf E L ↔ ∃ v, L[j]? = some (some v) ∧ w = cv E v := by
  unfold lvOf
  rw [List.mem_filterMap]
  constructor
  · rintro ⟨⟨o, i⟩, h1, h2⟩
    rw [List.mem_zipIdx_iff_getElem?] at h1
    cases o with
    | none => simp at h2
    | some v =>
      simp at h2
      obtain ⟨rfl, rfl⟩ := h2
      exact ⟨v, h1, rfl⟩
  · rintro ⟨v, h1, rfl⟩
    exact ⟨(some v, j), List.mem_zipIdx_iff_getElem?.mpr h1, rfl⟩
theorem LR.has {E : VE} {L : List (Option Value)} {ls : Array Slot} (h : LR E L ls) : lv_has ls L.length (lvOf E L) := by
  refine ⟨h.1, h.2.1, fun q hq => ?_⟩
  obtain ⟨v, h1, h2⟩ := lvOf_mem.mp (show (q.1, q.2) ∈ lvOf E L from hq)
  rw [h2]
  exact (h.2.2 q.1 v h1).2
theorem LR.set {E : VE} {L : List (Option Value)} {ls ls' : Array Slot} {i : Nat} {v : Value} (h : LR E L ls) (hv : v.category = 1) (h' : lv_has ls' L.length ((i, cv E v) :: (lvOf E L).filter (fun q => !(q.1 == i) && !(q.1 + 1 == i && q.2.category == 2)))) : LR E (L.set i (some v)) ls' := by
  refine ⟨by rw [h'.1]; simp, h'.2.1, fun j w hw => ?_⟩
  rw [List.getElem?_set] at hw
  by_cases e : i = j
  · subst e
    by_cases hl : i < L.length
    · simp [hl] at hw
      subst hw
      exact ⟨hv, h'.2.2 (i, cv E v) List.mem_cons_self⟩
    · simp [hl] at hw
  · rw [if_neg e] at hw
    obtain ⟨c1, -⟩ := h.2.2 j w hw
    refine ⟨c1, h'.2.2 (j, cv E w) (List.mem_cons_of_mem _ (List.mem_filter.mpr ⟨lvOf_mem.mpr ⟨w, hw, rfl⟩, ?_⟩))⟩
    simp [Ne.symm e, cv_cat, c1]
variable {k : MC} {E : VE} {md : MD} {kd : List (Nat × Instr × Nat)} {d mc ms : Nat} {Q : State → Prop} {cm sm : Nat} {Sh : Nat → SE} {N : Nat} {G : Bool} {M : MM} {pc : Nat} {L : List (Option Value)} {st : List Value}
theorem r_ic (C : CK k E md kd d mc ms) {n : Int} {v : Int32} (hd : cod kd pc = some (.iconst n, 1)) (hv : Int32.ofInt n = v) (kk : PT k E Q cm sm Sh N G M (pc + 1) L (.int v :: st)) : PT k E Q cm sm Sh N G M pc L st := by
  intro ls H locs cells slots hL hH hS hc hs
  exact lv_iconst C.x C.b (C.dec hd) hv (kk ls H locs cells slots hL hH hS hc hs)
theorem r_bi (C : CK k E md kd d mc ms) {n : Int} {v : Int32} (hd : cod kd pc = some (.bipush n, 2)) (hv : (Int8.ofInt n).toInt32 = v) (kk : PT k E Q cm sm Sh N G M (pc + 2) L (.int v :: st)) : PT k E Q cm sm Sh N G M pc L st := by
  intro ls H locs cells slots hL hH hS hc hs
  exact lv_bipush C.x C.b (C.dec hd) hv (kk ls H locs cells slots hL hH hS hc hs)
theorem r_si (C : CK k E md kd d mc ms) {n : Int} {v : Int32} (hd : cod kd pc = some (.sipush n, 3)) (hv : (Int16.ofInt n).toInt32 = v) (kk : PT k E Q cm sm Sh N G M (pc + 3) L (.int v :: st)) : PT k E Q cm sm Sh N G M pc L st := by
  intro ls H locs cells slots hL hH hS hc hs
  exact lv_sipush C.x C.b (C.dec hd) hv (kk ls H locs cells slots hL hH hS hc hs)
theorem r_iload_n (C : CK k E md kd d mc ms) {f : Fin 4} (i : Nat) {x : Int32} (hd : cod kd pc = some (.iload_n f, 1)) (hi : (f : Nat) = i) (hl : L[i]? = some (some (.int x))) (kk : PT k E Q cm sm Sh N G M (pc + 1) L (.int x :: st)) : PT k E Q cm sm Sh N G M pc L st := by
  intro ls H locs cells slots hL hH hS hc hs
  exact lv_iload_n C.x C.b (C.dec hd) hi (hL.2.2 _ _ hl).2 (kk ls H locs cells slots hL hH hS hc hs)
theorem r_iload (C : CK k E md kd d mc ms) {i : Nat} {x : Int32} (hd : cod kd pc = some (.iload i, 2)) (hl : L[i]? = some (some (.int x))) (kk : PT k E Q cm sm Sh N G M (pc + 2) L (.int x :: st)) : PT k E Q cm sm Sh N G M pc L st := by
  intro ls H locs cells slots hL hH hS hc hs
  exact lv_iload C.x C.b (C.dec hd) (hL.2.2 _ _ hl).2 (kk ls H locs cells slots hL hH hS hc hs)
def isR (v : Value) : Bool := match v with
  | .ref _ => true
  | .retAddr _ => true
  | _ => false
theorem isR_ref (E : VE) {v : Value} (h : isR v = true) : ∃ a, cv E v = .ref a ∧ v.category = 1 := by cases v <;> simp [isR] at h <;> exact ⟨_, rfl, rfl⟩
theorem r_aload_n (C : CK k E md kd d mc ms) {f : Fin 4} (i : Nat) {v : Value} (hd : cod kd pc = some (.aload_n f, 1)) (hi : (f : Nat) = i) (hl : L[i]? = some (some v)) (hv : isR v = true) (kk : PT k E Q cm sm Sh N G M (pc + 1) L (v :: st)) : PT k E Q cm sm Sh N G M pc L st := by
  intro ls H locs cells slots hL hH hS hc hs
  obtain ⟨a, ha, -⟩ := isR_ref E hv
  have h2 := kk ls H locs cells slots hL hH hS hc hs
  rw [List.map_cons, ha] at h2
  exact lv_aload_n C.x C.b (C.dec hd) hi (by rw [← ha]; exact (hL.2.2 _ _ hl).2) h2
theorem r_aload (C : CK k E md kd d mc ms) {i : Nat} {v : Value} (hd : cod kd pc = some (.aload i, 2)) (hl : L[i]? = some (some v)) (hv : isR v = true) (kk : PT k E Q cm sm Sh N G M (pc + 2) L (v :: st)) : PT k E Q cm sm Sh N G M pc L st := by
  intro ls H locs cells slots hL hH hS hc hs
  obtain ⟨a, ha, -⟩ := isR_ref E hv
  have h2 := kk ls H locs cells slots hL hH hS hc hs
  rw [List.map_cons, ha] at h2
  exact lv_aload C.x C.b (C.dec hd) (by rw [← ha]; exact (hL.2.2 _ _ hl).2) h2
theorem r_istore_n (C : CK k E md kd d mc ms) {f : Fin 4} (i : Nat) {x : Int32} (hd : cod kd pc = some (.istore_n f, 1)) (hi : (f : Nat) = i) (hn : i < L.length) (kk : PT k E Q cm sm Sh N G M (pc + 1) (L.set i (some (.int x))) st) : PT k E Q cm sm Sh N G M pc L (.int x :: st) := by
  intro ls H locs cells slots hL hH hS hc hs
  exact lv_istore_n C.x C.b (C.dec hd) hi hL.has hn rfl (fun ls' h' => kk ls' H locs cells slots (hL.set (v := .int x) rfl h') hH hS hc hs)
theorem r_istore (C : CK k E md kd d mc ms) {i : Nat} {x : Int32} (hd : cod kd pc = some (.istore i, 2)) (hn : i < L.length) (kk : PT k E Q cm sm Sh N G M (pc + 2) (L.set i (some (.int x))) st) : PT k E Q cm sm Sh N G M pc L (.int x :: st) := by
  intro ls H locs cells slots hL hH hS hc hs
  exact lv_istore C.x C.b (C.dec hd) hL.has hn rfl (fun ls' h' => kk ls' H locs cells slots (hL.set (v := .int x) rfl h') hH hS hc hs)
theorem r_astore_n (C : CK k E md kd d mc ms) {f : Fin 4} (i : Nat) {v : Value} (hd : cod kd pc = some (.astore_n f, 1)) (hi : (f : Nat) = i) (hn : i < L.length) (hv : isR v = true) (kk : PT k E Q cm sm Sh N G M (pc + 1) (L.set i (some v)) st) : PT k E Q cm sm Sh N G M pc L (v :: st) := by
  intro ls H locs cells slots hL hH hS hc hs
  obtain ⟨a, ha, hc1⟩ := isR_ref E hv
  rw [List.map_cons, ha]
  exact lv_astore_n C.x C.b (C.dec hd) hi hL.has hn rfl (fun ls' h' => kk ls' H locs cells slots (hL.set (v := v) hc1 (by rw [ha]; exact h')) hH hS hc hs)
theorem r_astore (C : CK k E md kd d mc ms) {i : Nat} {v : Value} (hd : cod kd pc = some (.astore i, 2)) (hn : i < L.length) (hv : isR v = true) (kk : PT k E Q cm sm Sh N G M (pc + 2) (L.set i (some v)) st) : PT k E Q cm sm Sh N G M pc L (v :: st) := by
  intro ls H locs cells slots hL hH hS hc hs
  obtain ⟨a, ha, hc1⟩ := isR_ref E hv
  rw [List.map_cons, ha]
  exact lv_astore C.x C.b (C.dec hd) hL.has hn rfl (fun ls' h' => kk ls' H locs cells slots (hL.set (v := v) hc1 (by rw [ha]; exact h')) hH hS hc hs)
theorem r_iinc (C : CK k E md kd d mc ms) {i : Nat} {n : Int} {x c : Int32} (hd : cod kd pc = some (.iinc i n, 3)) (hl : L[i]? = some (some (.int x))) (hv : Int32.ofInt n = c) (kk : PT k E Q cm sm Sh N G M (pc + 3) (L.set i (some (.int (x + c)))) st) : PT k E Q cm sm Sh N G M pc L st := by
  intro ls H locs cells slots hL hH hS hc hs
  have hn : i < L.length := (List.getElem?_eq_some_iff.mp hl).1
  obtain ⟨j, hj⟩ := List.getElem?_of_mem (lvOf_mem.mpr ⟨_, hl, rfl⟩ : (i, cv E (.int x)) ∈ lvOf E L)
  exact lv_iinc (v := x + c) C.x C.b (C.dec hd) hL.has hj (by rw [hv]) hn rfl (fun ls' h' => kk ls' H locs cells slots (hL.set (v := .int (x + c)) rfl h') hH hS hc hs)
theorem r_iadd (C : CK k E md kd d mc ms) {x y : Int32} (hd : cod kd pc = some (.iadd, 1)) (kk : PT k E Q cm sm Sh N G M (pc + 1) L (.int (x + y) :: st)) : PT k E Q cm sm Sh N G M pc L (.int y :: .int x :: st) := by
  intro ls H locs cells slots hL hH hS hc hs
  exact lv_iadd C.x C.b (C.dec hd) (kk ls H locs cells slots hL hH hS hc hs)
theorem r_isub (C : CK k E md kd d mc ms) {x y : Int32} (hd : cod kd pc = some (.isub, 1)) (kk : PT k E Q cm sm Sh N G M (pc + 1) L (.int (x - y) :: st)) : PT k E Q cm sm Sh N G M pc L (.int y :: .int x :: st) := by
  intro ls H locs cells slots hL hH hS hc hs
  exact lv_isub C.x C.b (C.dec hd) (kk ls H locs cells slots hL hH hS hc hs)
theorem r_imul (C : CK k E md kd d mc ms) {x y : Int32} (hd : cod kd pc = some (.imul, 1)) (kk : PT k E Q cm sm Sh N G M (pc + 1) L (.int (x * y) :: st)) : PT k E Q cm sm Sh N G M pc L (.int y :: .int x :: st) := by
  intro ls H locs cells slots hL hH hS hc hs
  exact lv_imul C.x C.b (C.dec hd) (kk ls H locs cells slots hL hH hS hc hs)
theorem r_iand (C : CK k E md kd d mc ms) {x y : Int32} (hd : cod kd pc = some (.iand, 1)) (kk : PT k E Q cm sm Sh N G M (pc + 1) L (.int (x &&& y) :: st)) : PT k E Q cm sm Sh N G M pc L (.int y :: .int x :: st) := by
  intro ls H locs cells slots hL hH hS hc hs
  exact lv_iand C.x C.b (C.dec hd) (kk ls H locs cells slots hL hH hS hc hs)
theorem r_ior (C : CK k E md kd d mc ms) {x y : Int32} (hd : cod kd pc = some (.ior, 1)) (kk : PT k E Q cm sm Sh N G M (pc + 1) L (.int (x ||| y) :: st)) : PT k E Q cm sm Sh N G M pc L (.int y :: .int x :: st) := by
  intro ls H locs cells slots hL hH hS hc hs
  exact lv_ior C.x C.b (C.dec hd) (kk ls H locs cells slots hL hH hS hc hs)
theorem r_ixor (C : CK k E md kd d mc ms) {x y : Int32} (hd : cod kd pc = some (.ixor, 1)) (kk : PT k E Q cm sm Sh N G M (pc + 1) L (.int (x ^^^ y) :: st)) : PT k E Q cm sm Sh N G M pc L (.int y :: .int x :: st) := by
  intro ls H locs cells slots hL hH hS hc hs
  exact lv_ixor C.x C.b (C.dec hd) (kk ls H locs cells slots hL hH hS hc hs)
theorem r_ishl (C : CK k E md kd d mc ms) {x y : Int32} (hd : cod kd pc = some (.ishl, 1)) (kk : PT k E Q cm sm Sh N G M (pc + 1) L (.int (x <<< (y &&& 31)) :: st)) : PT k E Q cm sm Sh N G M pc L (.int y :: .int x :: st) := by
  intro ls H locs cells slots hL hH hS hc hs
  exact lv_ishl C.x C.b (C.dec hd) (kk ls H locs cells slots hL hH hS hc hs)
theorem r_ishr (C : CK k E md kd d mc ms) {x y : Int32} (hd : cod kd pc = some (.ishr, 1)) (kk : PT k E Q cm sm Sh N G M (pc + 1) L (.int (x >>> (y &&& 31)) :: st)) : PT k E Q cm sm Sh N G M pc L (.int y :: .int x :: st) := by
  intro ls H locs cells slots hL hH hS hc hs
  exact lv_ishr C.x C.b (C.dec hd) (kk ls H locs cells slots hL hH hS hc hs)
theorem r_idiv (C : CK k E md kd d mc ms) {x y : Int32} (hd : cod kd pc = some (.idiv, 1)) (hn : ¬ y = 0) (kk : PT k E Q cm sm Sh N G M (pc + 1) L (.int (x / y) :: st)) : PT k E Q cm sm Sh N G M pc L (.int y :: .int x :: st) := by
  intro ls H locs cells slots hL hH hS hc hs
  exact lv_idiv C.x C.b (C.dec hd) hn (kk ls H locs cells slots hL hH hS hc hs)
theorem r_irem (C : CK k E md kd d mc ms) {x y : Int32} (hd : cod kd pc = some (.irem, 1)) (hn : ¬ y = 0) (kk : PT k E Q cm sm Sh N G M (pc + 1) L (.int (x - x / y * y) :: st)) : PT k E Q cm sm Sh N G M pc L (.int y :: .int x :: st) := by
  intro ls H locs cells slots hL hH hS hc hs
  exact lv_irem C.x C.b (C.dec hd) hn (kk ls H locs cells slots hL hH hS hc hs)
theorem r_ineg (C : CK k E md kd d mc ms) {x : Int32} (hd : cod kd pc = some (.ineg, 1)) (kk : PT k E Q cm sm Sh N G M (pc + 1) L (.int (-x) :: st)) : PT k E Q cm sm Sh N G M pc L (.int x :: st) := by
  intro ls H locs cells slots hL hH hS hc hs
  exact lv_ineg C.x C.b (C.dec hd) (kk ls H locs cells slots hL hH hS hc hs)
theorem r_i2l (C : CK k E md kd d mc ms) {x : Int32} (hd : cod kd pc = some (.i2l, 1)) (kk : PT k E Q cm sm Sh N G M (pc + 1) L (.long x.toInt64 :: st)) : PT k E Q cm sm Sh N G M pc L (.int x :: st) := by
  intro ls H locs cells slots hL hH hS hc hs
  exact lv_i2l C.x C.b (C.dec hd) rfl (kk ls H locs cells slots hL hH hS hc hs)
theorem r_i2b (C : CK k E md kd d mc ms) {x : Int32} (hd : cod kd pc = some (.i2b, 1)) (kk : PT k E Q cm sm Sh N G M (pc + 1) L (.int x.toInt8.toInt32 :: st)) : PT k E Q cm sm Sh N G M pc L (.int x :: st) := by
  intro ls H locs cells slots hL hH hS hc hs
  exact lv_i2b C.x C.b (C.dec hd) rfl (kk ls H locs cells slots hL hH hS hc hs)
theorem r_dup (C : CK k E md kd d mc ms) {v : Value} (hd : cod kd pc = some (.dup, 1)) (hv : v.category = 1) (kk : PT k E Q cm sm Sh N G M (pc + 1) L (v :: v :: st)) : PT k E Q cm sm Sh N G M pc L (v :: st) := by
  intro ls H locs cells slots hL hH hS hc hs
  exact lv_dup C.x C.b (C.dec hd) (by rw [cv_cat]; exact hv) (kk ls H locs cells slots hL hH hS hc hs)
theorem r_pop (C : CK k E md kd d mc ms) {v : Value} (hd : cod kd pc = some (.pop, 1)) (hv : v.category = 1) (kk : PT k E Q cm sm Sh N G M (pc + 1) L st) : PT k E Q cm sm Sh N G M pc L (v :: st) := by
  intro ls H locs cells slots hL hH hS hc hs
  exact lv_pop C.x C.b (C.dec hd) (by rw [cv_cat]; exact hv) (kk ls H locs cells slots hL hH hS hc hs)
theorem r_dup2 (C : CK k E md kd d mc ms) {v u : Value} (hd : cod kd pc = some (.dup2, 1)) (hv : v.category = 1) (hu : u.category = 1) (kk : PT k E Q cm sm Sh N G M (pc + 1) L (v :: u :: v :: u :: st)) : PT k E Q cm sm Sh N G M pc L (v :: u :: st) := by
  intro ls H locs cells slots hL hH hS hc hs
  exact lv_dup2_11 C.x C.b (C.dec hd) (by rw [cv_cat]; exact hv) (by rw [cv_cat]; exact hu) (kk ls H locs cells slots hL hH hS hc hs)
theorem r_goto (C : CK k E md kd d mc ms) {off : Int} (tgt : Nat) (hd : cod kd pc = some (.goto off, 3)) (ht : (pc : Int) + off = (tgt : Int)) (kk : PT k E Q cm sm Sh N G M tgt L st) : PT k E Q cm sm Sh N G M pc L st := by
  intro ls H locs cells slots hL hH hS hc hs
  exact lv_goto C.x C.b (C.dec hd) ht (kk ls H locs cells slots hL hH hS hc hs)
/-- the number on top is another one's equal -/
theorem r_top {x : Int32} (y : Int32) (h : x = y) (kk : PT k E Q cm sm Sh N G M pc L (.int y :: st)) : PT k E Q cm sm Sh N G M pc L (.int x :: st) := by rw [h]; exact kk
theorem r_eqM {M' : MM} (h : M = M') (kk : PT k E Q cm sm Sh N G M' pc L st) : PT k E Q cm sm Sh N G M pc L st := by rw [h]; exact kk
theorem r_eqL {L' : List (Option Value)} (h : L = L') (kk : PT k E Q cm sm Sh N G M pc L' st) : PT k E Q cm sm Sh N G M pc L st := by rw [h]; exact kk
theorem r_if_eq (C : CK k E md kd d mc ms) {x : Int32} {off : Int} (tgt : Nat) (hd : cod kd pc = some (.ifCond .eq off, 3)) (ht : (pc : Int) + off = (tgt : Int)) (kt : x = 0 → PT k E Q cm sm Sh N G M tgt L st) (kf : ¬ x = 0 → PT k E Q cm sm Sh N G M (pc + 3) L st) : PT k E Q cm sm Sh N G M pc L (.int x :: st) := by
  intro ls H locs cells slots hL hH hS hc hs
  exact lv_if_eq C.x C.b (C.dec hd) ht (fun h => kt h ls H locs cells slots hL hH hS hc hs) (fun h => kf h ls H locs cells slots hL hH hS hc hs)
theorem r_icmp_eq (C : CK k E md kd d mc ms) {x y : Int32} {off : Int} (tgt : Nat) (hd : cod kd pc = some (.if_icmp .eq off, 3)) (ht : (pc : Int) + off = (tgt : Int)) (kt : x = y → PT k E Q cm sm Sh N G M tgt L st) (kf : ¬ x = y → PT k E Q cm sm Sh N G M (pc + 3) L st) : PT k E Q cm sm Sh N G M pc L (.int y :: .int x :: st) := by
  intro ls H locs cells slots hL hH hS hc hs
  exact lv_icmp_eq C.x C.b (C.dec hd) ht (fun h => kt h ls H locs cells slots hL hH hS hc hs) (fun h => kf h ls H locs cells slots hL hH hS hc hs)
theorem r_if_ne (C : CK k E md kd d mc ms) {x : Int32} {off : Int} (tgt : Nat) (hd : cod kd pc = some (.ifCond .ne off, 3)) (ht : (pc : Int) + off = (tgt : Int)) (kt : ¬ x = 0 → PT k E Q cm sm Sh N G M tgt L st) (kf : x = 0 → PT k E Q cm sm Sh N G M (pc + 3) L st) : PT k E Q cm sm Sh N G M pc L (.int x :: st) := by
  intro ls H locs cells slots hL hH hS hc hs
  exact lv_if_ne C.x C.b (C.dec hd) ht (fun h => kt h ls H locs cells slots hL hH hS hc hs) (fun h => kf h ls H locs cells slots hL hH hS hc hs)
theorem r_icmp_ne (C : CK k E md kd d mc ms) {x y : Int32} {off : Int} (tgt : Nat) (hd : cod kd pc = some (.if_icmp .ne off, 3)) (ht : (pc : Int) + off = (tgt : Int)) (kt : ¬ x = y → PT k E Q cm sm Sh N G M tgt L st) (kf : x = y → PT k E Q cm sm Sh N G M (pc + 3) L st) : PT k E Q cm sm Sh N G M pc L (.int y :: .int x :: st) := by
  intro ls H locs cells slots hL hH hS hc hs
  exact lv_icmp_ne C.x C.b (C.dec hd) ht (fun h => kt h ls H locs cells slots hL hH hS hc hs) (fun h => kf h ls H locs cells slots hL hH hS hc hs)
theorem r_if_lt (C : CK k E md kd d mc ms) {x : Int32} {off : Int} (tgt : Nat) (hd : cod kd pc = some (.ifCond .lt off, 3)) (ht : (pc : Int) + off = (tgt : Int)) (kt : x < 0 → PT k E Q cm sm Sh N G M tgt L st) (kf : ¬ x < 0 → PT k E Q cm sm Sh N G M (pc + 3) L st) : PT k E Q cm sm Sh N G M pc L (.int x :: st) := by
  intro ls H locs cells slots hL hH hS hc hs
  exact lv_if_lt C.x C.b (C.dec hd) ht (fun h => kt h ls H locs cells slots hL hH hS hc hs) (fun h => kf h ls H locs cells slots hL hH hS hc hs)
theorem r_icmp_lt (C : CK k E md kd d mc ms) {x y : Int32} {off : Int} (tgt : Nat) (hd : cod kd pc = some (.if_icmp .lt off, 3)) (ht : (pc : Int) + off = (tgt : Int)) (kt : x < y → PT k E Q cm sm Sh N G M tgt L st) (kf : ¬ x < y → PT k E Q cm sm Sh N G M (pc + 3) L st) : PT k E Q cm sm Sh N G M pc L (.int y :: .int x :: st) := by
  intro ls H locs cells slots hL hH hS hc hs
  exact lv_icmp_lt C.x C.b (C.dec hd) ht (fun h => kt h ls H locs cells slots hL hH hS hc hs) (fun h => kf h ls H locs cells slots hL hH hS hc hs)
theorem r_if_ge (C : CK k E md kd d mc ms) {x : Int32} {off : Int} (tgt : Nat) (hd : cod kd pc = some (.ifCond .ge off, 3)) (ht : (pc : Int) + off = (tgt : Int)) (kt : 0 ≤ x → PT k E Q cm sm Sh N G M tgt L st) (kf : ¬ 0 ≤ x → PT k E Q cm sm Sh N G M (pc + 3) L st) : PT k E Q cm sm Sh N G M pc L (.int x :: st) := by
  intro ls H locs cells slots hL hH hS hc hs
  exact lv_if_ge C.x C.b (C.dec hd) ht (fun h => kt h ls H locs cells slots hL hH hS hc hs) (fun h => kf h ls H locs cells slots hL hH hS hc hs)
theorem r_icmp_ge (C : CK k E md kd d mc ms) {x y : Int32} {off : Int} (tgt : Nat) (hd : cod kd pc = some (.if_icmp .ge off, 3)) (ht : (pc : Int) + off = (tgt : Int)) (kt : y ≤ x → PT k E Q cm sm Sh N G M tgt L st) (kf : ¬ y ≤ x → PT k E Q cm sm Sh N G M (pc + 3) L st) : PT k E Q cm sm Sh N G M pc L (.int y :: .int x :: st) := by
  intro ls H locs cells slots hL hH hS hc hs
  exact lv_icmp_ge C.x C.b (C.dec hd) ht (fun h => kt h ls H locs cells slots hL hH hS hc hs) (fun h => kf h ls H locs cells slots hL hH hS hc hs)
theorem r_if_gt (C : CK k E md kd d mc ms) {x : Int32} {off : Int} (tgt : Nat) (hd : cod kd pc = some (.ifCond .gt off, 3)) (ht : (pc : Int) + off = (tgt : Int)) (kt : 0 < x → PT k E Q cm sm Sh N G M tgt L st) (kf : ¬ 0 < x → PT k E Q cm sm Sh N G M (pc + 3) L st) : PT k E Q cm sm Sh N G M pc L (.int x :: st) := by
  intro ls H locs cells slots hL hH hS hc hs
  exact lv_if_gt C.x C.b (C.dec hd) ht (fun h => kt h ls H locs cells slots hL hH hS hc hs) (fun h => kf h ls H locs cells slots hL hH hS hc hs)
theorem r_icmp_gt (C : CK k E md kd d mc ms) {x y : Int32} {off : Int} (tgt : Nat) (hd : cod kd pc = some (.if_icmp .gt off, 3)) (ht : (pc : Int) + off = (tgt : Int)) (kt : y < x → PT k E Q cm sm Sh N G M tgt L st) (kf : ¬ y < x → PT k E Q cm sm Sh N G M (pc + 3) L st) : PT k E Q cm sm Sh N G M pc L (.int y :: .int x :: st) := by
  intro ls H locs cells slots hL hH hS hc hs
  exact lv_icmp_gt C.x C.b (C.dec hd) ht (fun h => kt h ls H locs cells slots hL hH hS hc hs) (fun h => kf h ls H locs cells slots hL hH hS hc hs)
theorem r_if_le (C : CK k E md kd d mc ms) {x : Int32} {off : Int} (tgt : Nat) (hd : cod kd pc = some (.ifCond .le off, 3)) (ht : (pc : Int) + off = (tgt : Int)) (kt : x ≤ 0 → PT k E Q cm sm Sh N G M tgt L st) (kf : ¬ x ≤ 0 → PT k E Q cm sm Sh N G M (pc + 3) L st) : PT k E Q cm sm Sh N G M pc L (.int x :: st) := by
  intro ls H locs cells slots hL hH hS hc hs
  exact lv_if_le C.x C.b (C.dec hd) ht (fun h => kt h ls H locs cells slots hL hH hS hc hs) (fun h => kf h ls H locs cells slots hL hH hS hc hs)
theorem r_icmp_le (C : CK k E md kd d mc ms) {x y : Int32} {off : Int} (tgt : Nat) (hd : cod kd pc = some (.if_icmp .le off, 3)) (ht : (pc : Int) + off = (tgt : Int)) (kt : x ≤ y → PT k E Q cm sm Sh N G M tgt L st) (kf : ¬ x ≤ y → PT k E Q cm sm Sh N G M (pc + 3) L st) : PT k E Q cm sm Sh N G M pc L (.int y :: .int x :: st) := by
  intro ls H locs cells slots hL hH hS hc hs
  exact lv_icmp_le C.x C.b (C.dec hd) ht (fun h => kt h ls H locs cells slots hL hH hS hc hs) (fun h => kf h ls H locs cells slots hL hH hS hc hs)
end ROWS
