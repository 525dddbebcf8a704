section WRAP
variable {k : MC} {E : VE} {md : MD} {kd : List (Nat × Instr × Nat)} {d mc ms : Nat} {Q : State → Prop} {cm sm : Nat} {Sh : Nat → SE} {N : Nat} {G : Bool} {M : MM} {pc : Nat} {L : List (Option Value)} {st : List Value}
theorem LR.drop {ls ls' : Array Slot} {i x : Nat} (h : LR E L ls) (h' : lv_has ls' L.length ((i, Value.ref x) :: (lvOf E L).filter (fun q => !(q.1 == i) && !(q.1 + 1 == i && q.2.category == 2)))) : LR E (L.set i none) ls' := by
  refine ⟨by rw [h'.1]; simp, h'.2.1, fun j w hw => ?_⟩
  rw [List.getElem?_set] at hw
  by_cases e : i = j
  · subst e
    by_cases hl : i < L.length
    · simp [hl] at hw
    · simp [hl] at hw
  · rw [if_neg e] at hw
    obtain ⟨c1, -⟩ := h.2.2 j w hw
    refine ⟨c1, h'.2.2 (j, cv E w) (List.mem_cons_of_mem _ (List.mem_filter.mpr ⟨lvOf_mem.mpr ⟨w, hw, rfl⟩, ?_⟩))⟩
    simp [Ne.symm e, cv_cat, c1]
/-- at a handler: the thing alone lies on the stack -/
def HD (k : MC) (E : VE) (Q : State → Prop) (cm sm : Nat) (Sh : Nat → SE) (N : Nat) (M : MM) (pc : Nat) (L : List (Option Value)) : Prop :=
  ∀ (ls : Array Slot) (H : Heap) (locs : List Loc) (cells slots q : Nat), LR E L ls → HR E Sh N false M H → va_S (AE E) (kS k).heap H locs → cells + cm ≤ (kR k).cells → slots + sm ≤ (kR k).slots →
    W k.1 k.2.1 k.2.2.1 (kR k) (kS k) (kM k) (kA k) (kB k) (kMe k) (kC k) H locs cells slots Q (F0 (kM k) pc ls [.ref q])
theorem HD.n (C : CK k E md kd d mc ms) {f : Fin 4} (i : Nat) (hd : cod kd pc = some (.astore_n f, 1)) (hi : (f : Nat) = i) (hn : i < L.length) (kk : PT k E Q cm sm Sh N false M (pc + 1) (L.set i none) []) : HD k E Q cm sm Sh N M pc L :=
  fun ls H locs cells slots q hL hH hS hc hs => lv_astore_n C.x C.b (C.dec hd) hi hL.has hn rfl (fun ls' h' => kk ls' H locs cells slots (hL.drop h') hH hS hc hs)
theorem HD.w (C : CK k E md kd d mc ms) {i : Nat} (hd : cod kd pc = some (.astore i, 2)) (hn : i < L.length) (kk : PT k E Q cm sm Sh N false M (pc + 2) (L.set i none) []) : HD k E Q cm sm Sh N M pc L :=
  fun ls H locs cells slots q hL hH hS hc hs => lv_astore C.x C.b (C.dec hd) hL.has hn rfl (fun ls' h' => kk ls' H locs cells slots (hL.drop h') hH hS hc hs)
theorem TH.caught {X : String} {hpc : Nat} (hsel : ∀ (e : Env) (f : JFrame), e.platform.magicAccessors = ({} : Platform).magicAccessors → f.pc = pc → f.method = kM k → ∀ cls, (kS k).vm.findClass X = some cls → ctSel e (kS k) f cls hpc (kC k).exceptionTable.toList) (hh : HD k E Q cm sm Sh N M hpc L) : TH k E Q cm sm Sh N M pc L X := by
  intro ls H locs cells slots rest q ce hL hH hS hc hs h1 h2 h3
  intro T hT Xs
  have hpl : k.2.2.1.platform.magicAccessors = ({} : Platform).magicAccessors := by rw [Xs.admits.platform]
  have sel := hsel k.2.2.1 (F0 (kM k) pc ls rest) hpl rfl rfl ce.cls h3
  obtain ⟨k9, h9, -⟩ := Vm.findClass_spec h3
  obtain ⟨vm', hW', hq⟩ := ct_go (f := F0 (kM k) pc ls rest) (a := q) (cell := ce) (fun z hz => by rw [h2] at hz; cases hz) ⟨k9, h9⟩ (kC k).exceptionTable.toList ((T.setTop (F0 (kM k) pc ls rest)).pushFrame (.throwing q)) Xs.warmed (by show T.heap[q]? = some ce; rw [hT]; exact h1) sel
  obtain ⟨t, a1, b1⟩ := hh ls H locs cells slots q hL hH hS hc hs (T.setVm vm') hT (Xs.noted hW')
  exact ⟨t, ct_steps (f := F0 (kM k) pc ls rest) Xs.here (fun Q X d acts => by rw [Jvm.W.findHandler_eq Xs.method' Xs.code]; exact hq Q X d acts) a1, b1⟩
/-- a row of the table, by its words -/
theorem sel_hit (C : CK k E md kd d mc ms) {e : Env} {f : JFrame} (hpl : e.platform.magicAccessors = ({} : Platform).magicAccessors) (hm : f.method = kM k) {X : String} {x : ExceptionTableEntry} {t : List ExceptionTableEntry} {cls : ClassId} (hcl : (kS k).vm.findClass X = some cls) (hx : covers x f.pc = true) (h0 : x.catchType ≠ 0) (hl : Cond.classLink md.1.cls x.catchType X ∈ TB) (hc : va_Nw (.castable X X) (kS k)) : ctSel e (kS k) f cls x.handlerPc (x :: t) := by
  obtain ⟨c, hc1, hc2⟩ := Cond.classLink_spec C.own (C.ts _ hl) e.platform hpl
  obtain ⟨c3, c4, g3, g4, g5⟩ := Cond.castable_spec hc
  cases Option.some.inj (g3.symm.trans hcl)
  cases Option.some.inj (g4.symm.trans hcl)
  cases Option.some.inj (hc1.symm.trans hcl)
  exact ⟨hx, h0, _, by rw [hm]; exact hc2, Or.inl ⟨g5, rfl⟩⟩
theorem sel_miss (C : CK k E md kd d mc ms) {e : Env} {f : JFrame} (hpl : e.platform.magicAccessors = ({} : Platform).magicAccessors) (hm : f.method = kM k) {X Y : String} {x : ExceptionTableEntry} {t : List ExceptionTableEntry} {cls : ClassId} {pc2 : Nat} (hcl : (kS k).vm.findClass X = some cls) (hx : covers x f.pc = true) (h0 : x.catchType ≠ 0) (hl : Cond.classLink md.1.cls x.catchType Y ∈ TB) (hc : va_Nc X Y (kS k)) (h : ctSel e (kS k) f cls pc2 t) : ctSel e (kS k) f cls pc2 (x :: t) := by
  obtain ⟨c, hc1, hc2⟩ := Cond.classLink_spec C.own (C.ts _ hl) e.platform hpl
  obtain ⟨c3, c4, g3, g4, g5⟩ := hc
  cases Option.some.inj (g3.symm.trans hcl)
  cases Option.some.inj (g4.symm.trans hc1)
  exact ⟨hx, h0, _, by rw [hm]; exact hc2, Or.inr ⟨g5, h⟩⟩
/-- the contract of a method with a table, out of which nothing is thrown -/
def ConH (E : VE) (md : MD) (hh : List (Nat × Nat × Nat × Nat)) (d mc ms : Nat) (av : List Value) (Sh : Nat → SE) (N : Nat) (G : Bool) (M : MM) (Post : Option Value → (Nat → SE) → Nat → MM → Prop) : Prop :=
  ∀ l : Launch, l.stackTraces = false → vx_Met l md.1 (Cond.codeWith md.1 md.2.1 md.2.2.1 md.2.2.2 hh :: TB) { frames := d, cells := mc, slots := ms, locals := 40 * d }
    (va_Pc (av.map (cv E)) (fun U => HR E Sh N G M U.heap ∧ KX E U)) (QC E G Post) (XF E nox Sh N M) mc ms (AE E)
theorem ConH.of {hh : List (Nat × Nat × Nat × Nat)} {av : List Value} {Post : Option Value → (Nat → SE) → Nat → MM → Prop} (hy : plainName md.1.cls = true) (hown : md.1.cls = "MudWallsLaw") (h1 : ∀ v ∈ av, v.category = 1) (hn : av.length ≤ md.2.2.1)
    (body : ∀ k : MC, CX k E md d mc ms → (kC k).exceptionTable.toList = tableOf hh → ∀ Q : State → Prop, Q = QM k E mc ms Sh N G M Post nox → PT k E Q mc ms Sh N G M 0 (av.map some ++ List.replicate (md.2.2.1 - av.length) none) []) : ConH E md hh d mc ms av Sh N G M Post := by
  intro l hl
  refine vx_ofWH (cc := md.2.1) (maxL := md.2.2.1) (ret := md.2.2.2) hy rfl ?_
  intro p e s m args below meth c s₁ B hml hv
  obtain ⟨rfl, hH, hK⟩ := hv
  have hw := atoms_spec (ws := Cond.codeWith md.1 md.2.1 md.2.2.1 md.2.2.2 hh :: TB) B.pre
  have hts : ∀ w ∈ TB, w.before (av.map (cv E)).toArray s = true := fun w hw2 => hw w (List.mem_cons_of_mem _ hw2)
  have hC : CX (p, l, e, { frames := d, cells := mc, slots := ms, locals := 40 * d }, s, m, (av.map (cv E)).toArray, below, meth, c) E md d mc ms :=
    ⟨B.exec, B.bytes, hml, findClass_of_methodNamed B.named, hts, hK, B.notSynchronized, B.returns, (name_of_methodNamed B.named B.method).1, hl, Or.inl hown, rfl, rfl, rfl, Nat.le_refl _⟩
  have hb := body _ hC (vx_table (x := md.1) B (hw _ List.mem_cons_self)) _ rfl
  rw [lg_entry_eq]
  exact hb _ s.heap [] 0 0 (LR.entry E av md.2.2.1 h1 hn) hH va_S.rf (by show 0 + mc ≤ mc; omega) (by show 0 + ms ≤ ms; omega)
/-- nothing more is made -/
theorem r_G (kk : PT k E Q cm sm Sh N false M pc L st) : PT k E Q cm sm Sh N true M pc L st :=
  fun ls H locs cells slots hL hH hS hc hs => kk ls H locs cells slots hL ⟨hH.1, (fun h => by cases h), hH.2.2⟩ hS hc hs
end WRAP
