section THR
variable {p : Program} {l : Launch} {e : Env} {R : Room} {s : State} {m : MethodId} {args : Array Value} {below : List Frame} {meth : Method} {c : Code} {H : Heap} {locs : List Loc} {cells slots : Nat}
/-- the words of a throw whose class calls its super at the index ix, by the bytes rx -/
def thW (own : String) (ic : Nat) (X : String) (ix : Nat) (rx : ByteArray) (Y : String) (r : List String) : List Cond :=
  Bundle.throwableAtoms ++ (Bundle.throwableSAtoms ++ (Bundle.passSAtoms X Y ix rx ++ (Bundle.chainSAtoms Y r ++
  [.methodLink own ic (Bundle.initS X), .instantiable X 6, .selects X Bundle.tFill0 Bundle.tFill0, .selects X Bundle.tFill Bundle.tFill,
   .lays X Bundle.tN "cause" "Ljava/lang/Throwable;", .lays X Bundle.tN "stackTrace" Bundle.steD, .lays X Bundle.tN "suppressedExceptions" Bundle.listD, .lays X Bundle.tN "detailMessage" "Ljava/lang/String;",
   .isRef (.static Bundle.tN "UNASSIGNED_STACK" Bundle.steD), .isRef (.static Bundle.tN "SUPPRESSED_SENTINEL" Bundle.listD),
   .fieldLink Bundle.tN 198 Bundle.tN "backtrace" "Ljava/lang/Object;", .lays Bundle.tN Bundle.tN "backtrace" "Ljava/lang/Object;", .lays X Bundle.tN "backtrace" "Ljava/lang/Object;"])))
def thN (own : String) (ic : Nat) (X : String) (ix : Nat) (rx : ByteArray) (Y : String) (r : List String) : List Cond := (thW own ic X ix rx Y r).filter vx_no
set_option maxHeartbeats 2000000 in
/-- the maker of such a thing is walked, and it is thrown out of the method -/
theorem th_ctor {W : State} (X : Stand p l e R s m args below meth c W locs cells slots) (hexec : p.tables.exec = Jvm.exec) (htr : e.platform.stackTraces = false) {own cls Y0 : String} {r0 : List String} {ic ix : Nat} {rx : ByteArray}
    (x0 : decode rx 0 = .ok (.aload_n 0, 1)) (x1 : decode rx 1 = .ok (.aload_n 1, 1)) (x2 : decode rx 2 = .ok (.invokespecial ix, 3)) (x5 : decode rx 5 = .ok (.return_, 1))
    (hown : s.vm.findClass own = some m.cls) (hcls : Bundle.fit cls = true) (hY0 : Bundle.fit Y0 = true) (hr0 : ∀ n ∈ r0, Bundle.fit n = true)
    (h : ∀ a ∈ thW own ic cls ix rx Y0 r0, a.before args s = true)
    (hlocs : ∀ x ∈ locs, ∀ cell, s.heap[x.base]? = some cell → cell.vm.isStatics = false)
    {a : Addr} {cX : ClassId} {kX : Class} (hfoundX : s.vm.findClass cls = some cX) (hkX : s.vm.classes[cX]? = some kX) (hcell : W.heap[a]? = some (freshCell cX kX)) (hnew : s.heap.size ≤ a)
    {msg : Value} (hmsg : msg.isRef = true)
    {g : JFrame} (hg : g.method = m) (hsize : g.locals.size = c.maxLocals) (hlocked : g.locked = none) (hentered : g.entered = []) {rest : List Value} (hstack : g.stack = msg :: .ref a :: .ref a :: rest)
    (hd6 : decode c.code g.pc = .ok (.invokespecial ic, 3)) (hd9 : decode c.code (g.pc + 3) = .ok (.athrow, 1)) (hout : ∀ x ∈ c.exceptionTable.toList, covers x (g.pc + 3) = false)
    (hRframes : r0.length + 4 < R.frames) (hRlocals : 2 * g.monitorRoom + ((Value.ref a :: rest).map fun v => v.category).sum + (13 * (r0.length + 2) + 42) ≤ R.locals) (hlocks : meth.locks = false) :
    ∃ U : State, Steps p.tables e below (W.setTop g) U ∧ U.status = .running ∧ Ended U below (.threw a) ∧ s.WarmedH U.vm ∧ s.sameButNew ({ U with vm := s.vm } : State) locs cells slots ∧
      ∃ ce, U.heap[a]? = some ce ∧ s.vm.findClass cls = some ce.cls ∧ ce.vm = .none := by
  have howns : e.platform.frameOwnsMonitors = true := by rw [X.admits.platform]
  have hfin : e.platform.finalization = false := by rw [X.admits.platform]
  have hpl : e.platform.magicAccessors = ({} : Platform).magicAccessors := by rw [X.admits.platform]
  have a' : ∀ x, x ∈ thW own ic cls ix rx Y0 r0 → x.holds args s none s [] = true := fun x hx => h x hx
  obtain ⟨T, Z0, L, -, Y⟩ := ThrowableC.of_atoms (args := args) howns hfin hpl (fun x hx => h x (by simp [thW, hx]))
  obtain ⟨Z, M, LZ, LM, hnZ⟩ := Init0T.ofS_atoms (args := args) hpl L Y (fun x hx => h x (by simp [thW, hx]))
  obtain ⟨P1, L1, hP1m, hs1⟩ := PassC.ofS_atoms (args := args) (s := s) hpl (X := cls) (Y := Y0) (Bundle.fit_spec hcls).1 (Bundle.fit_spec hY0).2 x0 x1 x2 x5 (fun x hx => h x (by simp [thW, hx]))
  obtain ⟨P2, Ps2, hlen2, L2, hL2, hP2m, hlink2, hlinks2⟩ := Bundle.chainS (args := args) hpl hnZ r0 Y0 hY0 hr0 (fun x hx => h x (by simp [thW, hx]))
  have hfound : s.vm.findClass cls = some P1.m.cls := findClass_of_methodNamed hP1m
  cases Option.some.inj (hfoundX.symm.trans hfound)
  obtain ⟨c1, kX', hc1, hk, hord, -, -, -⟩ := Cond.instantiable_spec (a' (.instantiable cls 6) (by simp [thW]))
  cases Option.some.inj (hc1.symm.trans hfound)
  cases Option.some.inj (hkX.symm.trans hk)
  have sel : ∀ (y : MethodName) (i : MethodId), Cond.selects cls y y ∈ thW own ic cls ix rx Y0 r0 → s.methodNamed? y = some i → s.methodFound? y.cls y.name y.desc = some i → selectMethod e.platform s.vm P1.m.cls i = .method i := by
    intro y i hy hn hf
    obtain ⟨c2, r2, m2, q1, q2, q3, q4, -⟩ := Cond.selects_spec (a' _ hy)
    cases Option.some.inj (q1.symm.trans hfound)
    cases Option.some.inj (q2.symm.trans hf)
    cases Option.some.inj (q3.symm.trans hn)
    rw [Launch.admits_selectMethod X.admits]; exact q4
  have hsel0 := sel Bundle.tFill0 T.fill0 (by simp [thW]) Y.fill0 (State.methodFound?_of_named Y.fill0 (by decide))
  have hselF := sel Bundle.tFill T.fill (by simp [thW]) Y.fill (State.methodFound?_of_named Y.fill (by decide))
  obtain ⟨cellS0, hcS0, hiss⟩ := Y.statics
  obtain ⟨u0, hu0⟩ := Cond.staticRefV Y.unassigned L.unassignedStatic L.statics hcS0 hiss (a' (.isRef (.static Bundle.tN "UNASSIGNED_STACK" Bundle.steD)) (by simp [thW]))
  obtain ⟨sen, hsen⟩ := Cond.staticRefV Y.sentinel L.sentinelStatic L.statics hcS0 hiss (a' (.isRef (.static Bundle.tN "SUPPRESSED_SENTINEL" Bundle.listD)) (by simp [thW]))
  obtain ⟨ci198, i198, fB, hk198, hg198, ha198, hsB, -, hnB, htB, hffB⟩ := Cond.ownField (t := .object "java/lang/Object") Y.found L.cls (by decide +kernel) (a' (.fieldLink Bundle.tN 198 Bundle.tN "backtrace" "Ljava/lang/Object;") (by simp [thW])) (a' (.lays Bundle.tN Bundle.tN "backtrace" "Ljava/lang/Object;") (by simp [thW])) e.platform hpl
  obtain ⟨cellS, hcS', heS, -, hkeep⟩ := X.same.2.2.2.2.2 T.aS cellS0 hcS0
  have hcellS : W.heap[T.aS]? = some cellS := hcS'
  have hout' : ∀ i, (⟨T.aS, i⟩ : Loc) ∉ locs := fun i hmem => by
    have := hlocs _ hmem cellS0 hcS0
    rw [hiss] at this; cases this
  have hknownS : cellS.vm ≠ .unknown := by
    rw [heS]; intro hu
    rw [show cellS0.vm = .unknown from hu] at hiss
    cases hiss
  have hneS : T.aS ≠ a := Nat.ne_of_lt (Nat.lt_of_lt_of_le (Array.getElem?_eq_some_iff.mp hcS0).1 hnew)
  obtain ⟨iM, hffM⟩ := Y.msg
  obtain ⟨tyC, dC, hdC, hdnC⟩ := Cond.laysAt hfound hk Y.cause (a' (.lays cls Bundle.tN "cause" "Ljava/lang/Throwable;") (by simp [thW]))
  obtain ⟨tyS, dS, hdS, hdnS⟩ := Cond.laysAt hfound hk Y.stack (a' (.lays cls Bundle.tN "stackTrace" Bundle.steD) (by simp [thW]))
  obtain ⟨tyP, dP, hdP, hdnP⟩ := Cond.laysAt hfound hk Y.supp (a' (.lays cls Bundle.tN "suppressedExceptions" Bundle.listD) (by simp [thW]))
  obtain ⟨tyM, -, -, -⟩ := Cond.laysAt hfound hk hffM (a' (.lays cls Bundle.tN "detailMessage" "Ljava/lang/String;") (by simp [thW]))
  obtain ⟨tyB, dB, hdB, hdnB⟩ := Cond.laysAt hfound hk hffB (a' (.lays cls Bundle.tN "backtrace" "Ljava/lang/Object;") (by simp [thW]))
  have bC := Cond.laysApart hdB hdC hdnB hdnC (by rw [hnB, Y.causeName]; decide)
  have bS := Cond.laysApart hdB hdS hdnB hdnS (by rw [hnB, Y.stackName]; decide)
  have bP := Cond.laysApart hdB hdP hdnB hdnP (by rw [hnB, Y.suppName]; decide)
  have hskip : SkipFacts T e.platform s (fun u => u) u0 ((preparedCellV T.toThrowableT (freshCell P1.m.cls kX) a u0 sen).withEntry W.cur) :=
    ⟨{ ci198 := ci198, i198 := i198, fBack := fB }, ⟨hk198, hg198, ha198, hsB⟩, by
      have := fresh_default (c := P1.m.cls) tyB
      rw [htB] at this
      simpa [preparedCellV, Cell.setSlot, Cell.withEntry, Array.getElem?_setIfInBounds, bC, bS, bP, bC.symm, bS.symm, bP.symm, defaultValue] using this, fun _ _ => rfl⟩
  obtain ⟨tm, methC, cdC, kC, vm₁, hnC, -, -, -, -, -, -, -, hW₁, st1⟩ := Steps.initColdS (tb := p.tables) (e := e) (below := below) (s := s) (U := W) X.here hexec X.warmed hpl hown (t := Bundle.initS cls) rfl rfl (Bundle.fit_spec hcls).2
    (a' (.methodLink own ic (Bundle.initS cls)) (by simp [thW])) (h (.instanceMethod (Bundle.initS cls)) (by simp [thW, Bundle.passSAtoms])) (bytes := rx) (maxL := 2) (h (.code (Bundle.initS cls) rx 2 none) (by simp [thW, Bundle.passSAtoms]))
    (f := g) hg (a := a) (msg := msg) (rest := .ref a :: rest) hstack hd6
  cases Option.some.inj (hnC.symm.trans hP1m)
  have X₁ := X.noted hW₁
  obtain ⟨vm₂, X₂, st2⟩ := X₁.ctorMessageOffV hexec (g := { g with stack := .ref a :: rest }) hg hsize T L Z LZ M LM (P1 :: P2 :: Ps2)
    (fun P hP => by
      rcases List.mem_cons.mp hP with rfl | hP
      · exact L1
      · rcases List.mem_cons.mp hP with rfl | hP
        · exact L2
        · exact hL2 P hP) ⟨Option.some.inj (hs1.symm.trans hP2m), hlink2, hlinks2⟩ (u0 := u0) (sen := sen) (self := a) hmsg (cell := freshCell P1.m.cls kX) (cellS := cellS)
    hcell (fun _ => by simp) (by simp) rfl rfl hsel0 hselF hcellS hneS hknownS (by rw [hkeep _ (hout' _)]; exact hu0) (by rw [hkeep _ (hout' _)]; exact hsen)
    (Takes.of_laid hk hord tyC (by rw [Y.causeType]; rfl)) (Takes.of_laid hk hord tyS (by rw [Y.stackType]; exact fits_refV_array _ u0)) (Takes.of_laid hk hord tyP (by rw [Y.suppType]; exact fits_refV_object _ sen))
    (Takes.of_laid hk hord tyM (by rw [Y.msgType]; exact fits_refV_object _ ⟨msg, hmsg⟩)) Y.objLocals hskip htr [] hd6
    (by simp only [List.length_cons, hlen2]; omega) (by simp only [List.length_cons, hlen2]; exact hRlocals)
  obtain ⟨hwalk, hrun, hended, hWU, hsame⟩ := X₂.athrowLeaves hexec (g := { g with stack := .ref a :: rest, pc := g.pc + 3 }) hg hlocked hentered hout (a := a) (rest := rest) rfl hd9
  have hlt : a < ((W.setVm vm₁).setVm vm₂).heap.size := (Array.getElem?_eq_some_iff.mp hcell).1
  have hU := heapAt_setCell_self (s := (W.setVm vm₁).setVm vm₂) (plainBareV T.toThrowableT (freshCell P1.m.cls kX) a u0 sen msg) hlt
  refine ⟨_, st1 _ (fun acts => ?_), hrun, hended, hWU, hsame.weaken (fun y hy hlt' => ?_) (Nat.le_refl _) (Nat.le_refl _), _, hU, hfound, rfl⟩
  · rw [doInvoke_state]
    exact st2 _ hwalk
  · rcases List.mem_append.mp hy with h1 | h1
    · exact h1
    · exfalso
      have hb : y.base = a := by
        simp only [List.mem_cons, List.not_mem_nil, or_false] at h1
        rcases h1 with rfl | rfl | rfl | rfl | rfl <;> rfl
      rw [hb] at hlt'
      exact Nat.not_lt.mpr hnew hlt'
theorem th_dec {A : Array Value} {U : State} {x : MethodName} (h : va_Decl U x) : (Cond.declares x).before A U = true := by
  obtain ⟨r0, r, h1, h2, h3, h4⟩ := h
  simp [Cond.before, Cond.holds, Cond.value, h1, h2, h3, h4]
/-- a word that says that a method is declared, where the tables have its code -/
def DecW (w : Cond) : Prop := ∃ (x : MethodName) (b : ByteArray) (m : Nat) (r : Option FieldType), w = .declares x ∧ Cond.instanceMethod x ∈ TB ∧ Cond.code x b m r ∈ TB
end THR
section THP
variable {k : MC} {E : VE} {md : MD} {kd : List (Nat × Instr × Nat)} {d mc ms : Nat} {Q : State → Prop} {cm sm : Nat} {Sh : Nat → SE} {N : Nat} {G : Bool} {M : MM} {pc : Nat} {L : List (Option Value)} {st : List Value}
set_option maxHeartbeats 2000000 in
/-- 'throw new X(text)', at the numbers with which the method began -/
theorem r_throwG (C : CK k E md kd d mc ms) {Post : Option Value → (Nat → SE) → Nat → MM → Prop} {PX : String → Prop} (hQ : Q = QM k E mc ms Sh N G M Post PX) {cls text Y0 : String} {r0 : List String} {ik is ic ix sa ln : Nat} {rx : ByteArray}
    (hX : PX cls) (hcls : Bundle.fit cls = true) (hY0 : Bundle.fit Y0 = true) (hr0 : ∀ n ∈ r0, Bundle.fit n = true)
    (x0 : decode rx 0 = .ok (.aload_n 0, 1)) (x1 : decode rx 1 = .ok (.aload_n 1, 1)) (x2 : decode rx 2 = .ok (.invokespecial ix, 3)) (x5 : decode rx 5 = .ok (.return_, 1))
    (hk : Cond.classLink md.1.cls ik cls ∈ TB) (hini : Cond.initialized cls ∈ TB) (hw : ∀ w ∈ thN md.1.cls ic cls ix rx Y0 r0, w ∈ TB ∨ DecW w) (hstr : vk_R md.1.cls is text sa (kS k))
    (d0 : cod kd pc = some (.new ik, 3)) (d3 : cod kd (pc + 3) = some (.dup, 1)) (d4 : (ln = 2 ∧ cod kd (pc + 4) = some (.ldc is, 2)) ∨ (ln = 3 ∧ cod kd (pc + 4) = some (.ldc_w is, 3))) (d6 : cod kd (pc + 4 + ln) = some (.invokespecial ic, 3)) (d9 : cod kd (pc + 4 + ln + 3) = some (.athrow, 1))
    (hne : md.1.cls ≠ "MudWallsLaw") (hLn : L.length = md.2.2.1) (hfr : r0.length + 5 ≤ d) (hrest : (st.map fun v => v.category).sum ≤ 8) (h1 : 1 ≤ cm) (h6 : 6 ≤ sm) : PT k E Q cm sm Sh N G M pc L st := by
  subst hQ
  intro ls H locs cells slots hL hH hS hc hs
  have hexec := C.x
  have hb := C.b
  have hce := C.ce
  have hsl := C.sl
  have hfr2 := C.fr
  have hlc := C.lc
  have h8 := cat_rest (E := E) st hrest
  have hout : ∀ x ∈ (kC k).exceptionTable.toList, covers x (pc + 4 + ln + 3) = false := fun x hx => (C.ex.elim (fun h => absurd h hne) (fun h => h x hx)).elim
  intro T hT X
  have htr : k.2.2.1.platform.stackTraces = false := (show k.2.2.1.platform.stackTraces = k.2.1.stackTraces by rw [X.admits.platform]).trans C.tr
  have Y := vx_rebase X (R' := { frames := (kR k).frames, locals := (kR k).locals, cells := 1, slots := 6 }) (Nat.le_refl _) (Nat.le_refl _) (show cells + 1 ≤ (kR k).cells by omega) (show slots + 6 ≤ (kR k).slots by omega)
  obtain ⟨s', hA⟩ : ∃ z, z = (T.setVm (kS k).vm).setFrames (.invoking (kM k) (kA k) :: kB k) := ⟨_, rfl⟩
  rw [← hA] at Y
  have hvm : s'.vm = (kS k).vm := by rw [hA]; rfl
  have hhp : s'.heap = H := by rw [hA]; exact hT
  have hW0 : (kS k).WarmedH s'.vm := by rw [hvm]; exact State.WarmedH.refl (kS k)
  have atTB : ∀ w ∈ TB, w.before (kA k) s' = true := fun w hw => vx_ot_at hW0 hvm.symm (by rw [vx_ot, TB_good hw, Bool.or_true]) (C.ts w hw)
  have hK' : KX E s' := C.K.moved hW0 (by rw [hhp]; exact hS.1) (fun a h1 h2 => by rw [hhp]; exact hS.2.1 a h1 h2)
  obtain ⟨-, -, -, -, hU', hN', -, -⟩ := hK'
  have h : ∀ w ∈ thW md.1.cls ic cls ix rx Y0 r0, w.before (kA k) s' = true := vx_own (fun w hw9 => (hw w hw9).elim (atTB w) (fun ⟨x, b, m, r, e1, e2, e3⟩ => by
    rw [e1]
    exact th_dec (va_Decl.of (atTB _ e2) (atTB _ e3)))) (vx_isRefq hU'.1) (vx_isRefq hN'.1) hU'.2.word hN'.2.word
  have hown' : s'.vm.findClass md.1.cls = some (kM k).cls := by rw [hvm]; exact C.own
  have hins : (Cond.instantiable cls 6).before (kA k) s' = true := h _ (by simp [thW])
  obtain ⟨vm₁, cX, kX, hfX, hkX, -, -, X₁, st1⟩ := Y.newCold hexec (own := md.1.cls) (C := cls) (index := ik) (n := 6) hown' (atTB _ hk) hins (atTB _ hini)
    (g := F0 (kM k) pc ls (st.map (cv E))) rfl (by rw [hb]; exact C.dec d0) (Nat.le_refl _) (Nat.le_refl _)
  generalize hT1 : (T.setVm vm₁).pushCell { cls := cX, slots := kX.instanceTypes.map defaultValue, vm := .none } = T1 at X₁ st1
  have hcat : (Value.ref T.heap.size).category = 1 := rfl
  have hcellA : T1.heap[T.heap.size]? = some (freshCell cX kX) := by rw [← hT1]; exact State.heap_pushCell_size _ _
  have d3' : decode (kC k).code (pc + 3) = .ok (.dup, 1) := by rw [hb]; exact C.dec d3
  have hstr' : vk_R md.1.cls is text sa s' := vk_R.warm hW0 hstr
  obtain ⟨U, hsteps, hrun, hend, hW, hsame, ce, hce9, hO, hcv⟩ := th_ctor X₁ hexec htr (own := md.1.cls) (cls := cls) (ic := ic) x0 x1 x2 x5 hown' hcls hY0 hr0 h (fun x hx => nomatch hx) hfX hkX hcellA (by rw [hhp, hT]; exact Nat.le_refl _) (msg := .ref sa) rfl
    (g := { method := kM k, pc := pc + 4 + ln, locals := ls, stack := .ref sa :: .ref T.heap.size :: .ref T.heap.size :: st.map (cv E), locked := none }) rfl (by rw [C.ml]; show ls.size = _; rw [hL.1, hLn]) rfl rfl (rest := st.map (cv E)) rfl
    (by rw [hb]; exact C.dec d6) (by rw [hb]; exact C.dec d9) hout (show r0.length + 4 < (kR k).frames by omega) (by
      show 2 * 0 + _ + _ ≤ (kR k).locals
      simp only [List.map_cons, List.sum_cons, hcat]
      omega) C.lk
  obtain ⟨f1, f2⟩ := vx_frame hsame
  rw [hhp] at f1 f2
  have hWs : (kS k).WarmedH U.vm := State.WarmedH.trans hW0 hW
  have hcl : (kS k).vm.findClass cls = some ce.cls := by
    have h9 := hO
    rw [hvm] at h9
    exact h9
  have hall : (kS k).sameButNew ({ U with vm := (kS k).vm } : State) locs mc ms := by
    subst hA
    obtain ⟨e1, e2⟩ := hsame
    rw [State.setFrames_setFrames] at e1
    have h2 : (T.setVm (kS k).vm).sameButNew ({ U with vm := (kS k).vm } : State) [] (0 + 1) (0 + 6) := ⟨e1, e2⟩
    have h3 := X.same.trans h2
    rw [List.append_nil] at h3
    exact h3.mono (by omega) (by omega)
  have hq : ∀ q : Nat, q < H.size → U.heap[q]? = H[q]? := fun q hq => f2 q hq (fun z hz => nomatch hz)
  have hxf : XF E PX Sh N M cls (kS k) U := ⟨hX, hH.grow f1 hq, ⟨Nat.le_trans hS.1 f1, fun q q1 q2 => by rw [hq q (Nat.lt_of_lt_of_le q1 hS.1)]; exact hS.2.1 q q1 q2⟩⟩
  refine ⟨U, ?_, .threw T.heap.size, hrun, hend, Or.inr ⟨T.heap.size, rfl, cls, ce, locs, hxf, hce9, hcv, hcl, hWs, hall, hS.2.2⟩⟩
  refine st1 _ ?_
  show Steps k.1.tables k.2.2.1 (kB k) (T1.setTop { method := kM k, pc := pc + 3, locals := ls, stack := .ref T.heap.size :: st.map (cv E), locked := none }) _
  jvm_step X₁.here [X₁.here.top, hexec, d3', Value.category]
  rcases d4 with ⟨rfl, d4⟩ | ⟨rfl, d4⟩
  · exact X₁.ldcString hexec (own := md.1.cls) (text := text) (index := is) (a := sa) hown' hstr'.1 hstr'.2
      (g := { method := kM k, pc := pc + 4, locals := ls, stack := .ref T.heap.size :: .ref T.heap.size :: st.map (cv E), locked := none }) rfl (by rw [hb]; exact C.dec d4) _ hsteps
  · exact X₁.ldcStringW hexec (own := md.1.cls) (text := text) (index := is) (a := sa) hown' hstr'.1 hstr'.2
      (g := { method := kM k, pc := pc + 4, locals := ls, stack := .ref T.heap.size :: .ref T.heap.size :: st.map (cv E), locked := none }) rfl (by rw [hb]; exact C.dec d4) _ hsteps
theorem th_k {w : Cond} (i : Nat) (h : tables_1[i]? = some w) (g : goodWord w = true) : w ∈ TB := TB_of (List.mem_append_right _ (List.mem_of_getElem? h)) g
theorem dw_1 : DecW (.declares (Bundle.initS "java/lang/RuntimeException")) := ⟨_, Bundle.six, 2, none, rfl, th_k 579 (by decide +kernel) (by decide +kernel), th_k 580 (by decide +kernel) (by decide +kernel)⟩
theorem dw_2 : DecW (.declares (Bundle.initS "java/lang/Exception")) := ⟨_, Bundle.six, 2, none, rfl, th_k 582 (by decide +kernel) (by decide +kernel), th_k 583 (by decide +kernel) (by decide +kernel)⟩
theorem dw_3 : DecW (.declares (Bundle.initS "java/lang/Throwable")) := ⟨_, prog_26_method_2_code, 2, none, rfl, th_k 585 (by decide +kernel) (by decide +kernel), th_k 586 (by decide +kernel) (by decide +kernel)⟩
def th_q (w : Cond) : Bool := goodWord w || decide (w = .declares (Bundle.initS "java/lang/RuntimeException")) || decide (w = .declares (Bundle.initS "java/lang/Exception")) || decide (w = .declares (Bundle.initS "java/lang/Throwable"))
theorem th_in {L : List Cond} (ps : List Nat) (h : L.map some = ps.map (fun i => tables_1[i]?)) (g : L.all th_q = true) : ∀ w ∈ L, w ∈ TB ∨ DecW w := by
  intro w hw
  have h1 : some w ∈ ps.map (fun i => tables_1[i]?) := by rw [← h]; exact List.mem_map.mpr ⟨w, hw, rfl⟩
  obtain ⟨i, -, hi⟩ := List.mem_map.mp h1
  have h2 := List.all_eq_true.mp g w hw
  simp only [th_q, Bool.or_eq_true, decide_eq_true_eq] at h2
  rcases h2 with ((h2 | h2) | h2) | h2
  · exact Or.inl (TB_of (List.mem_append_right _ (List.mem_of_getElem? hi)) h2)
  · rw [h2]; exact Or.inr dw_1
  · rw [h2]; exact Or.inr dw_2
  · rw [h2]; exact Or.inr dw_3
def rx13 : ByteArray := ⟨#[0x2a, 0x2b, 0xb7, 0x00, 0x0d, 0xb1]⟩
abbrev XN : String := "java/util/NoSuchElementException"
abbrev XI : String := "java/lang/IllegalArgumentException"
theorem th_nse : ∀ w ∈ thN "MudWalls" 188 XN 13 rx13 "java/lang/RuntimeException" ["java/lang/Exception"], w ∈ TB ∨ DecW w :=
  th_in [15, 556, 565, 568, 571, 573, 557, 558, 31, 32, 559, 564, 569, 589, 546, 590, 548, 591, 550, 560, 562, 552, 585, 586, 588, 552, 771, 772, 773, 579, 538, 579, 580, 581, 582, 540, 582, 583, 584, 585, 542, 770, 761, 763, 567, 764, 765, 766, 767, 555, 554, 768] (by decide +kernel) (by decide +kernel)
theorem th_iae : ∀ w ∈ thN "MudWalls" 134 XI 7 Bundle.six "java/lang/RuntimeException" ["java/lang/Exception"], w ∈ TB ∨ DecW w :=
  th_in [15, 556, 565, 568, 571, 573, 557, 558, 31, 32, 559, 564, 569, 589, 546, 590, 548, 591, 550, 560, 562, 552, 585, 586, 588, 552, 576, 577, 578, 579, 538, 579, 580, 581, 582, 540, 582, 583, 584, 585, 542, 575, 535, 543, 544, 545, 547, 549, 551, 555, 554, 553] (by decide +kernel) (by decide +kernel)
theorem th_k1 : Cond.classLink "MudWalls" 184 XN ∈ TB := th_k 760 (by decide +kernel) (by decide +kernel)
theorem th_k2 : Cond.classLink "MudWalls" 130 XI ∈ TB := th_k 534 (by decide +kernel) (by decide +kernel)
theorem th_i1 : Cond.initialized XN ∈ TB := th_k 24 (by decide +kernel) (by decide +kernel)
theorem th_i2 : Cond.initialized XI ∈ TB := th_k 18 (by decide +kernel) (by decide +kernel)
theorem rx_0 : decode rx13 0 = .ok (.aload_n 0, 1) := by decide +kernel
theorem rx_1 : decode rx13 1 = .ok (.aload_n 1, 1) := by decide +kernel
theorem rx_2 : decode rx13 2 = .ok (.invokespecial 13, 3) := by decide +kernel
theorem rx_5 : decode rx13 5 = .ok (.return_, 1) := by decide +kernel
theorem th_ne {y : String} (h : y = "MudWalls") : y ≠ "MudWallsLaw" := by rw [h]; decide
theorem th_fit : ∀ n ∈ ["java/lang/Exception"], Bundle.fit n = true := by decide +kernel
theorem r_nse (C : CK k E md kd d mc ms) {Post : Option Value → (Nat → SE) → Nat → MM → Prop} {PX : String → Prop} (hQ : Q = QM k E mc ms Sh N G M Post PX) (hX : PX XN) {text : String} {is n : Nat} (hs : ("MudWalls", is, text, n) ∈ strT)
    (d0 : cod kd pc = some (.new 184, 3)) (d3 : cod kd (pc + 3) = some (.dup, 1)) (d4 : cod kd (pc + 4) = some (.ldc is, 2)) (d6 : cod kd (pc + 6) = some (.invokespecial 188, 3)) (d9 : cod kd (pc + 9) = some (.athrow, 1))
    (hown : md.1.cls = "MudWalls" := by rfl) (hLn : L.length = md.2.2.1 := by rfl) (hfr : 6 ≤ d := by omega) (hrest : (st.map fun v => v.category).sum ≤ 8 := by exact Nat.le_of_ble_eq_true rfl) (h1 : 1 ≤ cm := by omega) (h6 : 6 ≤ sm := by omega) : PT k E Q cm sm Sh N G M pc L st :=
  r_throwG (Y0 := "java/lang/RuntimeException") (r0 := ["java/lang/Exception"]) (ln := 2) (sa := E.2.2.1 n) (text := text) C hQ hX (by decide +kernel) (by decide +kernel) th_fit rx_0 rx_1 rx_2 rx_5 (by rw [hown]; exact th_k1) th_i1 (by rw [hown]; exact th_nse) (by rw [hown]; exact C.K.2.2.1 _ hs) d0 d3 (Or.inl ⟨rfl, d4⟩) d6 d9 (th_ne hown) hLn (by simpa using hfr) hrest h1 h6
theorem r_nseW (C : CK k E md kd d mc ms) {Post : Option Value → (Nat → SE) → Nat → MM → Prop} {PX : String → Prop} (hQ : Q = QM k E mc ms Sh N G M Post PX) (hX : PX XN) {text : String} {is n : Nat} (hs : ("MudWalls", is, text, n) ∈ strT)
    (d0 : cod kd pc = some (.new 184, 3)) (d3 : cod kd (pc + 3) = some (.dup, 1)) (d4 : cod kd (pc + 4) = some (.ldc_w is, 3)) (d6 : cod kd (pc + 7) = some (.invokespecial 188, 3)) (d9 : cod kd (pc + 10) = some (.athrow, 1))
    (hown : md.1.cls = "MudWalls" := by rfl) (hLn : L.length = md.2.2.1 := by rfl) (hfr : 6 ≤ d := by omega) (hrest : (st.map fun v => v.category).sum ≤ 8 := by exact Nat.le_of_ble_eq_true rfl) (h1 : 1 ≤ cm := by omega) (h6 : 6 ≤ sm := by omega) : PT k E Q cm sm Sh N G M pc L st :=
  r_throwG (Y0 := "java/lang/RuntimeException") (r0 := ["java/lang/Exception"]) (ln := 3) (sa := E.2.2.1 n) (text := text) C hQ hX (by decide +kernel) (by decide +kernel) th_fit rx_0 rx_1 rx_2 rx_5 (by rw [hown]; exact th_k1) th_i1 (by rw [hown]; exact th_nse) (by rw [hown]; exact C.K.2.2.1 _ hs) d0 d3 (Or.inr ⟨rfl, d4⟩) d6 d9 (th_ne hown) hLn (by simpa using hfr) hrest h1 h6
theorem r_iae (C : CK k E md kd d mc ms) {Post : Option Value → (Nat → SE) → Nat → MM → Prop} {PX : String → Prop} (hQ : Q = QM k E mc ms Sh N G M Post PX) (hX : PX XI) {text : String} {is n : Nat} (hs : ("MudWalls", is, text, n) ∈ strT)
    (d0 : cod kd pc = some (.new 130, 3)) (d3 : cod kd (pc + 3) = some (.dup, 1)) (d4 : cod kd (pc + 4) = some (.ldc is, 2)) (d6 : cod kd (pc + 6) = some (.invokespecial 134, 3)) (d9 : cod kd (pc + 9) = some (.athrow, 1))
    (hown : md.1.cls = "MudWalls" := by rfl) (hLn : L.length = md.2.2.1 := by rfl) (hfr : 6 ≤ d := by omega) (hrest : (st.map fun v => v.category).sum ≤ 8 := by exact Nat.le_of_ble_eq_true rfl) (h1 : 1 ≤ cm := by omega) (h6 : 6 ≤ sm := by omega) : PT k E Q cm sm Sh N G M pc L st :=
  r_throwG (Y0 := "java/lang/RuntimeException") (r0 := ["java/lang/Exception"]) (ln := 2) (sa := E.2.2.1 n) (text := text) C hQ hX (by decide +kernel) (by decide +kernel) th_fit Bundle.six_0 Bundle.six_1 Bundle.six_2 Bundle.six_5 (by rw [hown]; exact th_k2) th_i2 (by rw [hown]; exact th_iae) (by rw [hown]; exact C.K.2.2.1 _ hs) d0 d3 (Or.inl ⟨rfl, d4⟩) d6 d9 (th_ne hown) hLn (by simpa using hfr) hrest h1 h6
theorem r_iaeW (C : CK k E md kd d mc ms) {Post : Option Value → (Nat → SE) → Nat → MM → Prop} {PX : String → Prop} (hQ : Q = QM k E mc ms Sh N G M Post PX) (hX : PX XI) {text : String} {is n : Nat} (hs : ("MudWalls", is, text, n) ∈ strT)
    (d0 : cod kd pc = some (.new 130, 3)) (d3 : cod kd (pc + 3) = some (.dup, 1)) (d4 : cod kd (pc + 4) = some (.ldc_w is, 3)) (d6 : cod kd (pc + 7) = some (.invokespecial 134, 3)) (d9 : cod kd (pc + 10) = some (.athrow, 1))
    (hown : md.1.cls = "MudWalls" := by rfl) (hLn : L.length = md.2.2.1 := by rfl) (hfr : 6 ≤ d := by omega) (hrest : (st.map fun v => v.category).sum ≤ 8 := by exact Nat.le_of_ble_eq_true rfl) (h1 : 1 ≤ cm := by omega) (h6 : 6 ≤ sm := by omega) : PT k E Q cm sm Sh N G M pc L st :=
  r_throwG (Y0 := "java/lang/RuntimeException") (r0 := ["java/lang/Exception"]) (ln := 3) (sa := E.2.2.1 n) (text := text) C hQ hX (by decide +kernel) (by decide +kernel) th_fit Bundle.six_0 Bundle.six_1 Bundle.six_2 Bundle.six_5 (by rw [hown]; exact th_k2) th_i2 (by rw [hown]; exact th_iae) (by rw [hown]; exact C.K.2.2.1 _ hs) d0 d3 (Or.inr ⟨rfl, d4⟩) d6 d9 (th_ne hown) hLn (by simpa using hfr) hrest h1 h6
end THP
