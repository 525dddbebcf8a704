section CATCH
/-! a thing thrown by a callee is taken by a row of the method's table, whose class may not yet be resolved -/
section ROWS
variable {e : Env} {f : JFrame} {a : Addr} {cell : Cell} {s0 : State}
/-- one row that covers the place: it takes the thing, or leaves it to the rest; its class is noted -/
theorem ct_row {Q : Handler → Pre} {X : CtlPost} {d : Bool} {acts : List Action} {S : State} {x : ExceptionTableEntry} {t : List ExceptionTableEntry} {c : ClassId} (hx : covers x f.pc = true) (h0 : x.catchType ≠ 0) (hl : S.vm.ClassLinks e.platform f.method.cls x.catchType c) (hcell : S.heap[a]? = some cell) (hobj : ∀ k, cell.vm ≠ .statics k) (hk : ∃ k, S.vm.classes[cell.cls]? = some k) (hc : ∃ k, S.vm.classes[c]? = some k) :
    wp (findHandler.go f a (x :: t)) Q X e d acts S ↔ if S.vm.assignable cell.cls c = true then Q (.found x.handlerPc) d acts (S.setVm (S.vm.noted f.method.cls x.catchType (.cls c))) else wp (findHandler.go f a t) Q X e d acts (S.setVm (S.vm.noted f.method.cls x.catchType (.cls c))) := by
  have hr := (resolveClass_links e.toSetting hl).op (op := VmOp.resolveClass f.method.cls x.catchType) rfl
  have al : S.vm.Alike (S.vm.noted f.method.cls x.catchType (.cls c)) := (Vm.Alike.refl S.vm).noted _ _ _
  obtain ⟨k1, hk1⟩ := hk
  obtain ⟨k2, hk2⟩ := hc
  obtain ⟨j1, hj1, -⟩ := al.2.2 _ _ hk1
  obtain ⟨j2, hj2, -⟩ := al.2.2 _ _ hk2
  simp only [covers] at hx
  cases hq : S.vm.assignable cell.cls c with
  | true =>
    have hq2 := (al.assignable cell.cls c).trans hq
    simp [findHandler.go, hx, h0, hr.1, hr.2, hcell, hobj, hj1, hj2, hq2, VmOp.dirties, VmOp.acts]
  | false =>
    have hq2 := (al.assignable cell.cls c).trans hq
    simp [findHandler.go, hx, h0, hr.1, hr.2, hcell, hobj, hj1, hj2, hq2, VmOp.dirties, VmOp.acts]
/-- the rows, one behind the other: which takes it -/
def ctSel (e : Env) (s0 : State) (f : JFrame) (cls : ClassId) (pc : Nat) : List ExceptionTableEntry → Prop
  | [] => False
  | x :: t => covers x f.pc = true ∧ x.catchType ≠ 0 ∧ ∃ c, s0.vm.ClassLinks e.platform f.method.cls x.catchType c ∧ ((s0.vm.assignable cls c = true ∧ x.handlerPc = pc) ∨ (s0.vm.assignable cls c = false ∧ ctSel e s0 f cls pc t))
theorem ct_go (hobj : ∀ k, cell.vm ≠ .statics k) (hk : ∃ k, s0.vm.classes[cell.cls]? = some k) {pc : Nat} : ∀ (tb : List ExceptionTableEntry) (S : State), s0.WarmedH S.vm → S.heap[a]? = some cell → ctSel e s0 f cell.cls pc tb →
    ∃ vm', s0.WarmedH vm' ∧ ∀ (Q : Handler → Jvm.Pre) (X : CtlPost) (d : Bool) (acts : List Action), wp (findHandler.go f a tb) Q X e d acts S ↔ Q (.found pc) d acts (S.setVm vm')
  | [], _, _, _, h => h.elim
  | x :: t, S, hW, hcell, h => by
    obtain ⟨hx, h0, c, hl, hs⟩ := h
    obtain ⟨k1, hk1⟩ := hk
    obtain ⟨j1, hj1, -⟩ := hW.alike.2.2 _ _ hk1
    obtain ⟨dk, _, _, kt, hd, _, _, _, _, hkt, _, hopen⟩ := hl.here
    obtain ⟨j2, hj2, -⟩ := hW.alike.2.2 _ _ hkt
    have hW1 := hW.noted hd hopen (State.rightAt_cls hl)
    have row := fun (Q : Handler → Jvm.Pre) (X : CtlPost) (d : Bool) (acts : List Action) => ct_row (Q := Q) (X := X) (d := d) (acts := acts) (t := t) hx h0 (hW.classLinks hl) hcell hobj ⟨j1, hj1⟩ ⟨j2, hj2⟩
    rcases hs with ⟨ha, rfl⟩ | ⟨ha, ht⟩
    · exact ⟨_, hW1, fun Q X d acts => (row Q X d acts).trans (by rw [if_pos ((hW.alike.assignable _ _).trans ha)])⟩
    · obtain ⟨vm', hW', hq⟩ := ct_go hobj ⟨k1, hk1⟩ t (S.setVm (S.vm.noted f.method.cls x.catchType (.cls c))) hW1 hcell ht
      refine ⟨vm', hW', fun Q X d acts => (row Q X d acts).trans ?_⟩
      rw [if_neg (by rw [(hW.alike.assignable _ _).trans ha]; decide)]
      exact hq Q X d acts
/-- the walk goes on at the row's place -/
theorem ct_steps {tb : Tables} {s target : State} {c : Code} {below : List Frame} {pc : Nat} {vm' : Vm} (h : Jvm.At s f.method c below) (hf : ∀ (Q : Handler → Jvm.Pre) (X : CtlPost) (d : Bool) (acts : List Action), wp (findHandler f a) Q X e d acts ((s.setTop f).pushFrame (.throwing a)) ↔ Q (.found pc) d acts (((s.setTop f).pushFrame (.throwing a)).setVm vm'))
    (hrest : Steps tb e below ((s.setVm vm').setTop { f with pc := pc, stack := [.ref a] }) target) : Steps tb e below ((s.setTop f).pushFrame (.throwing a)) target := by
  obtain ⟨go, wi⟩ := h.throwing a
  have st : ∀ r, (stepThrowing e ((s.setTop f).pushFrame (.throwing a)) a (.java f :: r)).Is ((((s.setTop f).pushFrame (.throwing a)).setVm vm').setFrames (.java { f with pc := pc, stack := [.ref a] } :: r)) [] := by
    intro r
    simp only [stepThrowing, searchFrame, vmDo]
    generalize hr : Sem.go _ e false [] ((s.setTop f).pushFrame (.throwing a)) = res
    obtain ⟨as, rfl, ha⟩ := Sem.eq_ok_of hr (a := Handler.found pc) (s' := ((s.setTop f).pushFrame (.throwing a)).setVm vm') (acts' := []) (by simp [hf])
    exact ⟨rfl, ha⟩
  refine Steps.head go wi ?_
  rw [stepThread_throwing (frames_entered h.top _), (st _).1]
  obtain ⟨g0, hg⟩ := Option.isSome_iff_exists.mp h.top
  obtain ⟨r, hr⟩ := State.topJava?_eq_some.mp hg
  have hr2 : (s.setVm vm').frames = .java g0 :: r := hr
  rw [State.setTop_of_frames _ hr2] at hrest
  have e1 : ∀ (u : State) (F F2 : List Frame), ((u.setFrames F).setVm vm').setFrames F2 = (u.setVm vm').setFrames F2 := fun u F F2 => by
    rw [show (u.setFrames F).setVm vm' = (u.setVm vm').setFrames F from rfl, State.setFrames_setFrames]
  rw [hr, List.tail_cons, State.pushFrame, e1, State.setTop_of_frames _ hr, e1]
  exact hrest
end ROWS
end CATCH
