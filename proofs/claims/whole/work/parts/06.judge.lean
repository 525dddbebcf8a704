section JUDGE
/-- the constants of text: owner, entry, text, number -/
def strT : List (String × Nat × String × Nat) := [
  ("MudWalls$Reader", 52, "earth", 0), ("MudWalls$Reader", 61, "wall", 1), ("MudWalls$Reader", 66, "week", 2), ("MudWalls$Reader", 93, "ground", 3), ("MudWalls$Reader", 99, "shoes", 4), ("MudWalls$Reader", 101, "hat", 5), ("MudWalls$Reader", 106, "outer", 6), ("MudWalls$Reader", 108, "inner", 7), ("MudWalls$Reader", 116, "frost", 8),
  ("MudWallsModel", 194, "earth", 9), ("MudWallsModel", 195, "wall", 10), ("MudWallsModel", 197, "week", 11), ("MudWallsModel", 179, "ground", 12), ("MudWallsModel", 185, "shoes", 13), ("MudWallsModel", 187, "hat", 14), ("MudWallsModel", 189, "outer", 15), ("MudWallsModel", 191, "inner", 16), ("MudWallsModel", 193, "frost", 17),
  ("MudWalls", 132, "the tape has not so many bytes", 18), ("MudWalls", 186, "no such count", 19), ("MudWalls", 195, "no such wall", 20), ("MudWalls", 204, "no such layer", 21), ("MudWalls", 213, "no such cell", 22), ("MudWalls", 245, "no such trait of a wall", 23), ("MudWalls", 270, "no such trait of a cell", 24), ("MudWalls", 281, "no such trait of a layer", 25), ("MudWalls", 300, "a number not as told", 26), ("MudWalls", 302, "no such thing is told", 27), ("MudWalls", 320, "no such week of a plan", 28), ("MudWalls", 326, "both are one wall", 29), ("MudWalls", 355, "no such work of an order", 30), ("MudWalls", 376, "no such thing of a mix", 31)]
/-- the bytes of the nine words -/
def wordsT : List (List Nat) := [[101, 97, 114, 116, 104], [119, 97, 108, 108], [119, 101, 101, 107], [103, 114, 111, 117, 110, 100], [115, 104, 111, 101, 115], [104, 97, 116], [111, 117, 116, 101, 114], [105, 110, 110, 101, 114], [102, 114, 111, 115, 116]]
def wordB (i : Nat) : List Nat := wordsT.getD (i % 9) []
/-- what a text constant holds -/
def strC (E : VE) (i : Nat) (U : State) : Prop := va_O "java/lang/String" (E.2.2.1 i) (AE E) U U.heap ∧ va_OF "java/lang/String" "coder" "B" (.int 0) (E.2.2.1 i) (AE E) U U.heap ∧ va_OF "java/lang/String" "value" "[B" (.ref (E.2.2.1 (100 + i))) (E.2.2.1 i) (AE E) U U.heap ∧ va_T .byte (E.2.2.1 (100 + i)) (wordB i).length (fun j => .int (nI ((wordB i).getD j 0))) (AE E) U U.heap
/-- what holds of every start: kinds and arrays, texts, what a throw needs -/
def KX (E : VE) (U : State) : Prop := E.2.1 ≤ U.heap.size ∧ va_K E.1 vwCl (tysOf E) U ∧ (∀ q ∈ strT, vk_R q.1 q.2.1 q.2.2.1 (E.2.2.1 q.2.2.2) U) ∧ (∀ i, i < 18 → strC E i U) ∧
  vx_Zq Bundle.tN "UNASSIGNED_STACK" Bundle.steD (AE E) U U.heap ∧ vx_Zq Bundle.tN "SUPPRESSED_SENTINEL" Bundle.listD (AE E) U U.heap ∧
  va_Z "java/lang/String" "COMPACT_STRINGS" "Z" (.int 1) (AE E) U U.heap ∧ (va_Nc "java/lang/IllegalArgumentException" "java/util/NoSuchElementException" U ∧ va_AO "MudWalls$Wall" U ∧ (va_Nw (.methodLinkNest "MudWalls" 26 ⟨"MudWalls$Reader", "<init>", "()V"⟩ "MudWalls") U ∧ va_Nw (.methodLinkNest "MudWalls" 95 ⟨"MudWalls$Bricks", "<init>", "()V"⟩ "MudWalls") U ∧ va_Nw (.methodLinkNest "MudWalls" 102 ⟨"MudWalls$Houses", "<init>", "()V"⟩ "MudWalls") U) ∧ va_Nw (.castable "java/lang/IllegalArgumentException" "java/lang/IllegalArgumentException") U ∧ va_Nw (.castable "java/util/NoSuchElementException" "java/util/NoSuchElementException") U) ∧ (va_Z "jdk/internal/util/Preconditions" "SIOOBE_FORMATTER" "Ljava/util/function/BiFunction;" .null (AE E) U U.heap ∨ va_Z "jdk/internal/util/Preconditions" "SIOOBE_FORMATTER" "Ljava/util/function/BiFunction;" (.ref (E.2.2.1 200)) (AE E) U U.heap)
theorem KX.moved {E : VE} {s U : State} (h : KX E s) (hW : s.WarmedH U.vm) (hz : s.heap.size ≤ U.heap.size) (hk : ∀ a : Nat, a < s.heap.size → ¬ AE E a → U.heap[a]? = s.heap[a]?) : KX E U := by
  obtain ⟨h1, h2, h3, h4, h5, h6, h7, h8, h9⟩ := h
  refine ⟨Nat.le_trans h1 hz, va_K.moved hW.alike h2, fun q hq => vk_R.warm hW (h3 q hq), fun i hi => ?_, vx_Zq.moved hW.alike (h5.kept hk), vx_Zq.moved hW.alike (h6.kept hk), va_Z.moved hW.alike (h7.kept hk), ⟨va_Nc.moved hW.alike h8.1, va_AO.moved hW.alike h8.2.1, ⟨va_Nw.warmM hW h8.2.2.1.1, va_Nw.warmM hW h8.2.2.1.2.1, va_Nw.warmM hW h8.2.2.1.2.2⟩, va_Nw.warmC hW h8.2.2.2.1, va_Nw.warmC hW h8.2.2.2.2⟩, h9.elim (fun h => Or.inl (va_Z.moved hW.alike (h.kept hk))) (fun h => Or.inr (va_Z.moved hW.alike (h.kept hk)))⟩
  obtain ⟨r1, r2, r3, r4⟩ := h4 i hi
  exact ⟨va_O.moved hW.alike (r1.kept hk), va_OF.moved hW.alike (r2.kept hk), va_OF.moved hW.alike (r3.kept hk), va_T.moved hW.alike (r4.kept hk)⟩
/-- where a method is walked: its owner, its bytes, its locals, how deep calls may go -/
def CX (k : MC) (E : VE) (md : MD) (d mc ms : Nat) : Prop :=
  k.1.tables.exec = Jvm.exec ∧ (kC k).code = md.2.1 ∧ (kC k).maxLocals = md.2.2.1 ∧ (kS k).vm.findClass md.1.cls = some (kM k).cls ∧ (∀ w ∈ TB, w.before (kA k) (kS k) = true) ∧ KX E (kS k) ∧
  (kMe k).locks = false ∧ (kMe k).sig.returnType = md.2.2.2 ∧ (kMe k).name = md.1.name ∧ k.2.1.stackTraces = false ∧ (md.1.cls = "MudWallsLaw" ∨ ∀ x ∈ (kC k).exceptionTable.toList, False) ∧
  (kR k).frames = d ∧ (kR k).cells = mc ∧ (kR k).slots = ms ∧ 40 * d ≤ (kR k).locals
/-- the machine at a place of the method, with these numbers in the world, comes to Q -/
def PT (k : MC) (E : VE) (Q : State → Prop) (cm sm : Nat) (Sh : Nat → SE) (N : Nat) (G : Bool) (M : MM) (pc : Nat) (L : List (Option Value)) (st : List Value) : Prop :=
  ∀ (ls : Array Slot) (H : Heap) (locs : List Loc) (cells slots : Nat), LR E L ls → HR E Sh N G M H → va_S (AE E) (kS k).heap H locs → cells + cm ≤ (kR k).cells → slots + sm ≤ (kR k).slots →
    W k.1 k.2.1 k.2.2.1 (kR k) (kS k) (kM k) (kA k) (kB k) (kMe k) (kC k) H locs cells slots Q (F0 (kM k) pc ls (st.map (cv E)))
def QC (E : VE) (G : Bool) (Post : Option Value → (Nat → SE) → Nat → MM → Prop) : Array Value → State → Outcome → State → Prop := fun _ st o t =>
  (∃ r Sh N M, o = .returned (r.map (cv E)) ∧ Post r Sh N M ∧ HR E Sh N G M t.heap) ∧ va_F (AE E) st t
def XF (E : VE) (PX : String → Prop) (Sh : Nat → SE) (N : Nat) (M : MM) : String → State → State → Prop := fun X st t => PX X ∧ HR E Sh N false M t.heap ∧ va_F (AE E) st t
/-- a method's contract, at these arguments and these numbers -/
def Con (E : VE) (md : MD) (d mc ms : Nat) (av : List Value) (Sh : Nat → SE) (N : Nat) (G : Bool) (M : MM) (Post : Option Value → (Nat → SE) → Nat → MM → Prop) (PX : String → Prop) : Prop :=
  ∀ l : Launch, l.stackTraces = false → vx_Met l md.1 (Cond.code md.1 md.2.1 md.2.2.1 md.2.2.2 :: TB) { frames := d, cells := mc, slots := ms, locals := 40 * d }
    (va_Pc (av.map (cv E)) (fun U => HR E Sh N G M U.heap ∧ KX E U)) (QC E G Post) (XF E PX Sh N M) mc ms (AE E)
/-- what a method owes at its end -/
abbrev QM (k : MC) (E : VE) (mc ms : Nat) (Sh : Nat → SE) (N : Nat) (G : Bool) (M : MM) (Post : Option Value → (Nat → SE) → Nat → MM → Prop) (PX : String → Prop) : State → Prop :=
  vx_MQ (kB k) (QC E G Post) (XF E PX Sh N M) (kA k) (kS k) mc ms (AE E)
theorem sl_one (E : VE) : ∀ (av : List Value), (∀ v ∈ av, v.category = 1) → lg_sl (av.map (cv E)) = av.map (fun v => Slot.val (cv E v))
  | [], _ => by simp [lg_sl]
  | v :: t, h => by
    have ih := sl_one E t (fun w hw => h w (List.mem_cons_of_mem _ hw))
    have hv := h v List.mem_cons_self
    cases v <;> first | (simp [Value.category] at hv; done) | (simp [lg_sl, cv, Value.category] at ih ⊢; first | exact ih | simp [ih])
theorem LR.entry (E : VE) (av : List Value) (n : Nat) (h1 : ∀ v ∈ av, v.category = 1) (hn : av.length ≤ n) :
    LR E (av.map some ++ List.replicate (n - av.length) none) ((lg_sl (av.map (cv E)) ++ List.replicate (n - (lg_sl (av.map (cv E))).length) Slot.unset).toArray) := by
  have e := sl_one E av h1
  have el : (lg_sl (av.map (cv E))).length = av.length := by rw [e]; simp
  have h := lv_entry (av.map (cv E)) (n := n) (by rw [el]; exact hn)
  refine ⟨by rw [h.1]; simp; omega, h.2.1, fun i v hv => ?_⟩
  by_cases hi : i < av.length
  · rw [List.getElem?_append_left (by simp; exact hi)] at hv
    simp [hi] at hv
    refine ⟨by rw [← hv]; exact h1 _ (List.getElem_mem hi), ?_⟩
    rw [e]
    show (List.map (fun v => Slot.val (cv E v)) av ++ List.replicate _ Slot.unset).toArray[i]? = _
    rw [List.getElem?_toArray, List.getElem?_append_left (by simp; exact hi)]
    simp [hi, hv]
  · rw [List.getElem?_append_right (by simp; omega)] at hv
    simp [List.getElem?_replicate] at hv
/-- a contract out of the walk of its body -/
theorem Con.of {E : VE} {md : MD} {d mc ms : Nat} {av : List Value} {Sh : Nat → SE} {N : Nat} {G : Bool} {M : MM} {Post : Option Value → (Nat → SE) → Nat → MM → Prop} {PX : String → Prop}
    (hy : plainName md.1.cls = true) (h1 : ∀ v ∈ av, v.category = 1) (hn : av.length ≤ md.2.2.1)
    (body : ∀ k : MC, CX k E md d mc ms → PT k E (QM k E mc ms Sh N G M Post PX) mc ms Sh N G M 0 (av.map some ++ List.replicate (md.2.2.1 - av.length) none) []) : Con E md d mc ms av Sh N G M Post PX := by
  intro l hl
  refine vx_ofW (cc := md.2.1) (maxL := md.2.2.1) (ret := md.2.2.2) hy rfl ?_
  intro p e s m args below meth c s₁ B hml hex hv
  obtain ⟨rfl, hH, hK⟩ := hv
  have hts : ∀ w ∈ TB, w.before (av.map (cv E)).toArray s = true := fun w hw => atoms_spec (ws := Cond.code md.1 md.2.1 md.2.2.1 md.2.2.2 :: TB) B.pre w (List.mem_cons_of_mem _ hw)
  have hC : CX (p, l, e, { frames := d, cells := mc, slots := ms, locals := 40 * d }, s, m, (av.map (cv E)).toArray, below, meth, c) E md d mc ms :=
    ⟨B.exec, B.bytes, hml, findClass_of_methodNamed B.named, hts, hK, B.notSynchronized, B.returns, (name_of_methodNamed B.named B.method).1, hl, Or.inr hex, rfl, rfl, rfl, Nat.le_refl _⟩
  have hb := body _ hC
  rw [lg_entry_eq]
  exact hb _ s.heap [] 0 0 (LR.entry E av md.2.2.1 h1 hn) hH va_S.rf (by show 0 + mc ≤ mc; omega) (by show 0 + ms ≤ ms; omega)
end JUDGE
