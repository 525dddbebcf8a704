section CELLS
/-- what a cell of the world is -/
def At (Sh : Nat → SE) (N o : Nat) (e : SE) : Prop := o < N ∧ Sh o = e
def shUp (Sh : Nat → SE) (o : Nat) (e : SE) : Nat → SE := fun k => if k = o then e else Sh k
theorem At.same {Sh : Nat → SE} {N o : Nat} {e : SE} (h : o < N) : At (shUp Sh o e) N o e := ⟨h, by simp [shUp]⟩
theorem At.else {Sh : Nat → SE} {N o p : Nat} {e e' : SE} (h : At Sh N o e) (hn : o ≠ p) : At (shUp Sh p e') N o e := ⟨h.1, by simp [shUp, hn, h.2]⟩
variable {k : MC} {E : VE} {md : MD} {kd : List (Nat × Instr × Nat)} {d mc ms : Nat} {Q : State → Prop} {cm sm : Nat} {Sh : Nat → SE} {N : Nat} {G : Bool} {M : MM} {pc : Nat} {L : List (Option Value)} {st : List Value}
theorem r_getf (C : CK k E md kd d mc ms) {idx o ci j : Nat} {t : FieldType} {fin : Option Bool} {fl : List (Option Value)} {x : Option Value} (hd : cod kd pc = some (.getfield idx, 3)) (F : FL md.1.cls idx ci j t fin) (ho : At Sh N o (.inr (ci, fl))) (hf : fl[j]? = some x)
    (kk : ∀ (ls : Array Slot) (H : Heap) (locs : List Loc) (cells slots : Nat), LR E L ls → HR E Sh N G M H → va_S (AE E) (kS k).heap H locs → cells + cm ≤ (kR k).cells → slots + sm ≤ (kR k).slots →
    W k.1 k.2.1 k.2.2.1 (kR k) (kS k) (kM k) (kA k) (kB k) (kMe k) (kC k) H locs cells slots Q (F0 (kM k) (pc + 3) ls (fv E (M o) j x :: st.map (cv E)))) : PT k E Q cm sm Sh N G M pc L (.ref o :: st) := by
  intro ls H locs cells slots hL hH hS hc hs
  obtain ⟨q, ty, ⟨f1, f2, f3, f4⟩, f5, f6, f7, f8, f9⟩ := F
  have hcell := hH.at ho.1
  rw [ho.2] at hcell
  obtain ⟨r, h1, cell, q1, q2, q3, q4⟩ := hcell
  have hr : r = q := Option.some.inj (h1.symm.trans f1)
  subst hr
  obtain ⟨hSl, hfc, kC', hkC, hkind⟩ := C.va.1 ci _ f1
  obtain ⟨cf, kf, fi, f, hi, hsl⟩ := hSl j f5
  refine W.getf C.x C.b C.own (C.ts _ f9) hi (u_facts hfc hkC (u_lays C.ts f2 f5) hi).1 q1 (by rw [q3]; exact fun h => by cases h) (v := fv E (M o) j x) ?_ rfl rfl (C.dec hd) (kk ls H locs cells slots hL hH hS hc hs)
  rw [hsl, q4 j f5]
  have h9 : (repF E (M o) 0 fl)[j]? = some (fv E (M o) j x) := by rw [repF_get, hf, Nat.zero_add]; rfl
  simp [vp_V, h9]
/-- a field that holds a number -/
theorem r_geti (C : CK k E md kd d mc ms) {idx o ci j : Nat} {t : FieldType} {fin : Option Bool} {fl : List (Option Value)} (hd : cod kd pc = some (.getfield idx, 3)) (F : FL md.1.cls idx ci j t fin) (ho : At Sh N o (.inr (ci, fl))) (hf : fl[j]? = some none)
    (kk : PT k E Q cm sm Sh N G M (pc + 3) L (.int (M o j) :: st)) : PT k E Q cm sm Sh N G M pc L (.ref o :: st) := r_getf C hd F ho hf kk
/-- a field that holds a fixed value -/
theorem r_getv (C : CK k E md kd d mc ms) {idx o ci j : Nat} {t : FieldType} {fin : Option Bool} {fl : List (Option Value)} {v : Value} (hd : cod kd pc = some (.getfield idx, 3)) (F : FL md.1.cls idx ci j t fin) (ho : At Sh N o (.inr (ci, fl))) (hf : fl[j]? = some (some v))
    (kk : PT k E Q cm sm Sh N G M (pc + 3) L (v :: st)) : PT k E Q cm sm Sh N G M pc L (.ref o :: st) := r_getf C hd F ho hf kk
/-- a field is written: what the cell becomes -/
theorem r_putc (C : CK k E md kd d mc ms) {idx o ci j : Nat} {t : FieldType} {fin : Option Bool} {fl fl' : List (Option Value)} {m' : Nat → Int32} {v : Value} (hd : cod kd pc = some (.putfield idx, 3)) (F : FL md.1.cls idx ci j t fin) (hf0 : fin ≠ none) (hfin : fin = some true → md.1.name = "<init>") (ho : At Sh N o (.inr (ci, fl))) (hl : j < fl.length) (hn : narrow t (cv E v) = cv E v) (hfit : fits t (cv E v) = true)
    (hnew : (repF E (M o) 0 fl).set j (cv E v) = repF E m' 0 fl') {Sh' : Nat → SE} {M' : MM} (hS1 : Sh' o = .inr (ci, fl')) (hM1 : M' o = m') (hS2 : ∀ i, i ≠ o → Sh' i = Sh i) (hM2 : ∀ i, i ≠ o → M' i = M i)
    (kk : PT k E Q cm sm Sh' N G M' (pc + 3) L st) : PT k E Q cm sm Sh N G M pc L (v :: .ref o :: st) := by
  intro ls H locs cells slots hL hH hS hc hs
  obtain ⟨q, ty, ⟨f1, f2, f3, f4⟩, f5, f6, f7, f8, f9⟩ := F
  have hap := va_apart (own := md.1.cls) (tys := tysOf E) C.ts f2 ty f3 f4 C.va f1
  have hcell := hH.at ho.1
  rw [ho.2] at hcell
  obtain ⟨r, h1, cell, q1, q2, q3, q4⟩ := hcell
  have hr : r = q := Option.some.inj (h1.symm.trans f1)
  subst hr
  obtain ⟨hSl, hfc, kC', hkC, hkind⟩ := C.va.1 ci _ f1
  obtain ⟨cf, kf, fi, f, hi, hsl⟩ := hSl j f5
  have hst := (u_facts hfc hkC (u_lays C.ts f2 f5) hi).1
  have hd2 : parseFieldDescriptor (r.2.1 j).2.2.1 = some t := by rw [f3 j f5, f6]
  have fin2 : ∀ H' : Heap, H'[E.2.1 + o]? = some (cell.setSlot f.slot (cv E v)) → H'.size = H.size → (∀ z, z ≠ E.2.1 + o → H'[z]? = H[z]?) →
      W k.1 k.2.1 k.2.2.1 (kR k) (kS k) (kM k) (kA k) (kB k) (kMe k) (kC k) H' (locs ++ [⟨E.2.1 + o, f.slot⟩]) cells slots Q (F0 (kM k) (pc + 3) ls (st.map (cv E))) := by
    intro H' e1 e2 e3
    rw [hsl] at e1 ⊢
    have hl2 : j < (repF E (M o) 0 fl).length := by rw [repF_len]; exact hl
    have hat : va_at E.1 vwCl (E.2.1 + o, .inr (ci, (repF E (M o) 0 fl).set j (cv E v))) H' := ⟨_, f1, t_OB.to (V := updV (vp_V (repF E (M o) 0 fl)) j (cv E v)) ⟨_, e1, q2, q3, t_set q4 hap f5 (cv E v)⟩ (fun i _ => vp_updV_set hl2 (cv E v) i)⟩
    rw [hnew] at hat
    exact kk ls H' _ cells slots hL (hH.put o (by rw [hS1, hM1]; exact hat) hS2 hM2 e2 e3) (hS.put e2 e3 (Nat.le_add_right _ _)) hc hs
  have hlay := C.ts _ (f2 _ (u_in_lay f5))
  unfold u_lay at hlay
  match fin, hf0, f7, f8, hfin with
  | none, hf0, _, _, _ => exact (hf0 rfl).elim
  | some false, _, f7, f8, hfin =>
    rw [if_neg (by rw [f7 false rfl]; decide)] at hlay
    have h6 := u_store (v := cv E v) hfc hkC hkind hlay hi hd2 hn hfit
    exact W.putK C.x C.b (f := f) ⟨C.own, C.ts _ f9, ⟨_, _, _, hi⟩, hst⟩ (by rw [q2]; exact h6) q1 q3 (by rw [hsl]; exact k2_hasslot (q4 j f5)) rfl rfl (C.dec hd) fin2
  | some true, _, f7, f8, hfin =>
    rw [if_pos (f7 true rfl)] at hlay
    have hcf : (kM k).cls = cf := by
      obtain ⟨_, _, c', _, _, _, -, -, hf', -, -, -, hown2, -⟩ := Cond.laysFinal_spec hlay
      have e1 : c' = cf := by have := hi.symm.trans hf'; simp at this; exact this.1.symm
      rw [f8 rfl] at hown2
      rw [← e1]; exact Option.some.inj (C.own.symm.trans hown2)
    have h6 := u_fits (v := cv E v) hfc hkC hkind (Or.inr hlay) hi hd2 hn hfit
    exact W.putFinK C.x C.b C.own (C.ts _ f9) hi hst hcf (by rw [C.nm]; exact hfin rfl) (by rw [q2]; exact h6) q1 q3 (by rw [hsl]; exact k2_hasslot (q4 j f5)) rfl rfl (C.dec hd) fin2
/-- a number is written into a field -/
theorem r_puti (C : CK k E md kd d mc ms) {idx o ci j : Nat} {t : FieldType} {fl : List (Option Value)} {v : Int32} (hd : cod kd pc = some (.putfield idx, 3)) (F : FL md.1.cls idx ci j t (some false)) (ho : At Sh N o (.inr (ci, fl))) (hf : fl[j]? = some none) (hn : narrow t (.int v) = .int v) (hfit : fits t (.int v) = true)
    (kk : PT k E Q cm sm Sh N G (up M o j v) (pc + 3) L st) : PT k E Q cm sm Sh N G M pc L (.int v :: .ref o :: st) :=
  r_putc (v := .int v) C hd F (fun h => by cases h) (fun h => by cases h) ho (List.getElem?_eq_some_iff.mp hf).1 hn hfit (repF_setI E (M o) fl v hf) ho.2 (up_own M o j v) (fun _ _ => rfl) (fun _ h => up_row M v h) kk
/-- a fixed value is written into a field -/
theorem r_putv (C : CK k E md kd d mc ms) {idx o ci j : Nat} {t : FieldType} {fin : Option Bool} {fl : List (Option Value)} {v : Value} (hd : cod kd pc = some (.putfield idx, 3)) (F : FL md.1.cls idx ci j t fin) (hf0 : fin ≠ none) (hfin : fin = some true → md.1.name = "<init>") (ho : At Sh N o (.inr (ci, fl))) (hl : j < fl.length) (hn : narrow t (cv E v) = cv E v) (hfit : fits t (cv E v) = true)
    (kk : PT k E Q cm sm (shUp Sh o (.inr (ci, fl.set j (some v)))) N G M (pc + 3) L st) : PT k E Q cm sm Sh N G M pc L (v :: .ref o :: st) :=
  r_putc (v := v) C hd F hf0 hfin ho hl hn hfit (repF_setV E (M o) fl v hl) (by simp [shUp]) rfl (fun i h => by simp [shUp, h]) (fun _ _ => rfl) kk
/-- arrays of numbers: kind 0 ints, 1 bytes, 2 booleans -/
abbrev arE (t n : Nat) : SE := .inl (t, n, none)
theorem ar_at {o t n : Nat} {H : Heap} (ho : At Sh N o (arE t n)) (ht : t ≠ 3) (hH : HR E Sh N G M H) : H[E.2.1 + o]? = some (arrV (E.2.2.2 t) n (fun j => .int (M o j))) := by
  have hcell := hH.at ho.1
  rw [ho.2] at hcell
  have h2 : repE E (arE t n) (M o) = .inl (E.2.2.2 t, n, .inl (M o)) := by simp [repE, ht]
  rw [h2] at hcell
  exact hcell
theorem ar_ty0 (C : CK k E md kd d mc ms) (n : Nat) (z : Nat → Value) : (kS k).isArrayOf (arrV (E.2.2.2 0) n z) .int := (C.va.2 0 _ rfl).1 n z
theorem ar_ty1 (C : CK k E md kd d mc ms) (n : Nat) (z : Nat → Value) : (kS k).isArrayOf (arrV (E.2.2.2 1) n z) .byte := (C.va.2 1 _ rfl).1 n z
theorem ar_ty2 (C : CK k E md kd d mc ms) (n : Nat) (z : Nat → Value) : (kS k).isArrayOf (arrV (E.2.2.2 2) n z) .boolean := (C.va.2 2 _ rfl).1 n z
theorem ar_ty3 (C : CK k E md kd d mc ms) (n : Nat) (z : Nat → Value) : (kS k).isArrayOf (arrV (E.2.2.2 3) n z) .long := (C.va.2 3 _ rfl).1 n z
theorem ar_ty4 (C : CK k E md kd d mc ms) (n : Nat) (z : Nat → Value) : (kS k).isArrayOf (arrV (E.2.2.2 4) n z) (.object "MudWalls$Wall") := (C.va.2 4 _ rfl).1 n z
theorem r_iald (C : CK k E md kd d mc ms) {o n : Nat} {i : Int32} (hd : cod kd pc = some (.iaload, 1)) (ho : At Sh N o (arE 0 n)) (j : Nat) (hj : i = nI j) (hjn : j < n) (hn : n < 2 ^ 31) (kk : PT k E Q cm sm Sh N G M (pc + 1) L (.int (M o j) :: st)) : PT k E Q cm sm Sh N G M pc L (.int i :: .ref o :: st) := by
  intro ls H locs cells slots hL hH hS hc hs
  subst hj
  have hjc : (nI j).toNatClampNeg = j := nI_clamp (by omega)
  exact W.iald (v := .int (M o j)) C.x C.b (ar_at ho (by decide) hH) (ar_ty0 C _ _) (fun q => by cases q) (by rw [arrV_size]; exact nI_in hjn hn) (by rw [hjc, arrV_read _ _ hjn]) rfl rfl (C.dec hd) (kk ls H locs cells slots hL hH hS hc hs)
theorem r_bald (C : CK k E md kd d mc ms) {o n : Nat} {i : Int32} (hd : cod kd pc = some (.baload, 1)) (ho : At Sh N o (arE 1 n)) (j : Nat) (hj : i = nI j) (hjn : j < n) (hn : n < 2 ^ 31) (kk : PT k E Q cm sm Sh N G M (pc + 1) L (.int (M o j) :: st)) : PT k E Q cm sm Sh N G M pc L (.int i :: .ref o :: st) := by
  intro ls H locs cells slots hL hH hS hc hs
  subst hj
  have hjc : (nI j).toNatClampNeg = j := nI_clamp (by omega)
  exact W.bald (v := .int (M o j)) C.x C.b (ar_at ho (by decide) hH) (ar_ty1 C _ _) (fun q => by cases q) (by rw [arrV_size]; exact nI_in hjn hn) (by rw [hjc, arrV_read _ _ hjn]) rfl rfl (C.dec hd) (kk ls H locs cells slots hL hH hS hc hs)
theorem r_zald (C : CK k E md kd d mc ms) {o n : Nat} {i : Int32} (hd : cod kd pc = some (.baload, 1)) (ho : At Sh N o (arE 2 n)) (j : Nat) (hj : i = nI j) (hjn : j < n) (hn : n < 2 ^ 31) (kk : PT k E Q cm sm Sh N G M (pc + 1) L (.int (M o j) :: st)) : PT k E Q cm sm Sh N G M pc L (.int i :: .ref o :: st) := by
  intro ls H locs cells slots hL hH hS hc hs
  subst hj
  have hjc : (nI j).toNatClampNeg = j := nI_clamp (by omega)
  exact W.zald (v := .int (M o j)) C.x C.b (ar_at ho (by decide) hH) (ar_ty2 C _ _) (fun q => by cases q) (by rw [arrV_size]; exact nI_in hjn hn) (by rw [hjc, arrV_read _ _ hjn]) rfl rfl (C.dec hd) (kk ls H locs cells slots hL hH hS hc hs)
theorem ar_new {o t n j : Nat} {v : Int32} {H H' : Heap} (ho : At Sh N o (arE t n)) (ht : t ≠ 3) (hH : HR E Sh N G M H) (hj : j < n) (e : H'[E.2.1 + o]? = some ((arrV (E.2.2.2 t) n (fun j => .int (M o j))).setSlot j (.int v))) (z : H'.size = H.size) (oq : ∀ q : Nat, q ≠ E.2.1 + o → H'[q]? = H[q]?) : HR E Sh N G (up M o j v) H' := by
  refine hH.put o ?_ (fun _ _ => rfl) (fun _ h => up_row M v h) z oq
  rw [ho.2, up_own]
  have h2 : repE E (arE t n) (upd (M o) j v) = .inl (E.2.2.2 t, n, .inl (upd (M o) j v)) := by simp [repE, ht]
  rw [h2]
  show H'[E.2.1 + o]? = some (vp_cell _ _)
  rw [e, vp_cell_i, arrV_store]
  congr 2
  funext q
  by_cases hq : q = j
  · subst hq
    simp [updV, upd]
  · simp [updV, upd, hq]
theorem r_iast (C : CK k E md kd d mc ms) {o n : Nat} {i v : Int32} (hd : cod kd pc = some (.iastore, 1)) (ho : At Sh N o (arE 0 n)) (j : Nat) (hj : i = nI j) (hjn : j < n) (hn : n < 2 ^ 31) (kk : PT k E Q cm sm Sh N G (up M o j v) (pc + 1) L st) : PT k E Q cm sm Sh N G M pc L (.int v :: .int i :: .ref o :: st) := by
  intro ls H locs cells slots hL hH hS hc hs
  subst hj
  have hjc : (nI j).toNatClampNeg = j := nI_clamp (by omega)
  refine W.iast C.x C.b (ar_at ho (by decide) hH) (ar_ty0 C _ _) (fun q => by cases q) (by rw [arrV_size]; exact nI_in hjn hn) rfl rfl (C.dec hd) fun H1 e z oq => ?_
  rw [hjc] at e ⊢
  exact kk ls H1 _ cells slots hL (ar_new ho (by decide) hH hjn e z oq) (hS.put z oq (Nat.le_add_right _ _)) hc hs
/-- the length of an array of numbers -/
theorem r_alen (C : CK k E md kd d mc ms) {o t n : Nat} (hd : cod kd pc = some (.arraylength, 1)) (ho : At Sh N o (arE t n)) (ht : t < 3) (kk : PT k E Q cm sm Sh N G M (pc + 1) L (.int (nI n) :: st)) : PT k E Q cm sm Sh N G M pc L (.ref o :: st) := by
  intro ls H locs cells slots hL hH hS hc hs
  have hcell := ar_at ho (by omega) hH
  rcases (show t = 0 ∨ t = 1 ∨ t = 2 by omega) with rfl | rfl | rfl
  · exact W.alen (n := nI n) C.x C.b hcell (ar_ty0 C _ _) (by rw [arrV_size]; rfl) rfl rfl (C.dec hd) (kk ls H locs cells slots hL hH hS hc hs)
  · exact W.alen (n := nI n) C.x C.b hcell (ar_ty1 C _ _) (by rw [arrV_size]; rfl) rfl rfl (C.dec hd) (kk ls H locs cells slots hL hH hS hc hs)
  · exact W.alen (n := nI n) C.x C.b hcell (ar_ty2 C _ _) (by rw [arrV_size]; rfl) rfl rfl (C.dec hd) (kk ls H locs cells slots hL hH hS hc hs)
end CELLS
