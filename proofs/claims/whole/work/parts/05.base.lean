section BASE
/-- the machine that walks a method: program, launch, environment, room, start, method, arguments, frames below, method, code -/
abbrev MC : Type := Program × Launch × Env × Room × State × MethodId × Array Value × List Frame × Method × Code
abbrev kR (k : MC) : Room := k.2.2.2.1
abbrev kS (k : MC) : State := k.2.2.2.2.1
abbrev kM (k : MC) : MethodId := k.2.2.2.2.2.1
abbrev kA (k : MC) : Array Value := k.2.2.2.2.2.2.1
abbrev kB (k : MC) : List Frame := k.2.2.2.2.2.2.2.1
abbrev kMe (k : MC) : Method := k.2.2.2.2.2.2.2.2.1
abbrev kC (k : MC) : Code := k.2.2.2.2.2.2.2.2.2
/-- what a cell is: an array (kind, length, references or numbers), or an object (number, fields: a fixed value or a number) -/
abbrev SE : Type := (Nat × Nat × Option (Nat → Option Nat)) ⊕ (Nat × List (Option Value))
/-- the numbers of all cells -/
abbrev MM : Type := Nat → Nat → Int32
/-- slots of the kinds, the first address, the addresses of constants, the array kinds -/
abbrev VE : Type := va_G × Nat × (Nat → Nat) × (Nat → ClassId)
def cv (E : VE) : Value → Value
  | .ref k => .ref (E.2.1 + k)
  | .retAddr i => .ref (E.2.2.1 i)
  | .int x => .int x
  | .long x => .long x
  | .float x => .float x
  | .double x => .double x
  | .null => .null
def fv (E : VE) (m : Nat → Int32) (j : Nat) (o : Option Value) : Value := match o with
  | some v => cv E v
  | none => .int (m j)
def repF (E : VE) (m : Nat → Int32) : Nat → List (Option Value) → List Value
  | _, [] => []
  | j, o :: t => fv E m j o :: repF E m (j + 1) t
def repE (E : VE) (e : SE) (m : Nat → Int32) : va_E := match e with
  | .inl (t, n, none) => if t = 3 then .inl (E.2.2.2 3, n, .inr (.inl (fun j => (m j).toInt64))) else .inl (E.2.2.2 t, n, .inl m)
  | .inl (t, n, some f) => .inl (E.2.2.2 t, n, .inr (.inr (.inr (.inr (fun j => (f j).map (fun x => E.2.1 + x))))))
  | .inr (ci, fl) => .inr (ci, repF E m 0 fl)
def tyA (t : Nat) : FieldType := match t with
  | 0 => .int
  | 1 => .byte
  | 2 => .boolean
  | 3 => .long
  | _ => .object "MudWalls$Wall"
def tysOf (E : VE) : List (ClassId × FieldType) := [(E.2.2.2 0, .int), (E.2.2.2 1, .byte), (E.2.2.2 2, .boolean), (E.2.2.2 3, .long), (E.2.2.2 4, .object "MudWalls$Wall")]
def HR (E : VE) (Sh : Nat → SE) (N : Nat) (G : Bool) (M : MM) (H : Heap) : Prop :=
  E.2.1 + N ≤ H.size ∧ (G = true → H.size = E.2.1 + N) ∧ ∀ k, k < N → va_at E.1 vwCl (E.2.1 + k, repE E (Sh k) (M k)) H
def LR (E : VE) (L : List (Option Value)) (ls : Array Slot) : Prop :=
  ls.size = L.length ∧ lv_wf ls ∧ ∀ (i : Nat) (v : Value), L[i]? = some (some v) → v.category = 1 ∧ ls[i]? = some (.val (cv E v))
/-- what is outside of the world, and never changes -/
abbrev AE (E : VE) : Nat → Prop := fun q => E.2.1 ≤ q
/-- two updates of the numbers -/
def up (M : MM) (k j : Nat) (v : Int32) : MM := fun a b => if a = k ∧ b = j then v else M a b
theorem up_same (M : MM) (k j : Nat) (v : Int32) : up M k j v k j = v := by simp [up]
theorem up_ne (M : MM) {k j a b : Nat} (v : Int32) (h : ¬ (a = k ∧ b = j)) : up M k j v a b = M a b := by simp [up, h]
theorem up_row (M : MM) {k j a : Nat} (v : Int32) (h : a ≠ k) : up M k j v a = M a := by funext b; simp [up, h]
theorem up_own (M : MM) (k j : Nat) (v : Int32) : up M k j v k = upd (M k) j v := by
  funext b
  by_cases h : b = j <;> simp [up, upd, h]
theorem cv_cat (E : VE) (v : Value) : (cv E v).category = v.category := by cases v <;> rfl
theorem repF_get (E : VE) (m : Nat → Int32) : ∀ (fl : List (Option Value)) (i j : Nat), (repF E m i fl)[j]? = (fl[j]?).map (fv E m (i + j))
  | [], i, j => by simp [repF]
  | o :: t, i, 0 => by simp [repF]
  | o :: t, i, j + 1 => by
    have h := repF_get E m t (i + 1) j
    rw [show i + 1 + j = i + (j + 1) by omega] at h
    simpa [repF] using h
theorem repF_len (E : VE) (m : Nat → Int32) : ∀ (fl : List (Option Value)) (i : Nat), (repF E m i fl).length = fl.length
  | [], _ => rfl
  | _ :: t, i => by simp [repF, repF_len E m t (i + 1)]
theorem repF_ext {E : VE} {m m' : Nat → Int32} : ∀ {fl fl' : List (Option Value)} {i : Nat}, fl.length = fl'.length → (∀ j, j < fl.length → (fl[j]?).map (fv E m (i + j)) = (fl'[j]?).map (fv E m' (i + j))) → repF E m i fl = repF E m' i fl' := by
  intro fl fl' i hl h
  apply List.ext_getElem?
  intro j
  rw [repF_get, repF_get]
  by_cases hj : j < fl.length
  · exact h j hj
  · rw [List.getElem?_eq_none (by omega), List.getElem?_eq_none (by omega)]
    rfl
/-- writing a number's field -/
theorem repF_setI (E : VE) (m : Nat → Int32) (fl : List (Option Value)) {j : Nat} (v : Int32) (h : fl[j]? = some none) : (repF E m 0 fl).set j (.int v) = repF E (upd m j v) 0 fl := by
  apply List.ext_getElem?
  intro i
  rw [repF_get, List.getElem?_set]
  have hj : j < fl.length := (List.getElem?_eq_some_iff.mp h).1
  by_cases e : j = i
  · subst e
    rw [h]
    simp [fv, upd, repF_len, hj]
  · rw [if_neg e, repF_get]
    cases hi : fl[i]? with
    | none => rfl
    | some o => cases o <;> simp [fv, upd, Ne.symm e]
/-- writing a field that holds a fixed value -/
theorem repF_setV (E : VE) (m : Nat → Int32) (fl : List (Option Value)) {j : Nat} (w : Value) (hj : j < fl.length) : (repF E m 0 fl).set j (cv E w) = repF E m 0 (fl.set j (some w)) := by
  apply List.ext_getElem?
  intro i
  rw [repF_get, List.getElem?_set, List.getElem?_set]
  by_cases e : j = i
  · subst e
    simp [fv, repF_len, hj]
  · rw [if_neg e, if_neg e, repF_get]
theorem HR.at {E : VE} {Sh : Nat → SE} {N : Nat} {G : Bool} {M : MM} {H : Heap} (h : HR E Sh N G M H) {k : Nat} (hk : k < N) : va_at E.1 vwCl (E.2.1 + k, repE E (Sh k) (M k)) H := h.2.2 k hk
/-- one cell was written -/
theorem HR.put {E : VE} {Sh Sh' : Nat → SE} {N : Nat} {G : Bool} {M M' : MM} {H H1 : Heap} (h : HR E Sh N G M H) (k : Nat) (hc : va_at E.1 vwCl (E.2.1 + k, repE E (Sh' k) (M' k)) H1) (hs : ∀ i, i ≠ k → Sh' i = Sh i) (hm : ∀ i, i ≠ k → M' i = M i) (z : H1.size = H.size) (o : ∀ q : Nat, q ≠ E.2.1 + k → H1[q]? = H[q]?) : HR E Sh' N G M' H1 := by
  refine ⟨by rw [z]; exact h.1, fun g => by rw [z]; exact h.2.1 g, fun i hi => ?_⟩
  by_cases e : i = k
  · rw [e]; exact hc
  · rw [hs i e, hm i e]
    exact (h.2.2 i hi).kept (o _ (by omega))
/-- cells that the world doesn't know of may come -/
theorem HR.grow {E : VE} {Sh : Nat → SE} {N : Nat} {G : Bool} {M : MM} {H H1 : Heap} (h : HR E Sh N G M H) (z : H.size ≤ H1.size) (o : ∀ q : Nat, q < H.size → H1[q]? = H[q]?) : HR E Sh N false M H1 :=
  ⟨Nat.le_trans h.1 z, fun g => (by cases g), fun i hi => (h.2.2 i hi).kept (o _ ((h.2.2 i hi).lt))⟩
theorem HR.loose {E : VE} {Sh : Nat → SE} {N : Nat} {G : Bool} {M : MM} {H : Heap} (h : HR E Sh N G M H) : HR E Sh N false M H := h.grow (Nat.le_refl _) (fun _ _ => rfl)
end BASE
