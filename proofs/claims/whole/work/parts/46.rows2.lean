section ROWS2
variable {k : MC} {E : VE} {md : MD} {kd : List (Nat × Instr × Nat)} {d mc ms : Nat} {Q : State → Prop} {cm sm : Nat} {Sh : Nat → SE} {N : Nat} {G : Bool} {M : MM} {pc : Nat} {L : List (Option Value)} {st : List Value}
/-- an array of walls -/
abbrev arW (n : Nat) (f : Nat → Option Nat) : SE := .inl (4, n, some f)
theorem aw_at {o n : Nat} {f : Nat → Option Nat} {H : Heap} (ho : At Sh N o (arW n f)) (hH : HR E Sh N G M H) : H[E.2.1 + o]? = some (arrV (E.2.2.2 4) n (fun j => va_rf ((f j).map (fun x => E.2.1 + x)))) := by
  have hcell := hH.at ho.1
  rw [ho.2] at hcell
  exact hcell
theorem r_aald (C : CK k E md kd d mc ms) {o n x : Nat} {f : Nat → Option Nat} {i : Int32} (hd : cod kd pc = some (.aaload, 1)) (ho : At Sh N o (arW n f)) (j : Nat) (hj : i = nI j) (hjn : j < n) (hn : n < 2 ^ 31) (hf : f j = some x) (kk : PT k E Q cm sm Sh N G M (pc + 1) L (.ref x :: st)) : PT k E Q cm sm Sh N G M pc L (.int i :: .ref o :: st) := by
  intro ls H locs cells slots hL hH hS hc hs
  subst hj
  have hjc : (nI j).toNatClampNeg = j := nI_clamp (by omega)
  refine W.aald (v := .ref (E.2.1 + x)) (ty := .object "MudWalls$Wall") C.x C.b (aw_at ho hH) (ar_ty4 C _ _) rfl (fun q => by cases q) (by rw [arrV_size]; exact nI_in hjn hn) ?_ rfl rfl (C.dec hd) (kk ls H locs cells slots hL hH hS hc hs)
  rw [hjc, arrV_read _ _ hjn, hf]
  rfl
theorem r_alen4 (C : CK k E md kd d mc ms) {o n : Nat} {f : Nat → Option Nat} (hd : cod kd pc = some (.arraylength, 1)) (ho : At Sh N o (arW n f)) (kk : PT k E Q cm sm Sh N G M (pc + 1) L (.int (nI n) :: st)) : PT k E Q cm sm Sh N G M pc L (.ref o :: st) := by
  intro ls H locs cells slots hL hH hS hc hs
  exact W.alen (n := nI n) C.x C.b (aw_at ho hH) (ar_ty4 C _ _) (by rw [arrV_size]; rfl) rfl rfl (C.dec hd) (kk ls H locs cells slots hL hH hS hc hs)
theorem r_bast (C : CK k E md kd d mc ms) {o n : Nat} {i v : Int32} (hd : cod kd pc = some (.bastore, 1)) (ho : At Sh N o (arE 1 n)) (j : Nat) (hj : i = nI j) (hjn : j < n) (hn : n < 2 ^ 31) (hv : narrow .byte (.int v) = .int v) (kk : PT k E Q cm sm Sh N G (up M o j v) (pc + 1) L st) : PT k E Q cm sm Sh N G M pc L (.int v :: .int i :: .ref o :: st) := by
  intro ls H locs cells slots hL hH hS hc hs
  subst hj
  have hjc : (nI j).toNatClampNeg = j := nI_clamp (by omega)
  refine W.bast C.x C.b (ar_at ho (by decide) hH) (ar_ty1 C _ _) (fun q => by cases q) (by rw [arrV_size]; exact nI_in hjn hn) rfl rfl (C.dec hd) fun H1 e z oq => ?_
  rw [hjc, hv] at e
  rw [hjc]
  exact kk ls H1 _ cells slots hL (ar_new ho (by decide) hH hjn e z oq) (hS.put z oq (Nat.le_add_right _ _)) hc hs
theorem r_zast (C : CK k E md kd d mc ms) {o n : Nat} {i v : Int32} (hd : cod kd pc = some (.bastore, 1)) (ho : At Sh N o (arE 2 n)) (j : Nat) (hj : i = nI j) (hjn : j < n) (hn : n < 2 ^ 31) (hv : narrow .boolean (.int v) = .int v) (kk : PT k E Q cm sm Sh N G (up M o j v) (pc + 1) L st) : PT k E Q cm sm Sh N G M pc L (.int v :: .int i :: .ref o :: st) := by
  intro ls H locs cells slots hL hH hS hc hs
  subst hj
  have hjc : (nI j).toNatClampNeg = j := nI_clamp (by omega)
  refine W.zast C.x C.b (ar_at ho (by decide) hH) (ar_ty2 C _ _) (fun q => by cases q) (by rw [arrV_size]; exact nI_in hjn hn) rfl rfl (C.dec hd) fun H1 e z oq => ?_
  rw [hjc, hv] at e
  rw [hjc]
  exact kk ls H1 _ cells slots hL (ar_new ho (by decide) hH hjn e z oq) (hS.put z oq (Nat.le_add_right _ _)) hc hs
theorem al_at {o n : Nat} {H : Heap} (ho : At Sh N o (arE 3 n)) (hH : HR E Sh N G M H) : H[E.2.1 + o]? = some (arrV (E.2.2.2 3) n (fun j => .long (M o j).toInt64)) := by
  have hcell := hH.at ho.1
  rw [ho.2] at hcell
  exact hcell
theorem r_lald (C : CK k E md kd d mc ms) {o n : Nat} {i : Int32} (hd : cod kd pc = some (.laload, 1)) (ho : At Sh N o (arE 3 n)) (j : Nat) (hj : i = nI j) (hjn : j < n) (hn : n < 2 ^ 31) (kk : PT k E Q cm sm Sh N G M (pc + 1) L (.long (M o j).toInt64 :: st)) : PT k E Q cm sm Sh N G M pc L (.int i :: .ref o :: st) := by
  intro ls H locs cells slots hL hH hS hc hs
  subst hj
  have hjc : (nI j).toNatClampNeg = j := nI_clamp (by omega)
  exact W.lald (v := .long (M o j).toInt64) C.x C.b (al_at ho hH) (ar_ty3 C _ _) (fun q => by cases q) (by rw [arrV_size]; exact nI_in hjn hn) (by rw [hjc, arrV_read _ _ hjn]) rfl rfl (C.dec hd) (kk ls H locs cells slots hL hH hS hc hs)
theorem r_last (C : CK k E md kd d mc ms) {o n : Nat} {i v : Int32} (hd : cod kd pc = some (.lastore, 1)) (ho : At Sh N o (arE 3 n)) (j : Nat) (hj : i = nI j) (hjn : j < n) (hn : n < 2 ^ 31) (kk : PT k E Q cm sm Sh N G (up M o j v) (pc + 1) L st) : PT k E Q cm sm Sh N G M pc L (.long v.toInt64 :: .int i :: .ref o :: st) := by
  intro ls H locs cells slots hL hH hS hc hs
  subst hj
  have hjc : (nI j).toNatClampNeg = j := nI_clamp (by omega)
  refine W.last C.x C.b (al_at ho hH) (ar_ty3 C _ _) (fun q => by cases q) (by rw [arrV_size]; exact nI_in hjn hn) rfl rfl (C.dec hd) fun H1 e z oq => ?_
  rw [hjc] at e ⊢
  refine kk ls H1 _ cells slots hL ?_ (hS.put z oq (Nat.le_add_right _ _)) hc hs
  refine hH.put o ?_ (fun _ _ => rfl) (fun _ h => up_row M v h) z oq
  rw [ho.2, up_own]
  show H1[E.2.1 + o]? = some (arrV (E.2.2.2 3) n (fun j => .long (upd (M o) _ v j).toInt64))
  rw [e, arrV_store]
  congr 2
  funext q
  by_cases hq : q = j
  · subst hq
    simp [updV, upd]
  · simp [updV, upd, hq]
end ROWS2
