section MATH
theorem ma_max : Cond.code Lib.Math.max.name Lib.Math.max.code 2 (some .int) ∈ TB := tb1 128 (by decide +kernel) (by decide +kernel)
theorem mt_max : Cond.static Lib.Math.max.name ∈ TB := tb1 127 (by decide +kernel) (by decide +kernel)
theorem ma_min : Cond.code Lib.Math.min.name Lib.Math.min.code 2 (some .int) ∈ TB := tb3 4 (by decide +kernel) (by decide +kernel)
theorem mt_min : Cond.static Lib.Math.min.name ∈ TB := tb3 3 (by decide +kernel) (by decide +kernel)
theorem ma_abs : Cond.code Lib.Math.abs.name Lib.Math.abs.code 1 (some .int) ∈ TB := tb5 226 (by decide +kernel) (by decide +kernel)
theorem mt_abs : Cond.static Lib.Math.abs.name ∈ TB := tb5 225 (by decide +kernel) (by decide +kernel)
theorem mi_math : Cond.initialized "java/lang/Math" ∈ TB := tb1 4 (by decide +kernel) (by decide +kernel)
variable {k : MC} {E : VE} {md : MD} {kd : List (Nat × Instr × Nat)} {d mc ms : Nat} {Q : State → Prop} {cm sm : Nat} {Sh : Nat → SE} {N : Nat} {G : Bool} {M : MM} {pc : Nat} {L : List (Option Value)} {st : List Value}
theorem r_max (C : CK k E md kd d mc ms) {idx : Nat} {rest : List Value} {x y : Int32} (hd : cod kd pc = some (.invokestatic idx, 3)) (hlk : Cond.methodLink md.1.cls idx Lib.Math.max.name ∈ TB) (kk : PT k E Q cm sm Sh N G M (pc + 3) L (.int (if x < y then y else x) :: rest)) (hd1 : 1 ≤ d := by omega) (hLn : L.length = md.2.2.1 := by rfl) (hrest : (rest.map fun v => v.category).sum ≤ 8 := by exact Nat.le_of_ble_eq_true rfl) : PT k E Q cm sm Sh N G M pc L (.int y :: .int x :: rest) := by
  intro ls H locs cells slots hL hH hS hc hs
  have h8 := cat_rest (E := E) rest hrest
  refine va_mmax C.x C.b (by rw [C.ml, hL.1, hLn]) C.own (C.ts _ hlk) (C.ts _ mt_max) (C.ts _ mi_math) (C.ts _ ma_max) (by rw [C.fr]; exact hd1) ?_ (Nat.le_trans (Nat.le_add_right _ _) hc) (Nat.le_trans (Nat.le_add_right _ _) hs) (C.dec hd) (kk ls H locs cells slots hL hH hS hc hs)
  refine Nat.le_trans ?_ C.lc
  show _ ≤ 40 * d
  omega
theorem r_min (C : CK k E md kd d mc ms) {idx : Nat} {rest : List Value} {x y : Int32} (hd : cod kd pc = some (.invokestatic idx, 3)) (hlk : Cond.methodLink md.1.cls idx Lib.Math.min.name ∈ TB) (kk : PT k E Q cm sm Sh N G M (pc + 3) L (.int (if y < x then y else x) :: rest)) (hd1 : 1 ≤ d := by omega) (hLn : L.length = md.2.2.1 := by rfl) (hrest : (rest.map fun v => v.category).sum ≤ 8 := by exact Nat.le_of_ble_eq_true rfl) : PT k E Q cm sm Sh N G M pc L (.int y :: .int x :: rest) := by
  intro ls H locs cells slots hL hH hS hc hs
  have h8 := cat_rest (E := E) rest hrest
  refine va_mmin C.x C.b (by rw [C.ml, hL.1, hLn]) C.own (C.ts _ hlk) (C.ts _ mt_min) (C.ts _ mi_math) (C.ts _ ma_min) (by rw [C.fr]; exact hd1) ?_ (Nat.le_trans (Nat.le_add_right _ _) hc) (Nat.le_trans (Nat.le_add_right _ _) hs) (C.dec hd) (kk ls H locs cells slots hL hH hS hc hs)
  refine Nat.le_trans ?_ C.lc
  show _ ≤ 40 * d
  omega
theorem r_abs (C : CK k E md kd d mc ms) {idx : Nat} {rest : List Value} {x : Int32} (hd : cod kd pc = some (.invokestatic idx, 3)) (hlk : Cond.methodLink md.1.cls idx Lib.Math.abs.name ∈ TB) (kk : PT k E Q cm sm Sh N G M (pc + 3) L (.int (if 0 ≤ x then x else 0 - x) :: rest)) (hd1 : 1 ≤ d := by omega) (hLn : L.length = md.2.2.1 := by rfl) (hrest : (rest.map fun v => v.category).sum ≤ 8 := by exact Nat.le_of_ble_eq_true rfl) : PT k E Q cm sm Sh N G M pc L (.int x :: rest) := by
  intro ls H locs cells slots hL hH hS hc hs
  have h8 := cat_rest (E := E) rest hrest
  refine va_mabs C.x C.b (by rw [C.ml, hL.1, hLn]) C.own (C.ts _ hlk) (C.ts _ mt_abs) (C.ts _ mi_math) (C.ts _ ma_abs) (by rw [C.fr]; exact hd1) ?_ (Nat.le_trans (Nat.le_add_right _ _) hc) (Nat.le_trans (Nat.le_add_right _ _) hs) (C.dec hd) (kk ls H locs cells slots hL hH hS hc hs)
  refine Nat.le_trans ?_ C.lc
  show _ ≤ 40 * d
  omega
end MATH
