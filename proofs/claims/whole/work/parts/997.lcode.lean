section LCODE
variable {x : ST}
theorem yard_c2 (p : Int32) (tr wk : Nat → Nat) : (yardA x p tr wk).1 ≤ 2 := by
  unfold yardA
  repeat' split
  all_goals exact Nat.le_of_ble_eq_true rfl
theorem count_c2 (z : Int32) : (countA x z).1 ≤ 2 := by
  unfold countA
  repeat' split
  all_goals exact Nat.le_of_ble_eq_true rfl
theorem wall_c2 (p q : Int32) : (wallA x p q).1 ≤ 2 := by
  unfold wallA
  repeat' split
  all_goals exact Nat.le_of_ble_eq_true rfl
theorem cell_c2 (p q z y : Int32) : (cellA x p q z y).1 ≤ 2 := by
  unfold cellA
  repeat' split
  all_goals exact Nat.le_of_ble_eq_true rfl
theorem layer_c2 (p q y : Int32) : (layerA x p q y).1 ≤ 2 := by
  unfold layerA
  repeat' split
  all_goals exact Nat.le_of_ble_eq_true rfl
theorem lift_c2 (p q : Int32) : (liftA x p q).1 ≤ 2 := by
  unfold liftA
  repeat' split
  all_goals exact Nat.le_of_ble_eq_true rfl
theorem down_c2 (p : Int32) : (downA x p).1 ≤ 2 := by
  unfold downA
  repeat' split
  all_goals exact Nat.le_of_ble_eq_true rfl
theorem weeks_c2 (p q : Int32) : (weeksA x p q).1 ≤ 2 := by
  unfold weeksA
  repeat' split
  all_goals exact Nat.le_of_ble_eq_true rfl
theorem high_c2 (p : Int32) : (highA x p).1 ≤ 2 := by
  unfold highA
  repeat' split
  all_goals exact Nat.le_of_ble_eq_true rfl
theorem when_c2 (p q : Int32) : (whenA x.ye x.wn x.Rw p q).1 ≤ 2 := by
  unfold whenA
  repeat' split
  all_goals exact Nat.le_of_ble_eq_true rfl
theorem plan_c2 (p q : Int32) : (planA x.ye x.wn x.Rw p q).1 ≤ 2 := by
  unfold planA
  repeat' split
  all_goals exact Nat.le_of_ble_eq_true rfl
theorem planned_c2 (p : Int32) : (listA x.pl p).1 ≤ 2 := by
  unfold listA
  repeat' split
  all_goals exact Nat.le_of_ble_eq_true rfl
theorem turned_c2 (p q n z : Int32) : (turnA x.ye x.wn x.Rw p q n z).1 ≤ 2 := by
  unfold turnA
  repeat' split
  all_goals exact Nat.le_of_ble_eq_true rfl
theorem line_c2 (p q z : Int32) : (lineA x.ye x.wn x.Rw p q z).1 ≤ 2 := by
  unfold lineA
  repeat' split
  all_goals exact Nat.le_of_ble_eq_true rfl
theorem order_c2 (p q : Int32) : (orderA x.ye x.wn x.Rw x.od p q).1 ≤ 2 := by
  unfold orderA
  repeat' split
  all_goals exact Nat.le_of_ble_eq_true rfl
theorem ordered_c2 (p : Int32) : (listA x.od p).1 ≤ 2 := by
  unfold listA
  repeat' split
  all_goals exact Nat.le_of_ble_eq_true rfl
theorem mix_c2 (z : Int32) : (mixA x.br z).1 ≤ 2 := by
  unfold mixA
  repeat' split
  all_goals exact Nat.le_of_ble_eq_true rfl
theorem first_c2 (coin z : Int32) : (firstA x coin z).1 ≤ 2 := by
  unfold firstA
  repeat' split
  all_goals exact Nat.le_of_ble_eq_true rfl
theorem stick_c2 (p q z y : Int32) : (stickA x p q z y).1 ≤ 2 := by
  unfold stickA
  repeat' split
  all_goals exact Nat.le_of_ble_eq_true rfl
theorem credit_c2 (p : Int32) : (creditA x p).1 ≤ 2 := by
  unfold creditA
  repeat' split
  all_goals exact Nat.le_of_ble_eq_true rfl
end LCODE
