section WROW
theorem and2 (x : Int32) (i : Nat) (hi : i < 31) : x &&& nI (2 ^ i) = 0 ∨ x &&& nI (2 ^ i) = nI (2 ^ i) := by
  have h2 : (nI (2 ^ i)).toBitVec = BitVec.twoPow 32 i := by
    apply BitVec.eq_of_toNat_eq
    rw [BitVec.toNat_twoPow]
    rfl
  have h := BitVec.and_twoPow x.toBitVec i
  rw [← h2] at h
  by_cases q : x.toBitVec.getLsbD i
  · rw [if_pos q] at h
    exact Or.inr (Int32.toBitVec_inj.mp (by rw [Int32.toBitVec_and]; exact h))
  · rw [if_neg q] at h
    exact Or.inl (Int32.toBitVec_inj.mp (by rw [Int32.toBitVec_and]; exact h))
theorem or_and (z y m : Int32) : (z ||| y) &&& m = (z &&& m) ||| (y &&& m) := by
  apply Int32.toBitVec_inj.mp
  rw [Int32.toBitVec_and, Int32.toBitVec_or, Int32.toBitVec_or, Int32.toBitVec_and, Int32.toBitVec_and]
  apply BitVec.eq_of_getLsbD_eq
  intro i hi
  simp [Bool.and_or_distrib_right]
theorem hol_iff (x : Int32) : x &&& nI 2 = nI 2 ↔ ¬ x &&& nI 2 = 0 := by
  rcases and2 x 1 (by decide) with h | h
  · exact ⟨fun q => absurd (h.symm.trans q) (by decide), fun q => absurd h q⟩
  · exact ⟨fun _ q => absurd (h.symm.trans q) (by decide), fun _ => h⟩
theorem crk_iff (x : Int32) : x &&& nI 1 = nI 1 ↔ ¬ x &&& nI 1 = 0 := by
  rcases and2 x 0 (by decide) with h | h
  · exact ⟨fun q => absurd (h.symm.trans q) (by decide), fun q => absurd h q⟩
  · exact ⟨fun _ q => absurd (h.symm.trans q) (by decide), fun _ => h⟩
/-- a wall's fields, the yard at yd -/
def waFl (w yd : Nat) : List (Option Value) := [some (.ref yd), some (.ref (w + 1)), some (.ref (w + 2)), some (.ref (w + 3)), none, none, none, none, none, none, none, none, none, none, none, none, none]
def yaFl (yd : Nat) : List (Option Value) := [some (.ref (yd + 1)), some (.ref (yd + 2)), some (.ref (yd + 3)), none, none, none, none, none, none]
def YA (Sh : Nat → SE) (N yd : Nat) : Prop := At Sh N yd (.inr (10, yaFl yd)) ∧ At Sh N (yd + 1) (arE 0 3) ∧ At Sh N (yd + 2) (arE 0 24) ∧ At Sh N (yd + 3) (arE 0 90)
/-- the world holds a wall at w, of the yard at yd -/
def WA (Sh : Nat → SE) (N w yd : Nat) : Prop := At Sh N w (.inr (8, waFl w yd)) ∧ At Sh N (w + 1) (arE 0 144) ∧ At Sh N (w + 2) (arE 0 144) ∧ At Sh N (w + 3) (arE 0 24) ∧ YA Sh N yd ∧ yd + 4 ≤ w
/-- the row of the wall at w -/
def wrow (M : MM) (w : Nat) : Row := fun j => if j < 13 then M w (j + 4) else if j < 37 then M (w + 3) (j - 13) else if j < 181 then M (w + 1) (j - 37) else M (w + 2) (j - 181)
/-- the numbers with another row of the wall at w -/
def wset (M : MM) (w : Nat) (R : Row) : MM := fun a b =>
  if a = w ∧ 4 ≤ b ∧ b < 17 then R (b - 4) else if a = w + 3 ∧ b < 24 then R (13 + b) else if a = w + 1 ∧ b < 144 then R (37 + b) else if a = w + 2 ∧ b < 144 then R (181 + b) else M a b
theorem wset_lo {w a : Nat} (M : MM) (R : Row) {b : Nat} (h : a < w) : wset M w R a b = M a b := by
  simp only [wset]
  rw [if_neg (by omega), if_neg (by omega), if_neg (by omega), if_neg (by omega)]
theorem wset_cell {w a : Nat} (M : MM) (R : Row) (h : a < w ∨ w + 4 ≤ a) : wset M w R a = M a := by
  funext b
  simp only [wset]
  rw [if_neg (by omega), if_neg (by omega), if_neg (by omega), if_neg (by omega)]
theorem wset_row (M : MM) (w : Nat) (R : Row) {j : Nat} (h : j < 325) : wrow (wset M w R) w j = R j := by
  simp only [wrow, wset]
  by_cases h1 : j < 13
  · rw [if_pos h1, if_pos ⟨trivial, by omega, by omega⟩]; congr 1
  · rw [if_neg h1]
    by_cases h2 : j < 37
    · rw [if_pos h2, if_neg (by omega), if_pos ⟨trivial, by omega⟩]; congr 1; omega
    · rw [if_neg h2]
      by_cases h3 : j < 181
      · rw [if_pos h3, if_neg (by omega), if_neg (by omega), if_pos ⟨trivial, by omega⟩]; congr 1; omega
      · rw [if_neg h3, if_neg (by omega), if_neg (by omega), if_neg (by omega), if_pos ⟨trivial, by omega⟩]; exact congrArg R (by omega)
theorem wset_self (M : MM) (w : Nat) : wset M w (wrow M w) = M := by
  funext a b
  simp only [wset, wrow]
  by_cases h1 : a = w ∧ 4 ≤ b ∧ b < 17
  · rw [if_pos h1, if_pos (by omega), h1.1]; congr 1; omega
  · rw [if_neg h1]
    by_cases h2 : a = w + 3 ∧ b < 24
    · rw [if_pos h2, if_neg (by omega), if_pos (by omega), h2.1]; congr 1; omega
    · rw [if_neg h2]
      by_cases h3 : a = w + 1 ∧ b < 144
      · rw [if_pos h3, if_neg (by omega), if_neg (by omega), if_pos (by omega), h3.1]; congr 1; omega
      · rw [if_neg h3]
        by_cases h4 : a = w + 2 ∧ b < 144
        · rw [if_pos h4, if_neg (by omega), if_neg (by omega), if_neg (by omega), h4.1]; exact congrArg (M (w + 2)) (by omega)
        · rw [if_neg h4]
theorem wset_wset (M : MM) (w : Nat) (R R' : Row) : wset (wset M w R) w R' = wset M w R' := by
  funext a b
  simp only [wset]
  by_cases h1 : a = w ∧ 4 ≤ b ∧ b < 17 <;> by_cases h2 : a = w + 3 ∧ b < 24 <;> by_cases h3 : a = w + 1 ∧ b < 144 <;> by_cases h4 : a = w + 2 ∧ b < 144 <;> simp [h1, h2, h3, h4]
theorem wset_cong {M : MM} {w : Nat} {R R' : Row} (h : ∀ j, j < 325 → R j = R' j) : wset M w R = wset M w R' := by
  funext a b
  simp only [wset]
  by_cases h1 : a = w ∧ 4 ≤ b ∧ b < 17
  · rw [if_pos h1, if_pos h1, h _ (by omega)]
  · rw [if_neg h1, if_neg h1]
    by_cases h2 : a = w + 3 ∧ b < 24
    · rw [if_pos h2, if_pos h2, h _ (by omega)]
    · rw [if_neg h2, if_neg h2]
      by_cases h3 : a = w + 1 ∧ b < 144
      · rw [if_pos h3, if_pos h3, h _ (by omega)]
      · rw [if_neg h3, if_neg h3]
        by_cases h4 : a = w + 2 ∧ b < 144
        · rw [if_pos h4, if_pos h4, h _ (by omega)]
        · rw [if_neg h4, if_neg h4]
theorem wg_4 (M : MM) (w : Nat) (R : Row) : wset M w R w 4 = R 0 := by simp [wset]
theorem wp_4 (M : MM) (w : Nat) (R : Row) (v : Int32) : up (wset M w R) w 4 v = wset M w (upd R 0 v) := by
  funext a b
  simp only [up, wset, upd]
  by_cases h1 : a = w ∧ 4 ≤ b ∧ b < 17
  · rw [if_pos h1, if_pos h1]
    by_cases e : b = 4
    · rw [if_pos ⟨h1.1, e⟩, if_pos (by omega)]
    · rw [if_neg (fun q => e q.2), if_neg (by omega)]
  · rw [if_neg h1, if_neg h1, if_neg (fun q => h1 ⟨q.1, by omega, by omega⟩)]
    by_cases h2 : a = w + 3 ∧ b < 24
    · rw [if_pos h2, if_pos h2, if_neg (by omega)]
    · rw [if_neg h2, if_neg h2]
      by_cases h3 : a = w + 1 ∧ b < 144
      · rw [if_pos h3, if_pos h3, if_neg (by omega)]
      · rw [if_neg h3, if_neg h3]
        by_cases h4 : a = w + 2 ∧ b < 144
        · rw [if_pos h4, if_pos h4, if_neg (by omega)]
        · rw [if_neg h4, if_neg h4]
theorem wg_5 (M : MM) (w : Nat) (R : Row) : wset M w R w 5 = R 1 := by simp [wset]
theorem wp_5 (M : MM) (w : Nat) (R : Row) (v : Int32) : up (wset M w R) w 5 v = wset M w (upd R 1 v) := by
  funext a b
  simp only [up, wset, upd]
  by_cases h1 : a = w ∧ 4 ≤ b ∧ b < 17
  · rw [if_pos h1, if_pos h1]
    by_cases e : b = 5
    · rw [if_pos ⟨h1.1, e⟩, if_pos (by omega)]
    · rw [if_neg (fun q => e q.2), if_neg (by omega)]
  · rw [if_neg h1, if_neg h1, if_neg (fun q => h1 ⟨q.1, by omega, by omega⟩)]
    by_cases h2 : a = w + 3 ∧ b < 24
    · rw [if_pos h2, if_pos h2, if_neg (by omega)]
    · rw [if_neg h2, if_neg h2]
      by_cases h3 : a = w + 1 ∧ b < 144
      · rw [if_pos h3, if_pos h3, if_neg (by omega)]
      · rw [if_neg h3, if_neg h3]
        by_cases h4 : a = w + 2 ∧ b < 144
        · rw [if_pos h4, if_pos h4, if_neg (by omega)]
        · rw [if_neg h4, if_neg h4]
theorem wg_6 (M : MM) (w : Nat) (R : Row) : wset M w R w 6 = R 2 := by simp [wset]
theorem wp_6 (M : MM) (w : Nat) (R : Row) (v : Int32) : up (wset M w R) w 6 v = wset M w (upd R 2 v) := by
  funext a b
  simp only [up, wset, upd]
  by_cases h1 : a = w ∧ 4 ≤ b ∧ b < 17
  · rw [if_pos h1, if_pos h1]
    by_cases e : b = 6
    · rw [if_pos ⟨h1.1, e⟩, if_pos (by omega)]
    · rw [if_neg (fun q => e q.2), if_neg (by omega)]
  · rw [if_neg h1, if_neg h1, if_neg (fun q => h1 ⟨q.1, by omega, by omega⟩)]
    by_cases h2 : a = w + 3 ∧ b < 24
    · rw [if_pos h2, if_pos h2, if_neg (by omega)]
    · rw [if_neg h2, if_neg h2]
      by_cases h3 : a = w + 1 ∧ b < 144
      · rw [if_pos h3, if_pos h3, if_neg (by omega)]
      · rw [if_neg h3, if_neg h3]
        by_cases h4 : a = w + 2 ∧ b < 144
        · rw [if_pos h4, if_pos h4, if_neg (by omega)]
        · rw [if_neg h4, if_neg h4]
theorem wg_7 (M : MM) (w : Nat) (R : Row) : wset M w R w 7 = R 3 := by simp [wset]
theorem wp_7 (M : MM) (w : Nat) (R : Row) (v : Int32) : up (wset M w R) w 7 v = wset M w (upd R 3 v) := by
  funext a b
  simp only [up, wset, upd]
  by_cases h1 : a = w ∧ 4 ≤ b ∧ b < 17
  · rw [if_pos h1, if_pos h1]
    by_cases e : b = 7
    · rw [if_pos ⟨h1.1, e⟩, if_pos (by omega)]
    · rw [if_neg (fun q => e q.2), if_neg (by omega)]
  · rw [if_neg h1, if_neg h1, if_neg (fun q => h1 ⟨q.1, by omega, by omega⟩)]
    by_cases h2 : a = w + 3 ∧ b < 24
    · rw [if_pos h2, if_pos h2, if_neg (by omega)]
    · rw [if_neg h2, if_neg h2]
      by_cases h3 : a = w + 1 ∧ b < 144
      · rw [if_pos h3, if_pos h3, if_neg (by omega)]
      · rw [if_neg h3, if_neg h3]
        by_cases h4 : a = w + 2 ∧ b < 144
        · rw [if_pos h4, if_pos h4, if_neg (by omega)]
        · rw [if_neg h4, if_neg h4]
theorem wg_8 (M : MM) (w : Nat) (R : Row) : wset M w R w 8 = R 4 := by simp [wset]
theorem wp_8 (M : MM) (w : Nat) (R : Row) (v : Int32) : up (wset M w R) w 8 v = wset M w (upd R 4 v) := by
  funext a b
  simp only [up, wset, upd]
  by_cases h1 : a = w ∧ 4 ≤ b ∧ b < 17
  · rw [if_pos h1, if_pos h1]
    by_cases e : b = 8
    · rw [if_pos ⟨h1.1, e⟩, if_pos (by omega)]
    · rw [if_neg (fun q => e q.2), if_neg (by omega)]
  · rw [if_neg h1, if_neg h1, if_neg (fun q => h1 ⟨q.1, by omega, by omega⟩)]
    by_cases h2 : a = w + 3 ∧ b < 24
    · rw [if_pos h2, if_pos h2, if_neg (by omega)]
    · rw [if_neg h2, if_neg h2]
      by_cases h3 : a = w + 1 ∧ b < 144
      · rw [if_pos h3, if_pos h3, if_neg (by omega)]
      · rw [if_neg h3, if_neg h3]
        by_cases h4 : a = w + 2 ∧ b < 144
        · rw [if_pos h4, if_pos h4, if_neg (by omega)]
        · rw [if_neg h4, if_neg h4]
theorem wg_9 (M : MM) (w : Nat) (R : Row) : wset M w R w 9 = R 5 := by simp [wset]
theorem wp_9 (M : MM) (w : Nat) (R : Row) (v : Int32) : up (wset M w R) w 9 v = wset M w (upd R 5 v) := by
  funext a b
  simp only [up, wset, upd]
  by_cases h1 : a = w ∧ 4 ≤ b ∧ b < 17
  · rw [if_pos h1, if_pos h1]
    by_cases e : b = 9
    · rw [if_pos ⟨h1.1, e⟩, if_pos (by omega)]
    · rw [if_neg (fun q => e q.2), if_neg (by omega)]
  · rw [if_neg h1, if_neg h1, if_neg (fun q => h1 ⟨q.1, by omega, by omega⟩)]
    by_cases h2 : a = w + 3 ∧ b < 24
    · rw [if_pos h2, if_pos h2, if_neg (by omega)]
    · rw [if_neg h2, if_neg h2]
      by_cases h3 : a = w + 1 ∧ b < 144
      · rw [if_pos h3, if_pos h3, if_neg (by omega)]
      · rw [if_neg h3, if_neg h3]
        by_cases h4 : a = w + 2 ∧ b < 144
        · rw [if_pos h4, if_pos h4, if_neg (by omega)]
        · rw [if_neg h4, if_neg h4]
theorem wg_10 (M : MM) (w : Nat) (R : Row) : wset M w R w 10 = R 6 := by simp [wset]
theorem wp_10 (M : MM) (w : Nat) (R : Row) (v : Int32) : up (wset M w R) w 10 v = wset M w (upd R 6 v) := by
  funext a b
  simp only [up, wset, upd]
  by_cases h1 : a = w ∧ 4 ≤ b ∧ b < 17
  · rw [if_pos h1, if_pos h1]
    by_cases e : b = 10
    · rw [if_pos ⟨h1.1, e⟩, if_pos (by omega)]
    · rw [if_neg (fun q => e q.2), if_neg (by omega)]
  · rw [if_neg h1, if_neg h1, if_neg (fun q => h1 ⟨q.1, by omega, by omega⟩)]
    by_cases h2 : a = w + 3 ∧ b < 24
    · rw [if_pos h2, if_pos h2, if_neg (by omega)]
    · rw [if_neg h2, if_neg h2]
      by_cases h3 : a = w + 1 ∧ b < 144
      · rw [if_pos h3, if_pos h3, if_neg (by omega)]
      · rw [if_neg h3, if_neg h3]
        by_cases h4 : a = w + 2 ∧ b < 144
        · rw [if_pos h4, if_pos h4, if_neg (by omega)]
        · rw [if_neg h4, if_neg h4]
theorem wg_11 (M : MM) (w : Nat) (R : Row) : wset M w R w 11 = R 7 := by simp [wset]
theorem wp_11 (M : MM) (w : Nat) (R : Row) (v : Int32) : up (wset M w R) w 11 v = wset M w (upd R 7 v) := by
  funext a b
  simp only [up, wset, upd]
  by_cases h1 : a = w ∧ 4 ≤ b ∧ b < 17
  · rw [if_pos h1, if_pos h1]
    by_cases e : b = 11
    · rw [if_pos ⟨h1.1, e⟩, if_pos (by omega)]
    · rw [if_neg (fun q => e q.2), if_neg (by omega)]
  · rw [if_neg h1, if_neg h1, if_neg (fun q => h1 ⟨q.1, by omega, by omega⟩)]
    by_cases h2 : a = w + 3 ∧ b < 24
    · rw [if_pos h2, if_pos h2, if_neg (by omega)]
    · rw [if_neg h2, if_neg h2]
      by_cases h3 : a = w + 1 ∧ b < 144
      · rw [if_pos h3, if_pos h3, if_neg (by omega)]
      · rw [if_neg h3, if_neg h3]
        by_cases h4 : a = w + 2 ∧ b < 144
        · rw [if_pos h4, if_pos h4, if_neg (by omega)]
        · rw [if_neg h4, if_neg h4]
theorem wg_12 (M : MM) (w : Nat) (R : Row) : wset M w R w 12 = R 8 := by simp [wset]
theorem wp_12 (M : MM) (w : Nat) (R : Row) (v : Int32) : up (wset M w R) w 12 v = wset M w (upd R 8 v) := by
  funext a b
  simp only [up, wset, upd]
  by_cases h1 : a = w ∧ 4 ≤ b ∧ b < 17
  · rw [if_pos h1, if_pos h1]
    by_cases e : b = 12
    · rw [if_pos ⟨h1.1, e⟩, if_pos (by omega)]
    · rw [if_neg (fun q => e q.2), if_neg (by omega)]
  · rw [if_neg h1, if_neg h1, if_neg (fun q => h1 ⟨q.1, by omega, by omega⟩)]
    by_cases h2 : a = w + 3 ∧ b < 24
    · rw [if_pos h2, if_pos h2, if_neg (by omega)]
    · rw [if_neg h2, if_neg h2]
      by_cases h3 : a = w + 1 ∧ b < 144
      · rw [if_pos h3, if_pos h3, if_neg (by omega)]
      · rw [if_neg h3, if_neg h3]
        by_cases h4 : a = w + 2 ∧ b < 144
        · rw [if_pos h4, if_pos h4, if_neg (by omega)]
        · rw [if_neg h4, if_neg h4]
theorem wg_13 (M : MM) (w : Nat) (R : Row) : wset M w R w 13 = R 9 := by simp [wset]
theorem wp_13 (M : MM) (w : Nat) (R : Row) (v : Int32) : up (wset M w R) w 13 v = wset M w (upd R 9 v) := by
  funext a b
  simp only [up, wset, upd]
  by_cases h1 : a = w ∧ 4 ≤ b ∧ b < 17
  · rw [if_pos h1, if_pos h1]
    by_cases e : b = 13
    · rw [if_pos ⟨h1.1, e⟩, if_pos (by omega)]
    · rw [if_neg (fun q => e q.2), if_neg (by omega)]
  · rw [if_neg h1, if_neg h1, if_neg (fun q => h1 ⟨q.1, by omega, by omega⟩)]
    by_cases h2 : a = w + 3 ∧ b < 24
    · rw [if_pos h2, if_pos h2, if_neg (by omega)]
    · rw [if_neg h2, if_neg h2]
      by_cases h3 : a = w + 1 ∧ b < 144
      · rw [if_pos h3, if_pos h3, if_neg (by omega)]
      · rw [if_neg h3, if_neg h3]
        by_cases h4 : a = w + 2 ∧ b < 144
        · rw [if_pos h4, if_pos h4, if_neg (by omega)]
        · rw [if_neg h4, if_neg h4]
theorem wg_14 (M : MM) (w : Nat) (R : Row) : wset M w R w 14 = R 10 := by simp [wset]
theorem wp_14 (M : MM) (w : Nat) (R : Row) (v : Int32) : up (wset M w R) w 14 v = wset M w (upd R 10 v) := by
  funext a b
  simp only [up, wset, upd]
  by_cases h1 : a = w ∧ 4 ≤ b ∧ b < 17
  · rw [if_pos h1, if_pos h1]
    by_cases e : b = 14
    · rw [if_pos ⟨h1.1, e⟩, if_pos (by omega)]
    · rw [if_neg (fun q => e q.2), if_neg (by omega)]
  · rw [if_neg h1, if_neg h1, if_neg (fun q => h1 ⟨q.1, by omega, by omega⟩)]
    by_cases h2 : a = w + 3 ∧ b < 24
    · rw [if_pos h2, if_pos h2, if_neg (by omega)]
    · rw [if_neg h2, if_neg h2]
      by_cases h3 : a = w + 1 ∧ b < 144
      · rw [if_pos h3, if_pos h3, if_neg (by omega)]
      · rw [if_neg h3, if_neg h3]
        by_cases h4 : a = w + 2 ∧ b < 144
        · rw [if_pos h4, if_pos h4, if_neg (by omega)]
        · rw [if_neg h4, if_neg h4]
theorem wg_15 (M : MM) (w : Nat) (R : Row) : wset M w R w 15 = R 11 := by simp [wset]
theorem wp_15 (M : MM) (w : Nat) (R : Row) (v : Int32) : up (wset M w R) w 15 v = wset M w (upd R 11 v) := by
  funext a b
  simp only [up, wset, upd]
  by_cases h1 : a = w ∧ 4 ≤ b ∧ b < 17
  · rw [if_pos h1, if_pos h1]
    by_cases e : b = 15
    · rw [if_pos ⟨h1.1, e⟩, if_pos (by omega)]
    · rw [if_neg (fun q => e q.2), if_neg (by omega)]
  · rw [if_neg h1, if_neg h1, if_neg (fun q => h1 ⟨q.1, by omega, by omega⟩)]
    by_cases h2 : a = w + 3 ∧ b < 24
    · rw [if_pos h2, if_pos h2, if_neg (by omega)]
    · rw [if_neg h2, if_neg h2]
      by_cases h3 : a = w + 1 ∧ b < 144
      · rw [if_pos h3, if_pos h3, if_neg (by omega)]
      · rw [if_neg h3, if_neg h3]
        by_cases h4 : a = w + 2 ∧ b < 144
        · rw [if_pos h4, if_pos h4, if_neg (by omega)]
        · rw [if_neg h4, if_neg h4]
theorem wg_16 (M : MM) (w : Nat) (R : Row) : wset M w R w 16 = R 12 := by simp [wset]
theorem wp_16 (M : MM) (w : Nat) (R : Row) (v : Int32) : up (wset M w R) w 16 v = wset M w (upd R 12 v) := by
  funext a b
  simp only [up, wset, upd]
  by_cases h1 : a = w ∧ 4 ≤ b ∧ b < 17
  · rw [if_pos h1, if_pos h1]
    by_cases e : b = 16
    · rw [if_pos ⟨h1.1, e⟩, if_pos (by omega)]
    · rw [if_neg (fun q => e q.2), if_neg (by omega)]
  · rw [if_neg h1, if_neg h1, if_neg (fun q => h1 ⟨q.1, by omega, by omega⟩)]
    by_cases h2 : a = w + 3 ∧ b < 24
    · rw [if_pos h2, if_pos h2, if_neg (by omega)]
    · rw [if_neg h2, if_neg h2]
      by_cases h3 : a = w + 1 ∧ b < 144
      · rw [if_pos h3, if_pos h3, if_neg (by omega)]
      · rw [if_neg h3, if_neg h3]
        by_cases h4 : a = w + 2 ∧ b < 144
        · rw [if_pos h4, if_pos h4, if_neg (by omega)]
        · rw [if_neg h4, if_neg h4]
theorem wg_w (M : MM) (w : Nat) (R : Row) {p : Nat} (h : p < 144) : wset M w R (w + 1) p = R (37 + p) := by
  simp only [wset]
  have e0 : ¬ (w + 1 = w ∧ 4 ≤ p ∧ p < 17) := by omega
  rw [if_neg e0, if_neg (by omega), if_pos ⟨trivial, h⟩]
theorem wp_w (M : MM) (w : Nat) (R : Row) (v : Int32) {p : Nat} (h : p < 144) : up (wset M w R) (w + 1) p v = wset M w (upd R (37 + p) v) := by
  funext a b
  simp only [up, wset, upd]
  by_cases h1 : a = w ∧ 4 ≤ b ∧ b < 17
  · rw [if_pos h1, if_pos h1, if_neg (by omega), if_neg (by omega)]
  · rw [if_neg h1, if_neg h1]
    by_cases h2 : a = w + 3 ∧ b < 24
    · rw [if_pos h2, if_pos h2]
      by_cases e : a = w + 1 ∧ b = p
      · rw [if_pos e, if_pos (by omega)]
      · rw [if_neg e, if_neg (by omega)]
    · rw [if_neg h2, if_neg h2]
      by_cases h3 : a = w + 1 ∧ b < 144
      · rw [if_pos h3, if_pos h3]
        by_cases e : a = w + 1 ∧ b = p
        · rw [if_pos e, if_pos (by omega)]
        · rw [if_neg e, if_neg (by omega)]
      · rw [if_neg h3, if_neg h3]
        by_cases h4 : a = w + 2 ∧ b < 144
        · rw [if_pos h4, if_pos h4]
          by_cases e : a = w + 1 ∧ b = p
          · rw [if_pos e, if_pos (by omega)]
          · rw [if_neg e, if_neg (by omega)]
        · rw [if_neg h4, if_neg h4, if_neg (by omega)]
theorem wg_m (M : MM) (w : Nat) (R : Row) {p : Nat} (h : p < 144) : wset M w R (w + 2) p = R (181 + p) := by
  simp only [wset]
  have e0 : ¬ (w + 2 = w ∧ 4 ≤ p ∧ p < 17) := by omega
  rw [if_neg e0, if_neg (by omega), if_neg (by omega), if_pos ⟨trivial, h⟩]
theorem wp_m (M : MM) (w : Nat) (R : Row) (v : Int32) {p : Nat} (h : p < 144) : up (wset M w R) (w + 2) p v = wset M w (upd R (181 + p) v) := by
  funext a b
  simp only [up, wset, upd]
  by_cases h1 : a = w ∧ 4 ≤ b ∧ b < 17
  · rw [if_pos h1, if_pos h1, if_neg (by omega), if_neg (by omega)]
  · rw [if_neg h1, if_neg h1]
    by_cases h2 : a = w + 3 ∧ b < 24
    · rw [if_pos h2, if_pos h2]
      by_cases e : a = w + 2 ∧ b = p
      · rw [if_pos e, if_pos (by omega)]
      · rw [if_neg e, if_neg (by omega)]
    · rw [if_neg h2, if_neg h2]
      by_cases h3 : a = w + 1 ∧ b < 144
      · rw [if_pos h3, if_pos h3]
        by_cases e : a = w + 2 ∧ b = p
        · rw [if_pos e, if_pos (by omega)]
        · rw [if_neg e, if_neg (by omega)]
      · rw [if_neg h3, if_neg h3]
        by_cases h4 : a = w + 2 ∧ b < 144
        · rw [if_pos h4, if_pos h4]
          by_cases e : a = w + 2 ∧ b = p
          · rw [if_pos e, if_pos (by omega)]
          · rw [if_neg e, if_neg (by omega)]
        · rw [if_neg h4, if_neg h4, if_neg (by omega)]
theorem wg_b (M : MM) (w : Nat) (R : Row) {p : Nat} (h : p < 24) : wset M w R (w + 3) p = R (13 + p) := by
  simp only [wset]
  have e0 : ¬ (w + 3 = w ∧ 4 ≤ p ∧ p < 17) := by omega
  rw [if_neg e0, if_pos ⟨trivial, h⟩]
theorem wp_b (M : MM) (w : Nat) (R : Row) (v : Int32) {p : Nat} (h : p < 24) : up (wset M w R) (w + 3) p v = wset M w (upd R (13 + p) v) := by
  funext a b
  simp only [up, wset, upd]
  by_cases h1 : a = w ∧ 4 ≤ b ∧ b < 17
  · rw [if_pos h1, if_pos h1, if_neg (by omega), if_neg (by omega)]
  · rw [if_neg h1, if_neg h1]
    by_cases h2 : a = w + 3 ∧ b < 24
    · rw [if_pos h2, if_pos h2]
      by_cases e : a = w + 3 ∧ b = p
      · rw [if_pos e, if_pos (by omega)]
      · rw [if_neg e, if_neg (by omega)]
    · rw [if_neg h2, if_neg h2]
      by_cases h3 : a = w + 1 ∧ b < 144
      · rw [if_pos h3, if_pos h3]
        by_cases e : a = w + 3 ∧ b = p
        · rw [if_pos e, if_pos (by omega)]
        · rw [if_neg e, if_neg (by omega)]
      · rw [if_neg h3, if_neg h3]
        by_cases h4 : a = w + 2 ∧ b < 144
        · rw [if_pos h4, if_pos h4]
          by_cases e : a = w + 3 ∧ b = p
          · rw [if_pos e, if_pos (by omega)]
          · rw [if_neg e, if_neg (by omega)]
        · rw [if_neg h4, if_neg h4, if_neg (by omega)]
end WROW
