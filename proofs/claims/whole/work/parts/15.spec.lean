section SPEC
/-- the sum of the first n -/
def sm (f : Nat → Int32) : Nat → Int32
  | 0 => 0
  | n + 1 => sm f n + f n
theorem sm_cong {f g : Nat → Int32} : ∀ {n : Nat}, (∀ i, i < n → f i = g i) → sm f n = sm g n
  | 0, _ => rfl
  | n + 1, h => by rw [sm, sm, sm_cong (fun i hi => h i (by omega)), h n (by omega)]
abbrev mx (x y : Int32) : Int32 := if x < y then y else x
abbrev mi (x y : Int32) : Int32 := if y < x then y else x
/-- a row of 325 numbers is a wall: its traits, 24 bulges from 13 on, 144 waters from 37 on, 144 flags from 181 on -/
abbrev Row : Type := Nat → Int32
def strg (g f : Int32) (R : Row) (p : Nat) : Int32 := if R (181 + p) &&& nI 2 = nI 2 then 0 else if R (181 + p) &&& nI 1 = nI 1 then (g + f * mx 0 (mi (nI 60) (nI 180 - R (37 + p))) / nI 60) / nI 2 else g + f * mx 0 (mi (nI 60) (nI 180 - R (37 + p))) / nI 60
def lod (R : Row) (p : Nat) : Int32 := if R (181 + p) &&& nI 2 = nI 2 then 0 else nI 10 + R (37 + p) / nI 50
def bear (g f : Int32) (R : Row) (dp l : Nat) : Int32 := R 7 * nI 50 + sm (fun c => strg g f R (6 * l + c)) dp
def lods (R : Row) (dp l : Nat) : Int32 := sm (fun c => lod R (6 * l + c)) dp
/-- what presses on the layer l, n layers being above -/
def prs (R : Row) (dp l n : Nat) : Int32 := sm (fun i => lods R dp (l + 1 + i)) n
/-- a wall's row: its depth and how many layers it has -/
def WF (R : Row) (dp mn : Nat) : Prop := R 0 = nI dp ∧ 1 ≤ dp ∧ dp ≤ 6 ∧ R 1 = nI mn ∧ mn ≤ 24
theorem lt_nI {a b : Nat} (ha : a < 2 ^ 31) (hb : b < 2 ^ 31) (h : nI a < nI b) : a < b := (nI_ltI ha hb).mp h
theorem le_nI {a b : Nat} (ha : a < 2 ^ 31) (hb : b < 2 ^ 31) (h : nI a ≤ nI b) : a ≤ b := (nI_leI ha hb).mp h
theorem nlt_nI {a b : Nat} (ha : a < 2 ^ 31) (hb : b < 2 ^ 31) (h : ¬ nI a < nI b) : b ≤ a := Nat.not_lt.mp (fun q => h ((nI_ltI ha hb).mpr q))
theorem nle_nI {a b : Nat} (ha : a < 2 ^ 31) (hb : b < 2 ^ 31) (h : ¬ nI a ≤ nI b) : b < a := Nat.not_le.mp (fun q => h ((nI_leI ha hb).mpr q))
theorem add3 (a b c : Int32) : a + b + c = a + (b + c) := Int32.add_assoc a b c
end SPEC
