section SPEC
/-- the sum of the first n -/
def sm (f : Nat → Int32) : Nat → Int32
  | 0 => 0
  | n + 1 => sm f n + f n
theorem sm_cong {f g : Nat → Int32} : ∀ {n : Nat}, (∀ i, i < n → f i = g i) → sm f n = sm g n
  | 0, _ => rfl
  | n + 1, h => by rw [sm, sm, sm_cong (fun i hi => h i (by omega)), h n (by omega)]
abbrev mx (x y : Int32) : Int32 := if x < y then y else x
abbrev mi (x y : Int32) : Int32 := if y < x then y else x
/-- a row of 325 numbers is a wall: its traits, 24 bulges from 13 on, 144 waters from 37 on, 144 flags from 181 on -/
abbrev Row : Type := Nat → Int32
def strg (g f : Int32) (R : Row) (p : Nat) : Int32 := if R (181 + p) &&& nI 2 = nI 2 then 0 else if R (181 + p) &&& nI 1 = nI 1 then (g + f * mx 0 (mi (nI 60) (nI 180 - R (37 + p))) / nI 60) / nI 2 else g + f * mx 0 (mi (nI 60) (nI 180 - R (37 + p))) / nI 60
def lod (R : Row) (p : Nat) : Int32 := if R (181 + p) &&& nI 2 = nI 2 then 0 else nI 10 + R (37 + p) / nI 50
def bear (g f : Int32) (R : Row) (dp l : Nat) : Int32 := R 7 * nI 50 + sm (fun c => strg g f R (6 * l + c)) dp
def lods (R : Row) (dp l : Nat) : Int32 := sm (fun c => lod R (6 * l + c)) dp
/-- what presses on the layer l, n layers being above -/
def prs (R : Row) (dp l n : Nat) : Int32 := sm (fun i => lods R dp (l + 1 + i)) n
/-- a wall's row: its depth and how many layers it has -/
def WF (R : Row) (dp mn : Nat) : Prop := R 0 = nI dp ∧ 1 ≤ dp ∧ dp ≤ 6 ∧ R 1 = nI mn ∧ mn ≤ 24
theorem lt_nI {a b : Nat} (ha : a < 2 ^ 31) (hb : b < 2 ^ 31) (h : nI a < nI b) : a < b := (nI_ltI ha hb).mp h
theorem le_nI {a b : Nat} (ha : a < 2 ^ 31) (hb : b < 2 ^ 31) (h : nI a ≤ nI b) : a ≤ b := (nI_leI ha hb).mp h
theorem nlt_nI {a b : Nat} (ha : a < 2 ^ 31) (hb : b < 2 ^ 31) (h : ¬ nI a < nI b) : b ≤ a := Nat.not_lt.mp (fun q => h ((nI_ltI ha hb).mpr q))
theorem nle_nI {a b : Nat} (ha : a < 2 ^ 31) (hb : b < 2 ^ 31) (h : ¬ nI a ≤ nI b) : b < a := Nat.not_le.mp (fun q => h ((nI_leI ha hb).mpr q))
theorem add3 (a b c : Int32) : a + b + c = a + (b + c) := Int32.add_assoc a b c
/-- n steps, the first one first -/
def it {α : Type} (f : Nat → α → α) : Nat → α → α
  | 0, x => x
  | n + 1, x => f n (it f n x)
theorem it_keep {f : Nat → Row → Row} {j : Nat} (h : ∀ i R, f i R j = R j) : ∀ (n : Nat) (R : Row), it f n R j = R j
  | 0, _ => rfl
  | n + 1, R => by rw [it, h, it_keep h n R]
/-- while a layer is put up: c cells of it are laid -/
def rIn (R : Row) (mn c : Nat) : Row := fun j => if j = 13 + mn then 0 else if 37 + 6 * mn ≤ j ∧ j < 37 + 6 * mn + c then nI 200 else if 181 + 6 * mn ≤ j ∧ j < 181 + 6 * mn + c then 0 else R j
/-- a layer more -/
def rais1 (dp mn : Nat) (R : Row) : Row := fun j => if j = 11 then R 11 + nI 200 * nI dp else if j = 1 then nI (mn + 1) else rIn R mn dp j
/-- n layers more -/
def raisR (dp mn n : Nat) (R : Row) : Row := it (fun i => rais1 dp (mn + i)) n R
/-- water of n layers from the layer l on -/
def wat (R : Row) (dp l n : Nat) : Int32 := sm (fun i => sm (fun c => R (37 + (6 * (l + i) + c))) dp) n
/-- cut down to the layer l -/
def cutR (dp mn l : Nat) (R : Row) : Row := fun j => if j = 12 then R 12 + wat R dp l (mn - l) else if j = 1 then nI l else R j
/-- water comes into a cell -/
def wetS (p : Nat) (v : Int32) (R : Row) : Row := upd (upd R (37 + p) (R (37 + p) + mi v (nI 400 - R (37 + p)))) 11 (R 11 + mi v (nI 400 - R (37 + p)))
/-- how many layers are splashed -/
def bare (R : Row) (mn : Nat) : Nat := min (3 - (R 3).toNatClampNeg) mn
def comeR (dp mn : Nat) (dr : Int32) (R : Row) : Row :=
  it (fun c => wetS c (R 2 * mx 0 (nI 3 - R 3) / nI 3)) dp (it (fun l => wetS (6 * l) (dr * R 5 / nI 200)) (bare R mn) (if R 4 = 0 then it (fun c => wetS (6 * (mn - 1) + c) dr) dp R else R))
def flowS (w : Nat → Int32) (a b : Nat) (q : Int32) (R : Row) : Row := upd (upd R (37 + a) (R (37 + a) - (w a - w b) / q)) (37 + b) (upd R (37 + a) (R (37 + a) - (w a - w b) / q) (37 + b) + (w a - w b) / q)
def moveS (w : Nat → Int32) (dp mn l c : Nat) (R : Row) : Row :=
  let R1 := if c + 1 < dp then flowS w (6 * l + c) (6 * l + (c + 1)) (nI 4) R else R
  if l + 1 < mn then flowS w (6 * l + c) (6 * (l + 1) + c) (nI 8) R1 else R1
def moveR (w : Nat → Int32) (dp mn : Nat) (R : Row) : Row := it (fun l => it (fun c => moveS w dp mn l c) dp) mn R
def dryN (R : Row) (dp mn l c : Nat) : Int32 := (if c = 0 then R 5 else 0) + (if c = dp - 1 then R 6 / nI 2 else 0) + (if l = mn - 1 then nI 50 else 0)
def dryV (R : Row) (air : Int32) (dp mn l c : Nat) : Int32 := mi (R (37 + (6 * l + c))) (mx 0 (R (37 + (6 * l + c)) - nI 100) * air * dryN R dp mn l c / nI 20000)
def dryS (air : Int32) (dp mn l c : Nat) (R : Row) : Row := upd (upd R (37 + (6 * l + c)) (R (37 + (6 * l + c)) - dryV R air dp mn l c)) 12 (R 12 + dryV R air dp mn l c)
def dryR (air : Int32) (dp mn : Nat) (R : Row) : Row := it (fun l => it (fun c => dryS air dp mn l c) dp) mn R
/-- whether a cell cracks: w ahead of the week, v now -/
def cracks (fr : Bool) (sk w v : Int32) (c : Nat) : Bool := (fr && decide (c = 0) && (decide (nI 180 ≤ w) || decide (nI 180 ≤ v))) || (decide (nI 60 < sk) && decide (nI 150 ≤ w) && decide (v < nI 150))
/-- behind the cells of the layers below l, and c of the layer l -/
def crackR (fr : Bool) (sk : Int32) (w : Nat → Int32) (dp l c : Nat) (R : Row) : Row := fun j =>
  if 181 ≤ j ∧ j < 325 ∧ (j - 181) % 6 < dp ∧ ((j - 181) / 6 < l ∨ ((j - 181) / 6 = l ∧ (j - 181) % 6 < c)) ∧ cracks fr sk (w (j - 181)) (R (37 + (j - 181))) ((j - 181) % 6) = true then R j ||| nI 1 else R j
def anyB (p : Nat → Bool) : Nat → Bool
  | 0 => false
  | n + 1 => anyB p n || p n
def allB (p : Nat → Bool) : Nat → Bool
  | 0 => true
  | n + 1 => allB p n && p n
theorem anyB_of {p : Nat → Bool} {i : Nat} : ∀ {n : Nat}, i < n → p i = true → anyB p n = true
  | 0, h, _ => absurd h (Nat.not_lt_zero i)
  | n + 1, h, hp => by
    rw [anyB]
    rcases Nat.lt_or_ge i n with q | q
    · rw [anyB_of q hp]; rfl
    · rw [show n = i by omega, hp, Bool.or_true]
/-- why the layer l gives way -/
def whyR (R : Row) (dp l : Nat) : Int32 := if anyB (fun c => decide (R (181 + (6 * l + c)) &&& nI 2 = nI 2)) dp = true then nI 1 else if allB (fun c => decide (nI 180 ≤ R (37 + (6 * l + c)))) dp = true then nI 2 else if anyB (fun c => decide (R (181 + (6 * l + c)) &&& nI 1 = nI 1)) dp = true then nI 3 else nI 4
/-- how much more a layer bulges -/
def more (b p : Int32) : Int32 := (if b < p then 1 else 0) + (if b < p ∧ nI 2 * b ≤ p then 1 else 0)
/-- the bulges of the layers from l on grow -/
def sitR (g f : Int32) (dp mn l : Nat) (R : Row) : Row := fun j => if 13 + l ≤ j ∧ j < 13 + mn then R j + more (bear g f R dp (j - 13)) (prs R dp (j - 13) (mn - 1 - (j - 13))) else R j
def bI (b : Bool) : Int32 := if b = true then 1 else 0
theorem bI_or (a b : Bool) : bI a ||| bI b = bI (a || b) := by cases a <;> cases b <;> decide
theorem bI_and (a b : Bool) : bI a &&& bI b = bI (a && b) := by cases a <;> cases b <;> decide
theorem bI_if (c : Prop) [Decidable c] : (if c then (1 : Int32) else 0) = bI (decide c) := by by_cases h : c <;> simp [bI, h]
theorem bI_0 {b : Bool} (h : bI b = 0) : b = false := by cases b; rfl; exact absurd h (by decide)
theorem bI_1 {b : Bool} (h : ¬ bI b = 0) : b = true := by cases b; exact absurd rfl h; rfl
theorem crack_lo (fr : Bool) (sk : Int32) (w : Nat → Int32) (dp l c : Nat) (R : Row) {j : Nat} (h : j < 181) : crackR fr sk w dp l c R j = R j := by
  simp only [crackR]
  rw [if_neg (by omega)]
theorem crack_new (fr : Bool) (sk : Int32) (w : Nat → Int32) (dp l c : Nat) (R : Row) (hc : c < 6) : crackR fr sk w dp l c R (181 + (6 * l + c)) = R (181 + (6 * l + c)) := by
  simp only [crackR]
  rw [if_neg (fun q => ?_)]
  have e1 : (181 + (6 * l + c) - 181) = 6 * l + c := by omega
  rw [e1] at q
  omega
theorem crack_yes {fr : Bool} {sk : Int32} {w : Nat → Int32} {dp l c : Nat} {R : Row} (hc : c < dp) (hd : dp ≤ 6) (hl : 6 * l + c < 144) (h : cracks fr sk (w (6 * l + c)) (R (37 + (6 * l + c))) c = true) : upd (crackR fr sk w dp l c R) (181 + (6 * l + c)) (R (181 + (6 * l + c)) ||| nI 1) = crackR fr sk w dp l (c + 1) R := by
  funext j
  by_cases e : j = 181 + (6 * l + c)
  · subst e
    have e1 : (181 + (6 * l + c) - 181) = 6 * l + c := by omega
    have e2 : (6 * l + c) % 6 = c := by omega
    have e3 : (6 * l + c) / 6 = l := by omega
    simp only [upd, crackR, e1, e2, e3]
    rw [if_pos trivial, if_pos ⟨by omega, by omega, hc, Or.inr ⟨trivial, by omega⟩, h⟩]
  · simp only [upd]
    rw [if_neg e]
    simp only [crackR]
    have e2 : ∀ q : Prop, (181 ≤ j ∧ j < 325 ∧ (j - 181) % 6 < dp ∧ ((j - 181) / 6 < l ∨ ((j - 181) / 6 = l ∧ (j - 181) % 6 < c)) ∧ q) ↔ (181 ≤ j ∧ j < 325 ∧ (j - 181) % 6 < dp ∧ ((j - 181) / 6 < l ∨ ((j - 181) / 6 = l ∧ (j - 181) % 6 < c + 1)) ∧ q) := by
      intro q
      constructor
      · rintro ⟨h1, h2, h3, h4, h5⟩; exact ⟨h1, h2, h3, by omega, h5⟩
      · rintro ⟨h1, h2, h3, h4, h5⟩; exact ⟨h1, h2, h3, by omega, h5⟩
    simp only [e2]
theorem crack_no {fr : Bool} {sk : Int32} {w : Nat → Int32} {dp l c : Nat} {R : Row} (h : cracks fr sk (w (6 * l + c)) (R (37 + (6 * l + c))) c = false) : crackR fr sk w dp l c R = crackR fr sk w dp l (c + 1) R := by
  funext j
  by_cases e : 181 ≤ j ∧ j - 181 = 6 * l + c ∧ c < 6
  · obtain ⟨e0, e1, e9⟩ := e
    have e2 : (6 * l + c) % 6 = c := by omega
    simp only [crackR, e1, e2, h]
    rw [if_neg (fun q => absurd q.2.2.2.2 (by decide)), if_neg (fun q => absurd q.2.2.2.2 (by decide))]
  · simp only [crackR]
    have e2 : ∀ q : Prop, (181 ≤ j ∧ j < 325 ∧ (j - 181) % 6 < dp ∧ ((j - 181) / 6 < l ∨ ((j - 181) / 6 = l ∧ (j - 181) % 6 < c)) ∧ q) ↔ (181 ≤ j ∧ j < 325 ∧ (j - 181) % 6 < dp ∧ ((j - 181) / 6 < l ∨ ((j - 181) / 6 = l ∧ (j - 181) % 6 < c + 1)) ∧ q) := by
      intro q
      constructor
      · rintro ⟨h1, h2, h3, h4, h5⟩; exact ⟨h1, h2, h3, by omega, h5⟩
      · rintro ⟨h1, h2, h3, h4, h5⟩; exact ⟨h1, h2, h3, by omega, h5⟩
    simp only [e2]
theorem crack_row {fr : Bool} {sk : Int32} {w : Nat → Int32} {dp l : Nat} {R : Row} : crackR fr sk w dp l dp R = crackR fr sk w dp (l + 1) 0 R := by
  funext j
  simp only [crackR]
  have e2 : ∀ q : Prop, (181 ≤ j ∧ j < 325 ∧ (j - 181) % 6 < dp ∧ ((j - 181) / 6 < l ∨ ((j - 181) / 6 = l ∧ (j - 181) % 6 < dp)) ∧ q) ↔ (181 ≤ j ∧ j < 325 ∧ (j - 181) % 6 < dp ∧ ((j - 181) / 6 < l + 1 ∨ ((j - 181) / 6 = l + 1 ∧ (j - 181) % 6 < 0)) ∧ q) := by
    intro q
    constructor
    · rintro ⟨h1, h2, h3, h4, h5⟩; exact ⟨h1, h2, h3, by omega, h5⟩
    · rintro ⟨h1, h2, h3, h4, h5⟩; exact ⟨h1, h2, h3, by omega, h5⟩
  simp only [e2]
theorem crack_0 {fr : Bool} {sk : Int32} {w : Nat → Int32} {dp : Nat} {R : Row} : crackR fr sk w dp 0 0 R = R := by
  funext j
  simp only [crackR]
  rw [if_neg (by omega)]
/-- the lowest of n layers from l on whose bulge is 6 or more -/
def lowN (R : Row) : Nat → Nat → Option Nat
  | _, 0 => none
  | l, n + 1 => if nI 6 ≤ R (13 + l) then some l else lowN R (l + 1) n
def fI (x : Option Nat) : Int32 := match x with
  | none => -1
  | some l => nI l
theorem lowN_lt {R : Row} : ∀ {n l i : Nat}, lowN R l n = some i → l ≤ i ∧ i < l + n
  | 0, l, i, h => by simp [lowN] at h
  | n + 1, l, i, h => by
    rw [lowN] at h
    split at h
    · cases h; omega
    · have := lowN_lt h; omega
/-- what falls is gone -/
def fallR (dp mn : Nat) (R : Row) : Row := match lowN R 0 mn with
  | none => R
  | some l => cutR dp mn l (upd (upd R 10 (whyR R dp l)) 9 (R 9 + nI 1))
def fallN (R : Row) (mn : Nat) : Nat := match lowN R 0 mn with
  | none => mn
  | some l => l
theorem strg_cong {g f : Int32} {R R' : Row} (h : ∀ j, j < 13 ∨ 37 ≤ j → R j = R' j) (p : Nat) : strg g f R p = strg g f R' p := by
  simp only [strg]
  rw [h (181 + p) (by omega), h (37 + p) (by omega)]
theorem lod_cong {R R' : Row} (h : ∀ j, j < 13 ∨ 37 ≤ j → R j = R' j) (p : Nat) : lod R p = lod R' p := by
  simp only [lod]
  rw [h (181 + p) (by omega), h (37 + p) (by omega)]
theorem bear_cong {g f : Int32} {R R' : Row} (h : ∀ j, j < 13 ∨ 37 ≤ j → R j = R' j) (dp l : Nat) : bear g f R dp l = bear g f R' dp l := by
  simp only [bear]
  rw [h 7 (by omega), sm_cong (fun i _ => strg_cong h _)]
theorem prs_cong {R R' : Row} (h : ∀ j, j < 13 ∨ 37 ≤ j → R j = R' j) (dp l n : Nat) : prs R dp l n = prs R' dp l n := by
  simp only [prs]
  exact sm_cong (fun i _ => by simp only [lods]; exact sm_cong (fun c _ => lod_cong h _))
theorem sit_keep (g f : Int32) (dp mn l : Nat) (R : Row) (hm : mn ≤ 24) {j : Nat} (h : j < 13 ∨ 37 ≤ j) : sitR g f dp mn l R j = R j := by
  simp only [sitR]
  rw [if_neg (by omega)]
theorem sit_below (g f : Int32) (dp mn l : Nat) (R : Row) {i : Nat} (h : i < l) : sitR g f dp mn l R (13 + i) = R (13 + i) := by
  simp only [sitR]
  rw [if_neg (by omega)]
theorem sit_step (g f : Int32) (dp mn l : Nat) (R : Row) (h : l < mn) : upd (sitR g f dp mn (l + 1) R) (13 + l) (R (13 + l) + more (bear g f R dp l) (prs R dp l (mn - 1 - l))) = sitR g f dp mn l R := by
  funext j
  simp only [upd, sitR]
  by_cases e : j = 13 + l
  · subst e
    have e1 : 13 + l - 13 = l := by omega
    rw [if_pos rfl, if_pos (by omega), e1]
  · rw [if_neg e]
    by_cases q : 13 + (l + 1) ≤ j ∧ j < 13 + mn
    · rw [if_pos q, if_pos (by omega)]
    · rw [if_neg q, if_neg (by omega)]
theorem sit_end (g f : Int32) (dp mn : Nat) (R : Row) : sitR g f dp mn mn R = R := by
  funext j
  simp only [sitR]
  rw [if_neg (by omega)]
theorem sit_same (g f : Int32) (dp mn l : Nat) (R : Row) {i : Nat} (h : l ≤ i) : sitR g f dp mn l R (13 + i) = sitR g f dp mn 0 R (13 + i) := by
  simp only [sitR]
  by_cases q : 13 + i < 13 + mn
  · rw [if_pos (by omega), if_pos (by omega)]
  · rw [if_neg (by omega), if_neg (by omega)]
theorem wetS_keep (p : Nat) (v : Int32) (R : Row) {j : Nat} (h : j < 37) (h2 : j ≠ 11) : wetS p v R j = R j := by
  simp only [wetS, upd]
  rw [if_neg h2, if_neg (by omega)]
theorem bare_le {sh l : Nat} (hs : sh ≤ 9) (hl : l < 100) : (nI 3 - nI sh ≤ nI l) ↔ 3 ≤ l + sh := by
  rw [Int32.le_iff_toInt_le, pk_sub_toInt (by omega) (by omega), nI_toInt (by omega)]
  omega
/-- a week: rain, air, frost, what the earth is -/
def weekW (g f sk dr air : Int32) (fr : Bool) (dp mn : Nat) (R : Row) : Row :=
  fallR dp mn (sitR g f dp mn 0 (crackR fr sk (fun j => R (37 + j)) dp mn 0 (dryR air dp mn (moveR (fun j => comeR dp mn dr R (37 + j)) dp mn (comeR dp mn dr R)))))
def weekR (g f sk dr air : Int32) (fr : Bool) (dp mn : Nat) (R : Row) : Row := upd (if mn = 0 then R else weekW g f sk dr air fr dp mn R) 8 (R 8 + nI 1)
theorem come_keep (dp mn : Nat) (dr : Int32) (R : Row) {j : Nat} (h : j < 37) (h2 : j ≠ 11) : comeR dp mn dr R j = R j := by
  simp only [comeR]
  rw [it_keep (fun i R' => wetS_keep i _ R' h h2), it_keep (fun i R' => wetS_keep (6 * i) _ R' h h2)]
  split
  · rw [it_keep (fun i R' => wetS_keep (6 * (mn - 1) + i) _ R' h h2)]
  · rfl
theorem crackR_w {fr : Bool} {sk : Int32} {w w' : Nat → Int32} {dp l c : Nat} {R : Row} (h : ∀ j, j < 144 → w j = w' j) : crackR fr sk w dp l c R = crackR fr sk w' dp l c R := by
  funext j
  simp only [crackR]
  by_cases q : 181 ≤ j ∧ j < 325
  · rw [h (j - 181) (by omega)]
  · rw [if_neg (fun z => q ⟨z.1, z.2.1⟩), if_neg (fun z => q ⟨z.1, z.2.1⟩)]
end SPEC
