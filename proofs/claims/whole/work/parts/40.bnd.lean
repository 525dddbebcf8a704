section BND
theorem fb_rng (x : Int32) : -2147483648 ≤ x.toInt ∧ x.toInt < 2147483648 := by
  have h1 := Int32.le_toInt x
  have h2 := Int32.toInt_lt x
  omega
theorem fb_bmod {z : Int} (h1 : -2147483648 ≤ z) (h2 : z < 2147483648) : z.bmod (2 ^ 32) = z := by
  rw [Int.bmod_eq_of_le (by omega) (by omega)]
theorem fb_addI {x y : Int32} (h1 : -2147483648 ≤ x.toInt + y.toInt) (h2 : x.toInt + y.toInt < 2147483648) : (x + y).toInt = x.toInt + y.toInt := by
  rw [Int32.toInt_add, fb_bmod h1 h2]
theorem fb_subI {x y : Int32} (h1 : -2147483648 ≤ x.toInt - y.toInt) (h2 : x.toInt - y.toInt < 2147483648) : (x - y).toInt = x.toInt - y.toInt := by
  rw [Int32.toInt_sub, fb_bmod h1 h2]
theorem fb_mulI {x y : Int32} (h1 : -2147483648 ≤ x.toInt * y.toInt) (h2 : x.toInt * y.toInt < 2147483648) : (x * y).toInt = x.toInt * y.toInt := by
  rw [Int32.toInt_mul, fb_bmod h1 h2]
theorem ti_mx (x y : Int32) : (mx x y).toInt = max x.toInt y.toInt := by
  simp only [mx]
  split <;> rename_i h <;> rw [Int32.lt_iff_toInt_lt] at h <;> omega
theorem ti_mi (x y : Int32) : (mi x y).toInt = min x.toInt y.toInt := by
  simp only [mi]
  split <;> rename_i h <;> rw [Int32.lt_iff_toInt_lt] at h <;> omega
theorem ti_div {x y : Int32} (h : 0 < y.toInt) : (x / y).toInt = x.toInt.tdiv y.toInt := by
  have hr := fb_rng x
  have h1 : (x.toInt.tdiv y.toInt).natAbs ≤ x.toInt.natAbs := by
    rw [Int.natAbs_tdiv]
    exact Nat.div_le_self _ _
  rw [Int32.toInt_div]
  by_cases q : x.toInt.tdiv y.toInt < 2147483648
  · exact fb_bmod (by omega) q
  · exfalso
    have h2 : x.toInt = -2147483648 := by omega
    have h3 : x.toInt.tdiv y.toInt ≤ 0 := by
      rw [h2, Int.neg_tdiv]
      have := Int.tdiv_nonneg (a := 2147483648) (b := y.toInt) (by decide) (by omega)
      omega
    omega
theorem ti_divP {x y : Int32} (h : 0 < y.toInt) (hx : 0 ≤ x.toInt) : (x / y).toInt = x.toInt / y.toInt := by
  rw [ti_div h, Int.tdiv_eq_ediv_of_nonneg hx]
theorem ti_divN {x y : Int32} (h : 0 < y.toInt) (hx : x.toInt ≤ 0) : (x / y).toInt = -((-x.toInt) / y.toInt) := by
  rw [ti_div h]
  have e : x.toInt = -(-x.toInt) := by omega
  rw [e, Int.neg_tdiv, Int.neg_neg, Int.tdiv_eq_ediv_of_nonneg (by omega)]
/-- a sum of whole numbers -/
def si (f : Nat → Int) : Nat → Int
  | 0 => 0
  | n + 1 => si f n + f n
theorem sm_si {f : Nat → Int32} {B : Int} (hB : 0 ≤ B) : ∀ {n : Nat}, (∀ i, i < n → 0 ≤ (f i).toInt ∧ (f i).toInt ≤ B) → (n : Int) * B < 2147483648 → (sm f n).toInt = si (fun i => (f i).toInt) n ∧ 0 ≤ si (fun i => (f i).toInt) n ∧ si (fun i => (f i).toInt) n ≤ n * B
  | 0, _, _ => ⟨rfl, by simp [si], by simp [si]⟩
  | n + 1, h, hn => by
    have e : ((n + 1 : Nat) : Int) * B = n * B + B := by rw [Int.natCast_add, Int.add_mul]; simp
    rw [e] at hn ⊢
    obtain ⟨h1, h2, h3⟩ := sm_si hB (n := n) (fun i hi => h i (by omega)) (by omega)
    have h4 := h n (by omega)
    refine ⟨?_, by simp only [si]; omega, by simp only [si]; omega⟩
    rw [sm, fb_addI (by omega) (by omega), h1]
    rfl
/-- the water of the live cells is in its bounds -/
def WOK (R : Row) (dp mn : Nat) : Prop := ∀ p, p / 6 < mn → p % 6 < dp → 0 ≤ (R (37 + p)).toInt ∧ (R (37 + p)).toInt ≤ 400
/-- what fresh and dry earth bears -/
def GF (g f : Int32) : Prop := 10 ≤ g.toInt ∧ g.toInt ≤ 208 ∧ 40 ≤ f.toInt ∧ f.toInt ≤ 1030
variable {g f : Int32} {R : Row} {dp mn : Nat}
theorem strg_b (hG : GF g f) {p : Nat} (hw : 0 ≤ (R (37 + p)).toInt ∧ (R (37 + p)).toInt ≤ 400) : 0 ≤ (strg g f R p).toInt ∧ (strg g f R p).toInt ≤ 1238 := by
  obtain ⟨g1, g2, g3, g4⟩ := hG
  have e180 : (nI 180).toInt = 180 := rfl
  have e60 : (nI 60).toInt = 60 := rfl
  have e2 : (nI 2).toInt = 2 := rfl
  have h1 : (nI 180 - R (37 + p)).toInt = 180 - (R (37 + p)).toInt := fb_subI (by omega) (by omega)
  obtain ⟨m, hm⟩ : ∃ m, m = mx 0 (mi (nI 60) (nI 180 - R (37 + p))) := ⟨_, rfl⟩
  have h2 : 0 ≤ m.toInt ∧ m.toInt ≤ 60 := by
    rw [hm, ti_mx, ti_mi]
    have : (0 : Int32).toInt = 0 := rfl
    omega
  have h3 : 0 ≤ f.toInt * m.toInt := Int.mul_nonneg (by omega) h2.1
  have h4 : f.toInt * m.toInt ≤ 1030 * 60 := Int.mul_le_mul g4 h2.2 h2.1 (by decide)
  have h5 : (f * m).toInt = f.toInt * m.toInt := fb_mulI (by omega) (by omega)
  have h6 : (f * m / nI 60).toInt = f.toInt * m.toInt / 60 := by rw [ti_divP (by decide) (by omega), h5]; rfl
  have h7 : (g + f * m / nI 60).toInt = g.toInt + f.toInt * m.toInt / 60 := by rw [fb_addI (by omega) (by omega), h6]
  simp only [strg]
  rw [← hm]
  split
  · exact ⟨by decide, by decide⟩
  · split
    · rw [ti_divP (by decide) (by omega), h7, e2]
      omega
    · omega
theorem lod_b {p : Nat} (hw : 0 ≤ (R (37 + p)).toInt ∧ (R (37 + p)).toInt ≤ 400) : 0 ≤ (lod R p).toInt ∧ (lod R p).toInt ≤ 18 := by
  have e50 : (nI 50).toInt = 50 := rfl
  have e10 : (nI 10).toInt = 10 := rfl
  simp only [lod]
  split
  · exact ⟨by decide, by decide⟩
  · have h1 : (R (37 + p) / nI 50).toInt = (R (37 + p)).toInt / 50 := by rw [ti_divP (by decide) (by omega)]; rfl
    rw [fb_addI (by omega) (by omega)]
    omega
theorem bear_b (hG : GF g f) (hO : WOK R dp mn) (hd : dp ≤ 6) (h7 : R 7 = 0 ∨ R 7 = 1) {l : Nat} (hl : l < mn) : 0 ≤ (bear g f R dp l).toInt ∧ (bear g f R dp l).toInt ≤ 7478 := by
  have h1 := sm_si (f := fun c => strg g f R (6 * l + c)) (B := 1238) (n := dp) (by decide) (fun i hi => strg_b hG (hO _ (by omega) (by omega))) (by omega)
  have h2 : (R 7 * nI 50).toInt = 0 ∨ (R 7 * nI 50).toInt = 50 := by
    rcases h7 with h | h <;> rw [h]
    · left; rfl
    · right; rfl
  simp only [bear]
  rw [fb_addI (by omega) (by omega)]
  omega
theorem lods_b (hO : WOK R dp mn) (hd : dp ≤ 6) {l : Nat} (hl : l < mn) : 0 ≤ (lods R dp l).toInt ∧ (lods R dp l).toInt ≤ 108 := by
  have h1 := sm_si (f := fun c => lod R (6 * l + c)) (B := 18) (n := dp) (by decide) (fun i hi => lod_b (hO _ (by omega) (by omega))) (by omega)
  simp only [lods]
  omega
theorem prs_b (hO : WOK R dp mn) (hd : dp ≤ 6) (hm : mn ≤ 24) {l n : Nat} (hl : l + n < mn) : 0 ≤ (prs R dp l n).toInt ∧ (prs R dp l n).toInt ≤ 2592 := by
  have h1 := sm_si (f := fun i => lods R dp (l + 1 + i)) (B := 108) (n := n) (by decide) (fun i hi => lods_b hO hd (by omega)) (by omega)
  simp only [prs]
  omega
theorem sm_add (h : Nat → Int32) (a : Nat) : ∀ b, sm h (a + b) = sm h a + sm (fun i => h (a + i)) b
  | 0 => by rw [Nat.add_zero]; simp only [sm]; exact (Int32.add_zero _).symm
  | b + 1 => by rw [← Nat.add_assoc, sm, sm, sm_add h a b, add3]
theorem sm_const (n x : Nat) : sm (fun _ => nI x) n = nI (n * x) := by
  induction n with
  | zero => rw [Nat.zero_mul]; rfl
  | succ n ih => rw [sm, ih, nI_add, Nat.add_mul, Nat.one_mul]
theorem sm_constg (n : Nat) (x : Int32) : sm (fun _ => x) n = nI n * x := by
  induction n with
  | zero => simp only [sm]; exact (Int32.zero_mul).symm
  | succ n ih =>
    rw [sm, ih]
    have e : nI (n + 1) = nI n + nI 1 := (nI_add n 1).symm
    rw [e, Int32.add_mul]
    congr 1
    exact (Int32.one_mul x).symm
theorem rais_step (dp mn n : Nat) (R : Row) : raisR dp mn (n + 1) R = rais1 dp (mn + n) (raisR dp mn n R) := rfl
theorem rais_tr (dp mn : Nat) (R : Row) {j : Nat} (h : j < 13) (h1 : j ≠ 1) (h2 : j ≠ 11) : ∀ n, raisR dp mn n R j = R j
  | 0 => rfl
  | n + 1 => by
    rw [rais_step]
    simp only [rais1]
    rw [if_neg h2, if_neg h1, rIn_lo _ _ _ h, rais_tr dp mn R h h1 h2 n]
theorem rais_old (dp mn : Nat) (R : Row) {p : Nat} (h : p < 6 * mn) (hd : dp ≤ 6) (hm : 6 * mn ≤ 144): ∀ n, mn + n ≤ 24 → raisR dp mn n R (37 + p) = R (37 + p) ∧ raisR dp mn n R (181 + p) = R (181 + p)
  | 0, _ => ⟨rfl, rfl⟩
  | n + 1, hn => by
    obtain ⟨i1, i2⟩ := rais_old dp mn R h hd hm n (by omega)
    rw [rais_step]
    simp only [rais1, rIn]
    constructor
    · rw [if_neg (by omega), if_neg (by omega), if_neg (by omega), if_neg (by omega), if_neg (by omega), i1]
    · rw [if_neg (by omega), if_neg (by omega), if_neg (by omega), if_neg (by omega), if_neg (by omega), i2]
theorem rais_blg (dp mn : Nat) (R : Row) {l : Nat} (h : l < mn) (hm : mn ≤ 24) (hd : dp ≤ 6) : ∀ n, mn + n ≤ 24 → raisR dp mn n R (13 + l) = R (13 + l)
  | 0, _ => rfl
  | n + 1, hn => by
    have i1 := rais_blg dp mn R h hm hd n (by omega)
    rw [rais_step]
    simp only [rais1, rIn]
    rw [if_neg (by omega), if_neg (by omega), if_neg (by omega), if_neg (by omega), if_neg (by omega), i1]
theorem rais_new (dp mn : Nat) (R : Row) (hd : dp ≤ 6) {i c : Nat} (hc : c < dp) : ∀ n, i < n → mn + n ≤ 24 → raisR dp mn n R (37 + (6 * (mn + i) + c)) = nI 200 ∧ raisR dp mn n R (181 + (6 * (mn + i) + c)) = 0 ∧ raisR dp mn n R (13 + (mn + i)) = 0
  | 0, h, _ => absurd h (Nat.not_lt_zero i)
  | n + 1, h, hn => by
    rw [rais_step]
    simp only [rais1, rIn]
    by_cases e : i = n
    · subst e
      refine ⟨?_, ?_, ?_⟩
      · rw [if_neg (by omega), if_neg (by omega), if_neg (by omega), if_pos (by omega)]
      · rw [if_neg (by omega), if_neg (by omega), if_neg (by omega), if_neg (by omega), if_pos (by omega)]
      · rw [if_neg (by omega), if_neg (by omega), if_pos (by omega)]
    · obtain ⟨i1, i2, i3⟩ := rais_new dp mn R hd (i := i) hc n (by omega) (by omega)
      refine ⟨?_, ?_, ?_⟩
      · rw [if_neg (by omega), if_neg (by omega), if_neg (by omega), if_neg (by omega), if_neg (by omega), i1]
      · rw [if_neg (by omega), if_neg (by omega), if_neg (by omega), if_neg (by omega), if_neg (by omega), i2]
      · rw [if_neg (by omega), if_neg (by omega), if_neg (by omega), if_neg (by omega), if_neg (by omega), i3]
theorem rais_wok (hO : WOK R dp mn) (hd : dp ≤ 6) {n : Nat} (hn : mn + n ≤ 24) : WOK (raisR dp mn n R) dp (mn + n) := by
  intro p h1 h2
  by_cases q : p < 6 * mn
  · rw [(rais_old dp mn R q hd (by omega) n hn).1]
    exact hO p (by omega) h2
  · have h := (rais_new dp mn R hd h2 (i := p / 6 - mn) n (by omega) hn).1
    rw [show 6 * (mn + (p / 6 - mn)) + p % 6 = p by omega] at h
    rw [h]
    exact ⟨by decide, by decide⟩
theorem strg_at {R R' : Row} {p : Nat} (h1 : R (37 + p) = R' (37 + p)) (h2 : R (181 + p) = R' (181 + p)) : strg g f R p = strg g f R' p := by
  simp only [strg]; rw [h1, h2]
theorem lod_at {R R' : Row} {p : Nat} (h1 : R (37 + p) = R' (37 + p)) (h2 : R (181 + p) = R' (181 + p)) : lod R p = lod R' p := by
  simp only [lod]; rw [h1, h2]
theorem rais_bear (hd : dp ≤ 6) {n l : Nat} (hn : mn + n ≤ 24) (hl : l < mn) : bear g f (raisR dp mn n R) dp l = bear g f R dp l := by
  simp only [bear]
  rw [rais_tr dp mn R (by decide) (by decide) (by decide) n, sm_cong (fun c hc => strg_at (rais_old dp mn R (p := 6 * l + c) (by omega) hd (by omega) n hn).1 (rais_old dp mn R (p := 6 * l + c) (by omega) hd (by omega) n hn).2)]
theorem rais_lods (hd : dp ≤ 6) {n l : Nat} (hn : mn + n ≤ 24) (hl : l < mn) : lods (raisR dp mn n R) dp l = lods R dp l := by
  simp only [lods]
  exact sm_cong (fun c hc => lod_at (rais_old dp mn R (p := 6 * l + c) (by omega) hd (by omega) n hn).1 (rais_old dp mn R (p := 6 * l + c) (by omega) hd (by omega) n hn).2)
theorem rais_bear' (hd : dp ≤ 6) {n i : Nat} (hn : mn + n ≤ 24) (hi : i < n) : bear g f (raisR dp mn n R) dp (mn + i) = R 7 * nI 50 + nI dp * g := by
  simp only [bear]
  rw [rais_tr dp mn R (by decide) (by decide) (by decide) n, ← sm_constg]
  congr 1
  refine sm_cong (fun c hc => ?_)
  obtain ⟨h1, h2, -⟩ := rais_new dp mn R hd hc n hi hn
  simp only [strg]
  rw [h1, h2, if_neg (by decide), if_neg (by decide)]
  rw [show mx 0 (mi (nI 60) (nI 180 - nI 200)) = 0 from by decide, Int32.mul_zero]
  show g + (0 : Int32) / nI 60 = g
  rw [show (0 : Int32) / nI 60 = 0 from by decide, Int32.add_zero]
theorem rais_lods' (hd : dp ≤ 6) {n i : Nat} (hn : mn + n ≤ 24) (hi : i < n) : lods (raisR dp mn n R) dp (mn + i) = nI (dp * 14) := by
  simp only [lods]
  rw [← sm_const]
  refine sm_cong (fun c hc => ?_)
  obtain ⟨h1, h2, -⟩ := rais_new dp mn R hd hc n hi hn
  simp only [lod]
  rw [h1, h2, if_neg (by decide)]
  decide
theorem rais_prs (hd : dp ≤ 6) {n l : Nat} (hn : mn + n ≤ 24) (hl : l < mn) : prs (raisR dp mn n R) dp l (mn + n - 1 - l) = prs R dp l (mn - 1 - l) + nI (n * (dp * 14)) := by
  simp only [prs]
  rw [show mn + n - 1 - l = (mn - 1 - l) + n by omega, sm_add]
  congr 1
  · exact sm_cong (fun i hi => rais_lods hd hn (by omega))
  · rw [← sm_const]
    refine sm_cong (fun i hi => ?_)
    show lods (raisR dp mn n R) dp (l + 1 + ((mn - 1 - l) + i)) = _
    rw [show l + 1 + ((mn - 1 - l) + i) = mn + i by omega]
    exact rais_lods' hd hn hi
theorem rais_prs' (hd : dp ≤ 6) {n i : Nat} (hn : mn + n ≤ 24) (hi : i < n) : prs (raisR dp mn n R) dp (mn + i) (mn + n - 1 - (mn + i)) = nI ((n - 1 - i) * (dp * 14)) := by
  simp only [prs]
  rw [show mn + n - 1 - (mn + i) = n - 1 - i by omega, ← sm_const]
  refine sm_cong (fun j hj => ?_)
  rw [show mn + i + 1 + j = mn + (i + 1 + j) by omega]
  exact rais_lods' hd hn (by omega)
/-- some layer sits -/
def sitB (g f : Int32) (R : Row) (dp mn : Nat) : Bool := anyB (fun l => decide (bear g f R dp l < prs R dp l (mn - 1 - l))) mn
theorem anyB_false {p : Nat → Bool} : ∀ {n : Nat}, anyB p n = false ↔ ∀ i, i < n → p i = false
  | 0 => ⟨fun _ i h => absurd h (Nat.not_lt_zero i), fun _ => rfl⟩
  | n + 1 => by
    rw [anyB, Bool.or_eq_false_iff, anyB_false]
    constructor
    · rintro ⟨h1, h2⟩ i hi
      rcases Nat.lt_or_ge i n with q | q
      · exact h1 i q
      · rw [show i = n by omega]; exact h2
    · intro h
      exact ⟨fun i hi => h i (by omega), h n (by omega)⟩
theorem sitB_false : sitB g f R dp mn = false ↔ ∀ l, l < mn → (prs R dp l (mn - 1 - l)).toInt ≤ (bear g f R dp l).toInt := by
  simp only [sitB]
  rw [anyB_false]
  constructor
  · intro h l hl
    have := of_decide_eq_false (h l hl)
    rw [Int32.lt_iff_toInt_lt] at this
    omega
  · intro h l hl
    apply decide_eq_false
    rw [Int32.lt_iff_toInt_lt]
    have := h l hl
    omega
/-- how much more may press on the n highest layers -/
def spr (g f : Int32) (R : Row) (dp mn : Nat) : Nat → Int32
  | 0 => nI 1000000
  | n + 1 => mi (spr g f R dp mn n) (bear g f R dp (mn - 1 - n) - prs R dp (mn - 1 - n) n)
theorem spr_le (hG : GF g f) (hO : WOK R dp mn) (hd : dp ≤ 6) (hm : mn ≤ 24) (h7 : R 7 = 0 ∨ R 7 = 1) {z : Int} (hz : z ≤ 1000000) : ∀ {n : Nat}, n ≤ mn → (z ≤ (spr g f R dp mn n).toInt ↔ ∀ i, i < n → z + (prs R dp (mn - 1 - i) i).toInt ≤ (bear g f R dp (mn - 1 - i)).toInt)
  | 0, _ => ⟨fun _ i h => absurd h (Nat.not_lt_zero i), fun _ => by simp only [spr]; exact hz⟩
  | n + 1, hn => by
    have ih := spr_le hG hO hd hm h7 hz (n := n) (by omega)
    have b1 := bear_b hG hO hd h7 (l := mn - 1 - n) (by omega)
    have b2 := prs_b hO hd hm (l := mn - 1 - n) (n := n) (by omega)
    have e : (bear g f R dp (mn - 1 - n) - prs R dp (mn - 1 - n) n).toInt = (bear g f R dp (mn - 1 - n)).toInt - (prs R dp (mn - 1 - n) n).toInt := fb_subI (by omega) (by omega)
    simp only [spr]
    rw [ti_mi, e]
    constructor
    · intro h i hi
      rcases Nat.lt_or_ge i n with q | q
      · exact ih.mp (by omega) i q
      · rw [show i = n by omega]; omega
    · intro h
      have h1 := ih.mpr (fun i hi => h i (by omega))
      have h2 := h n (by omega)
      omega
theorem sit_spr (hG : GF g f) (hO : WOK R dp mn) (hd : dp ≤ 6) (hm : mn ≤ 24) (h7 : R 7 = 0 ∨ R 7 = 1) : sitB g f R dp mn = decide (spr g f R dp mn mn < 0) := by
  have h0 : (0 : Int32).toInt = 0 := rfl
  have h1 := spr_le hG hO hd hm h7 (z := 0) (by decide) (n := mn) (Nat.le_refl _)
  cases q : sitB g f R dp mn with
  | false =>
    symm
    apply decide_eq_false
    rw [Int32.lt_iff_toInt_lt]
    have h2 := h1.mpr (fun i hi => by
      have := sitB_false.mp q (mn - 1 - i) (by omega)
      rw [show mn - 1 - (mn - 1 - i) = i by omega] at this
      omega)
    omega
  | true =>
    symm
    apply decide_eq_true
    rw [Int32.lt_iff_toInt_lt, h0]
    refine Int.not_le.mp (fun h2 => ?_)
    have h3 := h1.mp h2
    have h4 : sitB g f R dp mn = false := sitB_false.mpr (fun l hl => by
      have := h3 (mn - 1 - l) (by omega)
      rw [show mn - 1 - (mn - 1 - l) = l by omega] at this
      omega)
    rw [h4] at q
    cases q
/-- raised by n layers nothing sits -/
theorem sit_rais (hG : GF g f) (hO : WOK R dp mn) (hd : dp ≤ 6) (hm : mn ≤ 24) (h7 : R 7 = 0 ∨ R 7 = 1) {n : Nat} (hn : mn + n ≤ 24) : sitB g f (raisR dp mn n R) dp (mn + n) = false ↔ (((n * (dp * 14) : Nat) : Int) ≤ (spr g f R dp mn mn).toInt ∧ ∀ i, i < n → (((n - 1 - i) * (dp * 14) : Nat) : Int) ≤ (R 7 * nI 50 + nI dp * g).toInt) := by
  have hb : n * (dp * 14) ≤ 24 * 84 := Nat.mul_le_mul (by omega) (by omega)
  rw [sitB_false, spr_le hG hO hd hm h7 (by omega) (Nat.le_refl _)]
  have key : ∀ l, l < mn → ((prs (raisR dp mn n R) dp l (mn + n - 1 - l)).toInt ≤ (bear g f (raisR dp mn n R) dp l).toInt ↔ ((n * (dp * 14) : Nat) : Int) + (prs R dp l (mn - 1 - l)).toInt ≤ (bear g f R dp l).toInt) := by
    intro l hl
    have b2 := prs_b hO hd hm (l := l) (n := mn - 1 - l) (by omega)
    have e1 : (nI (n * (dp * 14))).toInt = ((n * (dp * 14) : Nat) : Int) := nI_toInt (by omega)
    rw [rais_bear hd hn hl, rais_prs hd hn hl, fb_addI (by omega) (by omega), e1]
    omega
  have key2 : ∀ i, i < n → ((prs (raisR dp mn n R) dp (mn + i) (mn + n - 1 - (mn + i))).toInt ≤ (bear g f (raisR dp mn n R) dp (mn + i)).toInt ↔ (((n - 1 - i) * (dp * 14) : Nat) : Int) ≤ (R 7 * nI 50 + nI dp * g).toInt) := by
    intro i hi
    have hb2 : (n - 1 - i) * (dp * 14) ≤ 24 * 84 := Nat.mul_le_mul (by omega) (by omega)
    rw [rais_bear' hd hn hi, rais_prs' hd hn hi, nI_toInt (by omega)]
  constructor
  · intro h
    refine ⟨fun i hi => ?_, fun i hi => (key2 i hi).mp (h (mn + i) (by omega))⟩
    have := (key (mn - 1 - i) (by omega)).mp (h (mn - 1 - i) (by omega))
    rw [show mn - 1 - (mn - 1 - i) = i by omega] at this
    exact this
  · rintro ⟨h1, h2⟩ l hl
    rcases Nat.lt_or_ge l mn with q | q
    · refine (key l q).mpr ?_
      have := h1 (mn - 1 - l) (by omega)
      rw [show mn - 1 - (mn - 1 - l) = l by omega] at this
      exact this
    · have h3 := (key2 (l - mn) (by omega)).mpr (h2 (l - mn) (by omega))
      rw [show mn + (l - mn) = l by omega] at h3
      exact h3
/-- how far one comes with nothing that holds it up, n steps from b on -/
def hiN (s : Nat → Bool) : Nat → Nat → Nat
  | b, 0 => b
  | b, n + 1 => if s (b + 1) = true then b else hiN s (b + 1) n
theorem hiN_le (s : Nat → Bool) : ∀ (n b : Nat), b ≤ hiN s b n ∧ hiN s b n ≤ b + n
  | 0, b => by simp [hiN]
  | n + 1, b => by
    have := hiN_le s n (b + 1)
    simp only [hiN]
    split <;> omega
theorem hiN_all (s : Nat → Bool) : ∀ (n b : Nat), (∀ i, i < n → s (b + 1 + i) = false) → hiN s b n = b + n
  | 0, b, _ => rfl
  | n + 1, b, h => by
    have h0 := h 0 (by omega)
    rw [Nat.add_zero] at h0
    simp only [hiN]
    rw [h0, if_neg (by decide), hiN_all s n (b + 1) (fun i hi => by
      have := h (i + 1) (by omega)
      rw [show b + 1 + (i + 1) = b + 1 + 1 + i by omega] at this
      exact this)]
    omega
theorem hiN_last (s : Nat → Bool) : ∀ (n b : Nat), s (b + 1 + n) = true → hiN s b (n + 1) = hiN s b n
  | 0, b, h => by simp only [hiN]; rw [Nat.add_zero] at h; rw [if_pos h]
  | n + 1, b, h => by
    have ih := hiN_last s n (b + 1) (by rw [show b + 1 + 1 + n = b + 1 + (n + 1) by omega]; exact h)
    rw [hiN, ih]
    rfl
/-- how many layers may be put up -/
def hiR (g f : Int32) (R : Row) (dp mn : Nat) : Nat := if sitB g f R dp mn = true then 0 else hiN (fun n => sitB g f (raisR dp mn n R) dp (mn + n)) 0 (min 9 (24 - mn))
theorem hiR_le (g f : Int32) (R : Row) (dp mn : Nat) : hiR g f R dp mn ≤ 9 ∧ hiR g f R dp mn ≤ 24 - mn := by
  simp only [hiR]
  have := hiN_le (fun n => sitB g f (raisR dp mn n R) dp (mn + n)) (min 9 (24 - mn)) 0
  split <;> omega
end BND
