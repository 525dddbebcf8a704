section RD
variable {β : Nat → Int32} {n : Nat}
theorem tt_t : true = true := rfl
theorem ff_t : ¬ (false = true) := by decide
/-! reading a text: signs, tokens, lines -/
def isSp (c : Int32) : Bool := decide (c = nI 32 ∨ c = nI 10)
def isLe (c : Int32) : Bool := decide (nI 97 ≤ c ∧ c ≤ nI 122)
def isDi (c : Int32) : Bool := decide (nI 48 ≤ c ∧ c ≤ nI 57)
def runF (f : Int32 → Bool) (β : Nat → Int32) : Nat → Nat → Nat
  | 0, p => p
  | m + 1, p => if f (β p) = true then runF f β m (p + 1) else p
/-- how far a run of such signs goes -/
def run (f : Int32 → Bool) (β : Nat → Int32) (n p : Nat) : Nat := runF f β (n - p) p
theorem run_stop {f : Int32 → Bool} {p : Nat} (h : n ≤ p) : run f β n p = p := by rw [run, show n - p = 0 by omega]; rfl
theorem run_no {f : Int32 → Bool} {p : Nat} (h : f (β p) = false) : run f β n p = p := by
  rw [run]
  cases n - p with
  | zero => rfl
  | succ m => rw [runF, h, if_neg ff_t]
theorem run_yes {f : Int32 → Bool} {p : Nat} (h : p < n) (hf : f (β p) = true) : run f β n p = run f β n (p + 1) := by
  rw [run, run, show n - p = (n - (p + 1)) + 1 by omega, runF, if_pos hf]
theorem run_b {f : Int32 → Bool} : ∀ (m p : Nat), p + m = n → p ≤ run f β n p ∧ run f β n p ≤ n := by
  intro m
  induction m with
  | zero => intro p h; rw [run_stop (by omega)]; omega
  | succ m ih =>
    intro p h
    cases hf : f (β p) with
    | false => rw [run_no hf]; omega
    | true =>
      rw [run_yes (by omega) hf]
      have := ih (p + 1) (by omega)
      omega
theorem run_le {f : Int32 → Bool} {p : Nat} (h : p ≤ n) : p ≤ run f β n p ∧ run f β n p ≤ n := run_b (n - p) p (by omega)
theorem run_in {f : Int32 → Bool} : ∀ (m p : Nat), p + m = n → ∀ i, p ≤ i → i < run f β n p → f (β i) = true := by
  intro m
  induction m with
  | zero => intro p h i h1 h2; rw [run_stop (by omega)] at h2; omega
  | succ m ih =>
    intro p h i h1 h2
    cases hf : f (β p) with
    | false => rw [run_no hf] at h2; omega
    | true =>
      rw [run_yes (by omega) hf] at h2
      by_cases e : i = p
      · rw [e]; exact hf
      · exact ih (p + 1) (by omega) i (by omega) h2
/-- where a text is read: fault, its place, token, its begin, its end -/
abbrev RdS : Type := Nat × Nat × Nat × Nat × Nat
def tkS (β : Nat → Int32) (n p : Nat) : Nat := run isSp β n p
def tkK (β : Nat → Int32) (n s : Nat) : Nat := if n ≤ s then 0 else if isLe (β s) = true then 1 else if isDi (β s) = true then 2 else if β s = nI 59 then 3 else 4
def tkE (β : Nat → Int32) (n s : Nat) : Nat := if n ≤ s then s else if isLe (β s) = true then run isLe β n s else if isDi (β s) = true then run isDi β n s else s + 1
def adv (β : Nat → Int32) (n : Nat) (σ : RdS) : RdS := (σ.1, σ.2.1, tkK β n (tkS β n σ.2.2.2.2), tkS β n σ.2.2.2.2, tkE β n (tkS β n σ.2.2.2.2))
def refu (k : Nat) (σ : RdS) : RdS := if σ.1 = 0 then (k, σ.2.2.2.1, σ.2.2) else σ
/-- the token is one of the text -/
def PV (β : Nat → Int32) (n : Nat) (σ : RdS) : Prop := σ.2.2.2.1 ≤ n ∧ σ.2.2.1 = tkK β n σ.2.2.2.1 ∧ σ.2.2.2.2 = tkE β n σ.2.2.2.1
theorem tkE_b {s : Nat} (h : s ≤ n) : s ≤ tkE β n s ∧ tkE β n s ≤ n ∧ (tkK β n s ≠ 0 → s < tkE β n s) := by
  unfold tkE tkK
  by_cases h0 : n ≤ s
  · rw [if_pos h0, if_pos h0]; omega
  · rw [if_neg h0, if_neg h0]
    cases h1 : isLe (β s) with
    | true =>
      rw [if_pos tt_t, if_pos tt_t, run_yes (by omega) h1]
      have := run_le (f := isLe) (β := β) (n := n) (p := s + 1) (by omega)
      omega
    | false =>
      rw [if_neg ff_t, if_neg ff_t]
      cases h2 : isDi (β s) with
      | true =>
        rw [if_pos tt_t, if_pos tt_t, run_yes (by omega) h2]
        have := run_le (f := isDi) (β := β) (n := n) (p := s + 1) (by omega)
        omega
      | false =>
        rw [if_neg ff_t]
        omega
theorem PV.e {σ : RdS} (h : PV β n σ) : σ.2.2.2.1 ≤ σ.2.2.2.2 ∧ σ.2.2.2.2 ≤ n := by
  have := tkE_b (β := β) h.1
  rw [h.2.2]
  omega
theorem tkK_le (s : Nat) : tkK β n s ≤ 4 := by
  unfold tkK
  repeat' split
  all_goals omega
theorem PV.k {σ : RdS} (h : PV β n σ) : σ.2.2.1 ≤ 4 := by rw [h.2.1]; exact tkK_le _
theorem adv_v {σ : RdS} (h : σ.2.2.2.2 ≤ n) : PV β n (adv β n σ) := ⟨(run_le h).2, rfl, rfl⟩
/-- what lies between two places of the reading -/
def RV (β : Nat → Int32) (n : Nat) (σ σ' : RdS) : Prop := PV β n σ' ∧ σ.2.2.2.2 ≤ σ'.2.2.2.2 ∧ ((σ'.2.2.1 = σ.2.2.1 ∧ σ'.2.2.2.2 = σ.2.2.2.2) ∨ (σ'.2.2.1 ≠ 0 → σ.2.2.2.2 < σ'.2.2.2.2))
theorem RV.rfl {σ : RdS} (h : PV β n σ) : RV β n σ σ := ⟨h, Nat.le_refl _, Or.inl ⟨Eq.refl _, Eq.refl _⟩⟩
theorem RV.trans {σ σ' σ'' : RdS} (h : RV β n σ σ') (h' : RV β n σ' σ'') : RV β n σ σ'' := by
  obtain ⟨-, h2, h3⟩ := h
  obtain ⟨k1, k2, k3⟩ := h'
  refine ⟨k1, Nat.le_trans h2 k2, ?_⟩
  rcases h3 with ⟨a, b⟩ | h3
  · rcases k3 with ⟨c, d⟩ | k3
    · exact Or.inl ⟨c.trans a, d.trans b⟩
    · exact Or.inr (fun q => by have := k3 q; omega)
  · rcases k3 with ⟨c, d⟩ | k3
    · exact Or.inr (fun q => by have := h3 (by rw [← c]; exact q); omega)
    · exact Or.inr (fun q => by have := k3 q; omega)
theorem adv_rv {σ : RdS} (h : PV β n σ) : RV β n σ (adv β n σ) := by
  have he := h.e
  have hv := adv_v (β := β) he.2
  have hs := run_le (f := isSp) (β := β) he.2
  have hb := tkE_b (β := β) hs.2
  exact ⟨hv, by show σ.2.2.2.2 ≤ tkE β n (run isSp β n σ.2.2.2.2); omega, Or.inr (fun q => by
    have := hb.2.2 q
    show σ.2.2.2.2 < tkE β n (run isSp β n σ.2.2.2.2)
    omega)⟩
theorem refu_k (k : Nat) (σ : RdS) : (refu k σ).2.2 = σ.2.2 := by unfold refu; split <;> rfl
theorem refu_rv (k : Nat) {σ : RdS} (h : PV β n σ) : RV β n σ (refu k σ) := by
  unfold RV PV
  rw [refu_k]
  exact RV.rfl h
theorem refu_bad {k : Nat} (hk : k ≠ 0) (σ : RdS) : (refu k σ).1 ≠ 0 := by
  unfold refu
  by_cases h : σ.1 = 0
  · rw [if_pos h]; exact hk
  · rw [if_neg h]; exact h
def dg (x : Int32) : Nat := x.toNatClampNeg - 48
/-- the number that so many signs spell -/
def nm (β : Nat → Int32) (s : Nat) : Nat → Nat
  | 0 => 0
  | m + 1 => 10 * nm β s m + dg (β (s + m))
def tokN (β : Nat → Int32) (σ : RdS) : Nat := nm β σ.2.2.2.1 (σ.2.2.2.2 - σ.2.2.2.1)
theorem isDi_dg {c : Int32} (h : isDi c = true) : c = nI (48 + dg c) ∧ dg c ≤ 9 := by
  have h := of_decide_eq_true h
  have h1 := Int32.le_iff_toInt_le.mp h.1
  have h2 := Int32.le_iff_toInt_le.mp h.2
  rw [nI_toInt (by decide)] at h1 h2
  have e : c = nI c.toInt.toNat := (nI_tn (by omega)).symm
  have e2 : c.toNatClampNeg = c.toInt.toNat := rfl
  unfold dg
  rw [e2]
  refine ⟨?_, by omega⟩
  rw [show 48 + (c.toInt.toNat - 48) = c.toInt.toNat by omega]
  exact e
theorem nm_lt (s : Nat) : ∀ m, (∀ i, i < m → isDi (β (s + i)) = true) → nm β s m + 1 ≤ 10 ^ m
  | 0, _ => Nat.le_refl 1
  | m + 1, h => by
    have h1 := nm_lt s m (fun i hi => h i (by omega))
    have h2 := (isDi_dg (h m (by omega))).2
    rw [nm, Nat.pow_succ]
    omega
theorem PV.di {σ : RdS} (h : PV β n σ) (hk : σ.2.2.1 = 2) : ∀ i, i < σ.2.2.2.2 - σ.2.2.2.1 → isDi (β (σ.2.2.2.1 + i)) = true := by
  intro i hi
  have h1 := h.2.1
  have h2 := h.2.2
  rw [hk] at h1
  unfold tkK at h1
  unfold tkE at h2
  by_cases h0 : n ≤ σ.2.2.2.1
  · rw [if_pos h0] at h1; omega
  · rw [if_neg h0] at h1 h2
    cases hl : isLe (β σ.2.2.2.1) with
    | true => rw [hl, if_pos tt_t] at h1; omega
    | false =>
      rw [hl, if_neg ff_t] at h1 h2
      cases hd : isDi (β σ.2.2.2.1) with
      | false =>
        rw [hd, if_neg ff_t] at h1
        split at h1 <;> omega
      | true =>
        rw [hd, if_pos tt_t] at h2
        rw [h2] at hi
        exact run_in (n := n) (n - σ.2.2.2.1) σ.2.2.2.1 (by omega) (σ.2.2.2.1 + i) (by omega) (by omega)
def takeN (β : Nat → Int32) (n lo hi : Nat) (σ : RdS) : Nat × RdS := if σ.1 ≠ 0 then (lo, σ) else if σ.2.2.1 ≠ 2 then (lo, refu 1 σ) else if 4 < σ.2.2.2.2 - σ.2.2.2.1 ∨ tokN β σ < lo ∨ hi < tokN β σ then (lo, refu 2 σ) else (tokN β σ, adv β n σ)
def wd (w : List Nat) (β : Nat → Int32) (σ : RdS) : Bool := decide (σ.2.2.1 = 1) && decide (σ.2.2.2.2 - σ.2.2.2.1 = w.length) && allB (fun i => decide (β (σ.2.2.2.1 + i) = nI (w.getD i 0))) w.length
def takeW (w : List Nat) (β : Nat → Int32) (n : Nat) (σ : RdS) : Bool × RdS := if σ.1 = 0 ∧ wd w β σ = true then (true, adv β n σ) else (false, σ)
def takeO (w : List Nat) (β : Nat → Int32) (n hi wo : Nat) (σ : RdS) : Nat × RdS := if (takeW w β n σ).1 = true then takeN β n 0 hi (takeW w β n σ).2 else (wo, (takeW w β n σ).2)
theorem takeN_rv (lo hi : Nat) {σ : RdS} (h : PV β n σ) : RV β n σ (takeN β n lo hi σ).2 := by
  unfold takeN
  split
  · exact RV.rfl h
  · split
    · exact refu_rv 1 h
    · split
      · exact refu_rv 2 h
      · exact adv_rv h
theorem takeW_rv (w : List Nat) {σ : RdS} (h : PV β n σ) : RV β n σ (takeW w β n σ).2 := by
  unfold takeW
  split
  · exact adv_rv h
  · exact RV.rfl h
theorem takeO_rv (w : List Nat) (hi wo : Nat) {σ : RdS} (h : PV β n σ) : RV β n σ (takeO w β n hi wo σ).2 := by
  have h1 := takeW_rv (β := β) w h
  unfold takeO
  split
  · exact h1.trans (takeN_rv 0 hi h1.1)
  · exact h1
theorem takeN_b {lo hi : Nat} (h : lo ≤ hi) (σ : RdS) : lo ≤ (takeN β n lo hi σ).1 ∧ (takeN β n lo hi σ).1 ≤ hi := by
  unfold takeN
  split
  · exact ⟨Nat.le_refl _, h⟩
  · split
    · exact ⟨Nat.le_refl _, h⟩
    · split
      · exact ⟨Nat.le_refl _, h⟩
      · rename_i q
        show lo ≤ tokN β σ ∧ tokN β σ ≤ hi
        omega
theorem takeO_b (w : List Nat) {hi wo : Nat} (h : wo ≤ hi) (σ : RdS) : (takeO w β n hi wo σ).1 ≤ hi := by
  unfold takeO
  split
  · exact (takeN_b (Nat.zero_le hi) _).2
  · exact h
/-- what a text has told: earth told, earth, walls, weeks -/
abbrev DR : Type := Bool × (Nat × Nat × Nat) × (Nat × (Nat → Nat)) × (Nat × (Nat → Nat))
def rE1 (β : Nat → Int32) (n : Nat) (σ : RdS) : Nat × RdS := takeN β n 0 99 (adv β n σ)
def rE2 (β : Nat → Int32) (n : Nat) (σ : RdS) : Nat × RdS := takeN β n 0 99 (rE1 β n σ).2
def rE3 (β : Nat → Int32) (n : Nat) (σ : RdS) : Nat × RdS := takeN β n 0 99 (rE2 β n σ).2
def rdE (β : Nat → Int32) (n : Nat) (σ : RdS) (D : DR) : RdS × DR := if D.1 = true then (refu 3 σ, D) else ((rE3 β n σ).2, (true, ((rE1 β n σ).1, (rE2 β n σ).1, (rE3 β n σ).1), D.2.2))
def rW1 (β : Nat → Int32) (n : Nat) (σ : RdS) : Nat × RdS := takeN β n 1 6 (adv β n σ)
def rW2 (β : Nat → Int32) (n : Nat) (σ : RdS) : Nat × RdS := takeO (wordB 3) β n 20 0 (rW1 β n σ).2
def rW3 (β : Nat → Int32) (n : Nat) (σ : RdS) : Nat × RdS := takeO (wordB 4) β n 9 0 (rW2 β n σ).2
def rW4 (β : Nat → Int32) (n : Nat) (σ : RdS) : Bool × RdS := takeW (wordB 5) β n (rW3 β n σ).2
def rW5 (β : Nat → Int32) (n : Nat) (σ : RdS) : Nat × RdS := takeO (wordB 6) β n 100 100 (rW4 β n σ).2
def rW6 (β : Nat → Int32) (n : Nat) (σ : RdS) : Nat × RdS := takeO (wordB 7) β n 100 100 (rW5 β n σ).2
def bN (b : Bool) : Nat := if b = true then 1 else 0
theorem bN_I (b : Bool) : nI (bN b) = bI b := by cases b <;> rfl
/-- the six traits of a wall -/
def rWt (β : Nat → Int32) (n : Nat) (σ : RdS) (j : Nat) : Nat := if j = 0 then (rW1 β n σ).1 else if j = 1 then (rW2 β n σ).1 else if j = 2 then (rW3 β n σ).1 else if j = 3 then bN (rW4 β n σ).1 else if j = 4 then (rW5 β n σ).1 else (rW6 β n σ).1
def putN (f g : Nat → Nat) (a m : Nat) : Nat → Nat := fun j => if a ≤ j ∧ j < a + m then g (j - a) else f j
def rdW (β : Nat → Int32) (n : Nat) (σ : RdS) (D : DR) : RdS × DR := if 4 ≤ D.2.2.1.1 then (refu 2 σ, D) else ((rW6 β n σ).2, (D.1, D.2.1, (D.2.2.1.1 + 1, putN D.2.2.1.2 (rWt β n σ) (6 * D.2.2.1.1) 6), D.2.2.2))
def rK1 (β : Nat → Int32) (n : Nat) (σ : RdS) : Nat × RdS := takeN β n 0 99 (adv β n σ)
def rK2 (β : Nat → Int32) (n : Nat) (σ : RdS) : Nat × RdS := takeN β n 0 99 (rK1 β n σ).2
def rK3 (β : Nat → Int32) (n : Nat) (σ : RdS) : Bool × RdS := takeW (wordB 8) β n (rK2 β n σ).2
def rKt (β : Nat → Int32) (n : Nat) (σ : RdS) (j : Nat) : Nat := if j = 0 then (rK1 β n σ).1 else if j = 1 then (rK2 β n σ).1 else bN (rK3 β n σ).1
def rdK (β : Nat → Int32) (n : Nat) (σ : RdS) (D : DR) : RdS × DR := if 30 ≤ D.2.2.2.1 then (refu 2 σ, D) else ((rK3 β n σ).2, (D.1, D.2.1, D.2.2.1, (D.2.2.2.1 + 1, putN D.2.2.2.2 (rKt β n σ) (3 * D.2.2.2.1) 3)))
def lineH (β : Nat → Int32) (n : Nat) (x : RdS × DR) : RdS × DR := if wd (wordB 0) β x.1 = true then rdE β n x.1 x.2 else if wd (wordB 1) β x.1 = true then rdW β n x.1 x.2 else if wd (wordB 2) β x.1 = true then rdK β n x.1 x.2 else (refu 1 x.1, x.2)
def lineT (β : Nat → Int32) (n : Nat) (σ : RdS) : RdS := if σ.1 = 0 ∧ σ.2.2.1 = 3 then adv β n σ else refu 1 σ
def lineF (β : Nat → Int32) (n : Nat) (x : RdS × DR) : RdS × DR := (lineT β n (lineH β n x).1, (lineH β n x).2)
def linesF (β : Nat → Int32) (n : Nat) : Nat → RdS × DR → RdS × DR
  | 0, x => x
  | m + 1, x => if x.1.1 = 0 ∧ x.1.2.2.1 ≠ 0 then linesF β n m (lineF β n x) else x
theorem rE_rv {σ : RdS} (h : PV β n σ) : RV β n σ (rE1 β n σ).2 ∧ RV β n σ (rE2 β n σ).2 ∧ RV β n σ (rE3 β n σ).2 := by
  have h0 := adv_rv h
  have h1 := h0.trans (takeN_rv 0 99 h0.1)
  have h2 := h1.trans (takeN_rv 0 99 h1.1)
  exact ⟨h1, h2, h2.trans (takeN_rv 0 99 h2.1)⟩
theorem rW_rv {σ : RdS} (h : PV β n σ) : RV β n σ (rW1 β n σ).2 ∧ RV β n σ (rW2 β n σ).2 ∧ RV β n σ (rW3 β n σ).2 ∧ RV β n σ (rW4 β n σ).2 ∧ RV β n σ (rW5 β n σ).2 ∧ RV β n σ (rW6 β n σ).2 := by
  have h0 := adv_rv h
  have h1 := h0.trans (takeN_rv 1 6 h0.1)
  have h2 := h1.trans (takeO_rv (wordB 3) 20 0 h1.1)
  have h3 := h2.trans (takeO_rv (wordB 4) 9 0 h2.1)
  have h4 := h3.trans (takeW_rv (wordB 5) h3.1)
  have h5 := h4.trans (takeO_rv (wordB 6) 100 100 h4.1)
  exact ⟨h1, h2, h3, h4, h5, h5.trans (takeO_rv (wordB 7) 100 100 h5.1)⟩
theorem rK_rv {σ : RdS} (h : PV β n σ) : RV β n σ (rK1 β n σ).2 ∧ RV β n σ (rK2 β n σ).2 ∧ RV β n σ (rK3 β n σ).2 := by
  have h0 := adv_rv h
  have h1 := h0.trans (takeN_rv 0 99 h0.1)
  have h2 := h1.trans (takeN_rv 0 99 h1.1)
  exact ⟨h1, h2, h2.trans (takeW_rv (wordB 8) h2.1)⟩
theorem lineH_rv {x : RdS × DR} (h : PV β n x.1) : RV β n x.1 (lineH β n x).1 := by
  unfold lineH
  split
  · unfold rdE
    split
    · exact refu_rv 3 h
    · exact (rE_rv h).2.2
  · split
    · unfold rdW
      split
      · exact refu_rv 2 h
      · exact (rW_rv h).2.2.2.2.2
    · split
      · unfold rdK
        split
        · exact refu_rv 2 h
        · exact (rK_rv h).2.2
      · exact refu_rv 1 h
theorem lineT_rv {σ : RdS} (h : PV β n σ) : RV β n σ (lineT β n σ) := by
  unfold lineT
  split
  · exact adv_rv h
  · exact refu_rv 1 h
theorem lineF_rv {x : RdS × DR} (h : PV β n x.1) : RV β n x.1 (lineF β n x).1 := (lineH_rv h).trans (lineT_rv (lineH_rv h).1)
theorem wd_k {w : List Nat} {σ : RdS} (h : wd w β σ = true) : σ.2.2.1 = 1 := by
  simp only [wd, Bool.and_eq_true, decide_eq_true_eq] at h
  exact h.1.1
/-- a line without a fault goes on -/
theorem lineF_lt {x : RdS × DR} (h : PV β n x.1) (h0 : (lineF β n x).1.1 = 0) : x.1.2.2.2.2 < (lineF β n x).1.2.2.2.2 := by
  have h1 := lineH_rv h
  have h2 : (lineT β n (lineH β n x).1).1 = 0 := h0
  unfold lineT at h2
  by_cases q : (lineH β n x).1.1 = 0 ∧ (lineH β n x).1.2.2.1 = 3
  · have h3 := adv_rv (β := β) h1.1
    have e : (lineF β n x).1 = adv β n (lineH β n x).1 := by unfold lineF lineT; rw [if_pos q]
    rw [e]
    have k : x.1.2.2.1 = 1 := by
      by_cases w0 : wd (wordB 0) β x.1 = true
      · exact wd_k w0
      by_cases w1 : wd (wordB 1) β x.1 = true
      · exact wd_k w1
      by_cases w2 : wd (wordB 2) β x.1 = true
      · exact wd_k w2
      have q1 := q.1
      unfold lineH at q1
      rw [if_neg w0, if_neg w1, if_neg w2] at q1
      exact absurd q1 (refu_bad (by decide) _)
    have h4 := h3.2.1
    rcases h1.2.2 with ⟨a, b⟩ | h5
    · rw [q.2, k] at a; omega
    · have := h5 (by rw [q.2]; decide)
      omega
  · rw [if_neg q] at h2
    exact absurd h2 (refu_bad (by decide) _)
/-- more steps than the text has signs change nothing -/
theorem linesF_more : ∀ (m : Nat) (x : RdS × DR), PV β n x.1 → n < x.1.2.2.2.2 + m → ∀ k, linesF β n (m + k) x = linesF β n m x := by
  intro m
  induction m with
  | zero =>
    intro x h hm k
    have := h.e
    omega
  | succ m ih =>
    intro x h hm k
    rw [show m + 1 + k = (m + k) + 1 by omega, linesF, linesF]
    by_cases q : x.1.1 = 0 ∧ x.1.2.2.1 ≠ 0
    · rw [if_pos q, if_pos q]
      by_cases z : (lineF β n x).1.1 = 0
      · have h1 := lineF_lt h z
        exact ih _ (lineF_rv h).1 (by omega) k
      · have stop : ∀ i, linesF β n i (lineF β n x) = lineF β n x := by
          intro i
          cases i with
          | zero => rfl
          | succ i => rw [linesF, if_neg (fun y => z y.1)]
        rw [stop, stop]
    · rw [if_neg q, if_neg q]
/-- what a draft keeps to -/
def DV (D : DR) : Prop := (D.2.1.1 ≤ 99 ∧ D.2.1.2.1 ≤ 99 ∧ D.2.1.2.2 ≤ 99) ∧ D.2.2.1.1 ≤ 4 ∧ D.2.2.2.1 ≤ 30 ∧ (∀ i, i < 4 → (i < D.2.2.1.1 → 1 ≤ D.2.2.1.2 (6 * i)) ∧ D.2.2.1.2 (6 * i) ≤ 6 ∧ D.2.2.1.2 (6 * i + 1) ≤ 20 ∧ D.2.2.1.2 (6 * i + 2) ≤ 9 ∧ D.2.2.1.2 (6 * i + 3) ≤ 1 ∧ D.2.2.1.2 (6 * i + 4) ≤ 100 ∧ D.2.2.1.2 (6 * i + 5) ≤ 100) ∧ ∀ k, k < D.2.2.2.1 → D.2.2.2.2 (3 * k) ≤ 99 ∧ D.2.2.2.2 (3 * k + 1) ≤ 99
theorem bN_le (b : Bool) : bN b ≤ 1 := by cases b <;> decide
theorem rdE_d {σ : RdS} {D : DR} (h : DV D) : DV (rdE β n σ D).2 := by
  unfold rdE
  split
  · exact h
  · exact ⟨⟨(takeN_b (by decide) _).2, (takeN_b (by decide) _).2, (takeN_b (by decide) _).2⟩, h.2⟩
theorem putN_in (f g : Nat → Nat) {a m i : Nat} (h : i < m) : putN f g a m (a + i) = g i := by
  unfold putN
  rw [if_pos (by omega), show a + i - a = i by omega]
theorem putN_out (f g : Nat → Nat) {a m j : Nat} (h : ¬ (a ≤ j ∧ j < a + m)) : putN f g a m j = f j := by
  unfold putN
  rw [if_neg h]
theorem rdW_d {σ : RdS} {D : DR} (h : DV D) : DV (rdW β n σ D).2 := by
  unfold rdW
  split
  · exact h
  rename_i q
  obtain ⟨h1, h2, h3, h4, h5⟩ := h
  refine ⟨h1, by show D.2.2.1.1 + 1 ≤ 4; omega, h3, fun i hi => ?_, h5⟩
  suffices key : ∀ T : Nat → Nat, T = putN D.2.2.1.2 (rWt β n σ) (6 * D.2.2.1.1) 6 → (i < D.2.2.1.1 + 1 → 1 ≤ T (6 * i)) ∧ T (6 * i) ≤ 6 ∧ T (6 * i + 1) ≤ 20 ∧ T (6 * i + 2) ≤ 9 ∧ T (6 * i + 3) ≤ 1 ∧ T (6 * i + 4) ≤ 100 ∧ T (6 * i + 5) ≤ 100 from key _ rfl
  intro T hT
  rw [hT]
  by_cases e : i = D.2.2.1.1
  · subst e
    have p0 := putN_in D.2.2.1.2 (rWt β n σ) (a := 6 * D.2.2.1.1) (m := 6) (i := 0) (by decide)
    rw [Nat.add_zero] at p0
    have b1 := takeN_b (β := β) (n := n) (lo := 1) (hi := 6) (by decide) (adv β n σ)
    refine ⟨fun _ => by rw [p0]; exact b1.1, by rw [p0]; exact b1.2, ?_, ?_, ?_, ?_, ?_⟩
    · rw [putN_in D.2.2.1.2 (rWt β n σ) (by decide)]; exact takeO_b (wordB 3) (by decide) _
    · rw [putN_in D.2.2.1.2 (rWt β n σ) (by decide)]; exact takeO_b (wordB 4) (by decide) _
    · rw [putN_in D.2.2.1.2 (rWt β n σ) (by decide)]; exact bN_le _
    · rw [putN_in D.2.2.1.2 (rWt β n σ) (by decide)]; exact takeO_b (wordB 6) (by decide) _
    · rw [putN_in D.2.2.1.2 (rWt β n σ) (by decide)]; exact takeO_b (wordB 7) (by decide) _
  · have z := h4 i hi
    rw [putN_out _ _ (by omega), putN_out _ _ (by omega), putN_out _ _ (by omega), putN_out _ _ (by omega), putN_out _ _ (by omega), putN_out _ _ (by omega)]
    exact ⟨fun y => z.1 (by omega), z.2⟩
theorem rdK_d {σ : RdS} {D : DR} (h : DV D) : DV (rdK β n σ D).2 := by
  unfold rdK
  split
  · exact h
  rename_i q
  obtain ⟨h1, h2, h3, h4, h5⟩ := h
  refine ⟨h1, h2, by show D.2.2.2.1 + 1 ≤ 30; omega, h4, fun k hk => ?_⟩
  have hk : k < D.2.2.2.1 + 1 := hk
  show putN D.2.2.2.2 (rKt β n σ) (3 * D.2.2.2.1) 3 (3 * k) ≤ 99 ∧ putN D.2.2.2.2 (rKt β n σ) (3 * D.2.2.2.1) 3 (3 * k + 1) ≤ 99
  by_cases e : k = D.2.2.2.1
  · subst e
    have p0 := putN_in D.2.2.2.2 (rKt β n σ) (a := 3 * D.2.2.2.1) (m := 3) (i := 0) (by decide)
    rw [Nat.add_zero] at p0
    rw [p0, putN_in D.2.2.2.2 (rKt β n σ) (by decide)]
    exact ⟨(takeN_b (by decide) _).2, (takeN_b (by decide) _).2⟩
  · rw [putN_out _ _ (by omega), putN_out _ _ (by omega)]
    exact h5 k (by omega)
theorem lineF_d {x : RdS × DR} (h : DV x.2) : DV (lineF β n x).2 := by
  show DV (lineH β n x).2
  unfold lineH
  split
  · exact rdE_d h
  · split
    · exact rdW_d h
    · split
      · exact rdK_d h
      · exact h
theorem linesF_d : ∀ (m : Nat) (x : RdS × DR), DV x.2 → DV (linesF β n m x).2
  | 0, _, h => h
  | m + 1, x, h => by
    rw [linesF]
    split
    · exact linesF_d m _ (lineF_d h)
    · exact h
/-- the whole text: a fault (what, where), or what it told; tr and wk: what stood in the rows before -/
def readF (β : Nat → Int32) (n : Nat) (tr wk : Nat → Nat) : RdS × DR := linesF β n 701 (adv β n (0, 0, 0, 0, 0), (false, (30, 50, 5), (0, tr), (0, wk)))
end RD
