section YDS
/-- a yard: its earth, its weeks -/
def YD : Type := Int32 × Int32 × Int32 × Nat × (Nat → Int32) × (Nat → Int32) × (Nat → Bool)
def YD.g (Y : YD) : Int32 := Y.1
def YD.f (Y : YD) : Int32 := Y.2.1
def YD.sk (Y : YD) : Int32 := Y.2.2.1
def YD.wk (Y : YD) : Nat := Y.2.2.2.1
def YD.ra (Y : YD) : Nat → Int32 := Y.2.2.2.2.1
def YD.ai (Y : YD) : Nat → Int32 := Y.2.2.2.2.2.1
def YD.fr (Y : YD) : Nat → Bool := Y.2.2.2.2.2.2
def YD.rain (Y : YD) (ps : Nat) : Int32 := if Y.wk = 0 then 0 else Y.ra (ps % Y.wk)
def YD.air (Y : YD) (ps : Nat) : Int32 := if Y.wk = 0 then nI 20 else Y.ai (ps % Y.wk)
def YD.frost (Y : YD) (ps : Nat) : Bool := if Y.wk = 0 then false else Y.fr (ps % Y.wk)
def YD.Fine (Y : YD) : Prop := GF Y.g Y.f ∧ Y.wk ≤ 30 ∧ ∀ k, k < Y.wk → (0 ≤ (Y.ra k).toInt ∧ (Y.ra k).toInt ≤ 99) ∧ (0 ≤ (Y.ai k).toInt ∧ (Y.ai k).toInt ≤ 99)
def dpo (R : Row) : Nat := (R 0).toNatClampNeg
def mno (R : Row) : Nat := (R 1).toNatClampNeg
def pso (R : Row) : Nat := (R 8).toNatClampNeg
def feo (R : Row) : Nat := (R 9).toNatClampNeg
def Ag (R R' : Row) : Prop := AgD (dpo R) (mno R) R R'
def wkS (Y : YD) (R : Row) : Row := weekS Y.g Y.f Y.sk (Y.rain (pso R)) (Y.air (pso R)) (Y.frost (pso R)) (dpo R) (mno R) R
def wkR (Y : YD) (R : Row) : Row := weekR Y.g Y.f Y.sk (Y.rain (pso R)) (Y.air (pso R)) (Y.frost (pso R)) (dpo R) (mno R) R
def wkF (Y : YD) (R : Row) : Bool := (lowN (wkS Y R) 0 (mno R)).isSome
def rsR (n : Nat) (R : Row) : Row := raisR (dpo R) (mno R) n R
def sitY (Y : YD) (R : Row) : Bool := sitB Y.g Y.f R (dpo R) (mno R)
def hiY (Y : YD) (R : Row) : Nat := hiR Y.g Y.f R (dpo R) (mno R)
def pst (R : Row) : Bool := pasteB R (dpo R) (mno R)
def blg (R : Row) : Int32 := sm (fun l => R (13 + l)) (mno R)
/-- a wall as it may be, b weeks at most having gone -/
def OK (b : Nat) (R : Row) : Prop := (WF R (dpo R) (mno R)) ∧ (WOK R (dpo R) (mno R)) ∧ (∀ l, l < mno R → 0 ≤ (R (13 + l)).toInt ∧ (R (13 + l)).toInt ≤ 5) ∧ (R 4 = 0 ∨ R 4 = 1) ∧ (R 7 = 0 ∨ R 7 = 1) ∧ (∃ sh, sh ≤ 9 ∧ R 3 = nI sh) ∧ (0 ≤ (R 2).toInt ∧ (R 2).toInt ≤ 20) ∧ (0 ≤ (R 5).toInt ∧ (R 5).toInt ≤ 100) ∧ (0 ≤ (R 6).toInt ∧ (R 6).toInt ≤ 100) ∧ (pso R ≤ b ∧ R 8 = nI (pso R)) ∧ (feo R ≤ b ∧ R 9 = nI (feo R))
theorem OK.wf {b : Nat} {R : Row} (h : OK b R) : WF R (dpo R) (mno R) := h.1
theorem OK.wok {b : Nat} {R : Row} (h : OK b R) : WOK R (dpo R) (mno R) := h.2.1
theorem OK.bul {b : Nat} {R : Row} (h : OK b R) : ∀ l, l < mno R → 0 ≤ (R (13 + l)).toInt ∧ (R (13 + l)).toInt ≤ 5 := h.2.2.1
theorem OK.hat {b : Nat} {R : Row} (h : OK b R) : R 4 = 0 ∨ R 4 = 1 := h.2.2.2.1
theorem OK.prp {b : Nat} {R : Row} (h : OK b R) : R 7 = 0 ∨ R 7 = 1 := h.2.2.2.2.1
theorem OK.sho {b : Nat} {R : Row} (h : OK b R) : ∃ sh, sh ≤ 9 ∧ R 3 = nI sh := h.2.2.2.2.2.1
theorem OK.grd {b : Nat} {R : Row} (h : OK b R) : 0 ≤ (R 2).toInt ∧ (R 2).toInt ≤ 20 := h.2.2.2.2.2.2.1
theorem OK.out {b : Nat} {R : Row} (h : OK b R) : 0 ≤ (R 5).toInt ∧ (R 5).toInt ≤ 100 := h.2.2.2.2.2.2.2.1
theorem OK.inn {b : Nat} {R : Row} (h : OK b R) : 0 ≤ (R 6).toInt ∧ (R 6).toInt ≤ 100 := h.2.2.2.2.2.2.2.2.1
theorem OK.pas {b : Nat} {R : Row} (h : OK b R) : pso R ≤ b ∧ R 8 = nI (pso R) := h.2.2.2.2.2.2.2.2.2.1
theorem OK.fel {b : Nat} {R : Row} (h : OK b R) : feo R ≤ b ∧ R 9 = nI (feo R) := h.2.2.2.2.2.2.2.2.2.2
variable {Y : YD} {R R' : Row} {b : Nat}
theorem wf_dp {dp mn : Nat} (h : WF R dp mn) : dpo R = dp := by
  obtain ⟨h1, h2, h3, h4, h5⟩ := h
  simp only [dpo]; rw [h1, nI_clamp (by omega)]
theorem wf_mn {dp mn : Nat} (h : WF R dp mn) : mno R = mn := by
  obtain ⟨h1, h2, h3, h4, h5⟩ := h
  simp only [mno]; rw [h4, nI_clamp (by omega)]
theorem OK.dp (h : OK b R) : 1 ≤ dpo R ∧ dpo R ≤ 6 := ⟨h.wf.2.1, h.wf.2.2.1⟩
theorem OK.mn (h : OK b R) : mno R ≤ 24 := h.wf.2.2.2.2
theorem OK.more {b' : Nat} (h : OK b R) (hb : b ≤ b') : OK b' R := ⟨h.wf, h.wok, h.bul, h.hat, h.prp, h.sho, h.grd, h.out, h.inn, ⟨by have := h.pas.1; omega, h.pas.2⟩, ⟨by have := h.fel.1; omega, h.fel.2⟩⟩
theorem Ag.dp (h : Ag R R') : dpo R' = dpo R := by simp only [dpo]; rw [h.1 0 (by decide)]
theorem Ag.mn (h : Ag R R') : mno R' = mno R := by simp only [mno]; rw [h.1 1 (by decide)]
theorem Ag.ps (h : Ag R R') : pso R' = pso R := by simp only [pso]; rw [h.1 8 (by decide)]
theorem Ag.fe (h : Ag R R') : feo R' = feo R := by simp only [feo]; rw [h.1 9 (by decide)]
theorem Ag.rfl (R : Row) : Ag R R := AgD.rfl R
theorem Ag.symm (h : Ag R R') : Ag R' R := by
  have e : AgD (dpo R') (mno R') R' R := by rw [h.dp, h.mn]; exact AgD.symm h
  exact e
theorem Ag.trans {R'' : Row} (h : Ag R R') (h' : Ag R' R'') : Ag R R'' := by
  have e : AgD (dpo R') (mno R') R' R'' := h'
  rw [h.dp, h.mn] at e
  exact AgD.trans h e
theorem OK.ag (h : OK b R) (a : Ag R R') : OK b R' := by
  refine ⟨?_, ?_, ?_, by rw [← a.1 4 (by decide)]; exact h.hat, by rw [← a.1 7 (by decide)]; exact h.prp, by rw [← a.1 3 (by decide)]; exact h.sho, by rw [← a.1 2 (by decide)]; exact h.grd, by rw [← a.1 5 (by decide)]; exact h.out, by rw [← a.1 6 (by decide)]; exact h.inn, by rw [a.ps, ← a.1 8 (by decide)]; exact h.pas, by rw [a.fe, ← a.1 9 (by decide)]; exact h.fel⟩
  · rw [a.dp, a.mn]
    obtain ⟨h1, h2, h3, h4, h5⟩ := h.wf
    exact ⟨by rw [← a.1 0 (by decide)]; exact h1, h2, h3, by rw [← a.1 1 (by decide)]; exact h4, h5⟩
  · rw [a.dp, a.mn]
    intro p h1 h2
    rw [← (a.2.2 p h1 h2).1]
    exact h.wok p h1 h2
  · rw [a.mn]
    intro l hl
    rw [← a.2.1 l hl]
    exact h.bul l hl
theorem YD.rain_b (hY : Y.Fine) (ps : Nat) : 0 ≤ (Y.rain ps).toInt ∧ (Y.rain ps).toInt ≤ 99 := by
  simp only [YD.rain]
  split
  · exact ⟨by decide, by decide⟩
  · exact (hY.2.2 _ (Nat.mod_lt _ (by omega))).1
theorem YD.air_b (hY : Y.Fine) (ps : Nat) : 0 ≤ (Y.air ps).toInt ∧ (Y.air ps).toInt ≤ 99 := by
  simp only [YD.air]
  split
  · exact ⟨by decide, by decide⟩
  · exact (hY.2.2 _ (Nat.mod_lt _ (by omega))).2
theorem weekS_keep (g f sk dr air : Int32) (fr : Bool) (dp mn : Nat) (R : Row) (hm : mn ≤ 24) {j : Nat} (h : j < 13) (h1 : j ≠ 11) (h2 : j ≠ 12) : weekS g f sk dr air fr dp mn R j = R j := by
  simp only [weekS]
  rw [sit_keep _ _ _ _ _ _ hm (by omega), crack_lo _ _ _ _ _ _ _ (by omega), dryR, dryR_keep _ _ _ _ _ (by omega) h2, moveR, moveR_keep _ _ _ _ _ (by omega), come_keep _ _ _ _ (by omega) h1]
theorem low_none {R : Row} : ∀ {n l : Nat}, lowN R l n = none → ∀ i, l ≤ i → i < l + n → ¬ nI 6 ≤ R (13 + i)
  | 0, l, _, i, h1, h2 => by omega
  | n + 1, l, h, i, h1, h2 => by
    rw [lowN] at h
    split at h
    · cases h
    · rcases Nat.eq_or_lt_of_le h1 with q | q
      · rw [← q]; assumption
      · exact low_none h i (by omega) (by omega)
theorem low_some {R : Row} : ∀ {n l x : Nat}, lowN R l n = some x → ∀ i, l ≤ i → i < x → ¬ nI 6 ≤ R (13 + i)
  | 0, l, x, h, i, h1, h2 => by simp [lowN] at h
  | n + 1, l, x, h, i, h1, h2 => by
    rw [lowN] at h
    split at h
    · cases h; omega
    · rcases Nat.eq_or_lt_of_le h1 with q | q
      · rw [← q]; assumption
      · exact low_some h i (by omega) h2
theorem more_b (b p : Int32) : 0 ≤ (more b p).toInt ∧ (more b p).toInt ≤ 2 := by
  simp only [more]
  split <;> split <;> exact ⟨by decide, by decide⟩
/-- the row of a week, up to the fall: its traits, its water, its bulges -/
theorem wkS_ok (hY : Y.Fine) (h : OK b R) (hm1 : 1 ≤ mno R) : WOK (wkS Y R) (dpo R) (mno R) ∧ (∀ l, l < mno R → (R (13 + l)).toInt ≤ (wkS Y R (13 + l)).toInt ∧ (wkS Y R (13 + l)).toInt ≤ 7) ∧ ∀ j, j < 13 → j ≠ 11 → j ≠ 12 → wkS Y R j = R j := by
  obtain ⟨d1, d2⟩ := h.dp
  have hm := h.mn
  obtain ⟨sh, hs9, hsh⟩ := h.sho
  have k1 := fun (j : Nat) (a : j < 37) (c : j ≠ 11) => come_keep (dpo R) (mno R) (Y.rain (pso R)) R a c
  have c1 : WOK (comeR (dpo R) (mno R) (Y.rain (pso R)) R) (dpo R) (mno R) := come_wok h.wok d2 d1 hm1 (Y.rain_b hY _) h.out h.grd hsh hs9
  obtain ⟨R1, hR1⟩ : ∃ X, X = comeR (dpo R) (mno R) (Y.rain (pso R)) R := ⟨_, rfl⟩
  have c2 : WOK (moveR (fun j => R1 (37 + j)) (dpo R) (mno R) R1) (dpo R) (mno R) := by
    rw [← hR1] at c1
    exact move_wok c1 (fun p _ _ => rfl) d2
  obtain ⟨R2, hR2⟩ : ∃ X, X = moveR (fun j => R1 (37 + j)) (dpo R) (mno R) R1 := ⟨_, rfl⟩
  have k2 : ∀ j, j < 37 → j ≠ 11 → R2 j = R j := fun j a c => by rw [hR2, moveR, moveR_keep _ _ _ _ _ a, hR1, k1 j a c]
  have c3 : WOK (dryR (Y.air (pso R)) (dpo R) (mno R) R2) (dpo R) (mno R) := by
    rw [← hR2] at c2
    exact dry_wok c2 d2 (Y.air_b hY _) (by rw [k2 5 (by decide) (by decide)]; exact h.out) (by rw [k2 6 (by decide) (by decide)]; exact h.inn)
  obtain ⟨R3, hR3⟩ : ∃ X, X = dryR (Y.air (pso R)) (dpo R) (mno R) R2 := ⟨_, rfl⟩
  have k3 : ∀ j, j < 37 → j ≠ 11 → j ≠ 12 → R3 j = R j := fun j a c e => by rw [hR3, dryR, dryR_keep _ _ _ _ _ a e, k2 j a c]
  have e : wkS Y R = sitR Y.g Y.f (dpo R) (mno R) 0 (crackR (Y.frost (pso R)) Y.sk (fun j => R (37 + j)) (dpo R) (mno R) 0 R3) := by
    rw [hR3, hR2, hR1]; rfl
  rw [e]
  refine ⟨fun p h1 h2 => ?_, fun l hl => ?_, fun j a c e => ?_⟩
  · rw [sit_keep _ _ _ _ _ _ hm (by omega), crack_lo _ _ _ _ _ _ _ (by omega), hR3]
    exact c3 p h1 h2
  · have h3 := h.bul l hl
    simp only [sitR]
    rw [if_pos (by omega), crack_lo _ _ _ _ _ _ _ (by omega), k3 _ (by omega) (by omega) (by omega)]
    have h4 := more_b (bear Y.g Y.f (crackR (Y.frost (pso R)) Y.sk (fun j => R (37 + j)) (dpo R) (mno R) 0 R3) (dpo R) (13 + l - 13)) (prs (crackR (Y.frost (pso R)) Y.sk (fun j => R (37 + j)) (dpo R) (mno R) 0 R3) (dpo R) (13 + l - 13) (mno R - 1 - (13 + l - 13)))
    rw [fb_addI (by omega) (by omega)]
    omega
  · rw [sit_keep _ _ _ _ _ _ hm (by omega), crack_lo _ _ _ _ _ _ _ (by omega), k3 j (by omega) c e]
theorem wkR_some (hm1 : 1 ≤ mno R) {l : Nat} (q : lowN (wkS Y R) 0 (mno R) = some l) : wkR Y R = upd (cutR (dpo R) (mno R) l (upd (upd (wkS Y R) 10 (whyR (wkS Y R) (dpo R) l)) 9 (wkS Y R 9 + nI 1))) 8 (R 8 + nI 1) := by
  have e : wkR Y R = upd (if mno R = 0 then R else fallR (dpo R) (mno R) (wkS Y R)) 8 (R 8 + nI 1) := rfl
  rw [e, if_neg (by omega), fallR, q]
theorem wkR_none (hm1 : 1 ≤ mno R) (q : lowN (wkS Y R) 0 (mno R) = none) : wkR Y R = upd (wkS Y R) 8 (R 8 + nI 1) := by
  have e : wkR Y R = upd (if mno R = 0 then R else fallR (dpo R) (mno R) (wkS Y R)) 8 (R 8 + nI 1) := rfl
  rw [e, if_neg (by omega), fallR, q]
theorem wkR_zero (hm1 : mno R = 0) : wkR Y R = upd R 8 (R 8 + nI 1) := by
  have e : wkR Y R = upd (if mno R = 0 then R else fallR (dpo R) (mno R) (wkS Y R)) 8 (R 8 + nI 1) := rfl
  rw [e, if_pos hm1]
theorem upd_self (f : Nat → Int32) (i : Nat) (x : Int32) : upd f i x i = x := by simp only [upd]; rw [if_pos trivial]
theorem upd_other (f : Nat → Int32) {i j : Nat} (x : Int32) (h : j ≠ i) : upd f i x j = f j := by simp only [upd]; rw [if_neg h]
theorem cut_other (dp mn l : Nat) (R : Row) {j : Nat} (h1 : j ≠ 1) (h2 : j ≠ 12) : cutR dp mn l R j = R j := by simp only [cutR]; rw [if_neg h2, if_neg h1]
theorem past_up (h : OK b R) : (R 8 + nI 1) = nI (pso R + 1) := by
  have := h.pas.2
  rw [nI_add (pso R) 1 |>.symm, ← this]
theorem wk_tr (h : OK b R) (hY : Y.Fine) {j : Nat} (hj : j < 8) (h1 : j ≠ 1) : wkR Y R j = R j := by
  rcases Nat.eq_zero_or_pos (mno R) with q | q
  · rw [wkR_zero q, upd_other _ _ (by omega)]
  · have k := (wkS_ok hY h q).2.2 j (by omega) (by omega) (by omega)
    cases e : lowN (wkS Y R) 0 (mno R) with
    | none => rw [wkR_none q e, upd_other _ _ (by omega), k]
    | some l => rw [wkR_some q e, upd_other _ _ (by omega), cut_other _ _ _ _ h1 (by omega), upd_other _ _ (by omega), upd_other _ _ (by omega), k]
theorem wk_8 : wkR Y R 8 = R 8 + nI 1 := by
  rw [wkR, weekR]
  exact upd_self _ _ _
theorem wk_dp (h : OK b R) (hY : Y.Fine) : dpo (wkR Y R) = dpo R := by simp only [dpo]; rw [wk_tr h hY (by decide) (by decide)]
theorem wk_ps (h : OK b R) (hb : b < 2 ^ 30) : pso (wkR Y R) = pso R + 1 := by
  have := h.pas.1
  simp only [pso]
  rw [wk_8, past_up h, nI_clamp (by omega)]
  rfl
theorem wk_mn (h : OK b R) (hY : Y.Fine) : mno (wkR Y R) = fallN (wkS Y R) (mno R) ∧ wkR Y R 1 = nI (fallN (wkS Y R) (mno R)) ∧ fallN (wkS Y R) (mno R) ≤ mno R := by
  have hm := h.mn
  have h3 := h.wf.2.2.2.1
  have key : wkR Y R 1 = nI (fallN (wkS Y R) (mno R)) ∧ fallN (wkS Y R) (mno R) ≤ mno R := by
    rcases Nat.eq_zero_or_pos (mno R) with q | q
    · rw [wkR_zero q, upd_other _ _ (by omega), q, fallN_0, h3, q]
      exact ⟨rfl, Nat.le_refl _⟩
    · have k := (wkS_ok hY h q).2.2 1 (by omega) (by omega) (by omega)
      cases e : lowN (wkS Y R) 0 (mno R) with
      | none =>
        rw [wkR_none q e, upd_other _ _ (by omega), k, fallN, e]
        exact ⟨h3, Nat.le_refl _⟩
      | some l =>
        have hl := lowN_lt e
        rw [wkR_some q e, upd_other _ _ (by omega), fallN, e]
        refine ⟨?_, by show l ≤ _; omega⟩
        simp only [cutR]
        rw [if_neg (by omega), if_pos trivial]
  refine ⟨?_, key⟩
  show (wkR Y R 1).toNatClampNeg = _
  rw [key.1, nI_clamp (by omega)]
theorem wkF_none (q : lowN (wkS Y R) 0 (mno R) = none) : wkF Y R = false := by rw [wkF, q]; rfl
theorem wkF_some {l : Nat} (q : lowN (wkS Y R) 0 (mno R) = some l) : wkF Y R = true := by rw [wkF, q]; rfl
theorem wkF_zero (q : mno R = 0) : wkF Y R = false := wkF_none (by rw [q, lowN])
theorem wk_9 (h : OK b R) (hY : Y.Fine) : wkR Y R 9 = if wkF Y R = true then R 9 + nI 1 else R 9 := by
  rcases Nat.eq_zero_or_pos (mno R) with q | q
  · rw [wkR_zero q, upd_other _ _ (by omega), wkF_zero q, if_neg (by decide)]
  · have k := (wkS_ok hY h q).2.2 9 (by omega) (by omega) (by omega)
    cases e : lowN (wkS Y R) 0 (mno R) with
    | none =>
      rw [wkR_none q e, upd_other _ _ (by omega), k, wkF_none e, if_neg (by decide)]
    | some l =>
      rw [wkR_some q e, upd_other _ _ (by omega), cut_other _ _ _ _ (by omega) (by omega), upd_self, k, wkF_some e, if_pos (by decide)]
theorem wk_fe (h : OK b R) (hY : Y.Fine) (hb : b < 2 ^ 30) : feo (wkR Y R) = feo R + (if wkF Y R = true then 1 else 0) ∧ wkR Y R 9 = nI (feo R + (if wkF Y R = true then 1 else 0)) := by
  have h1 := h.fel.1
  have key : wkR Y R 9 = nI (feo R + (if wkF Y R = true then 1 else 0)) := by
    rw [wk_9 h hY]
    split
    · rw [← nI_add, ← h.fel.2]
    · rw [Nat.add_zero]; exact h.fel.2
  refine ⟨?_, key⟩
  show (wkR Y R 9).toNatClampNeg = _
  rw [key, nI_clamp (by split <;> omega)]
theorem ok_wk (hY : Y.Fine) (h : OK b R) (hb : b < 2 ^ 30) : OK (b + 1) (wkR Y R) := by
  obtain ⟨d1, d2⟩ := h.dp
  have hm := h.mn
  obtain ⟨m1, m2, m3⟩ := wk_mn h hY
  have hdp := wk_dp h hY
  have hwf : WF (wkR Y R) (dpo R) (fallN (wkS Y R) (mno R)) := ⟨by rw [wk_tr h hY (by decide) (by decide)]; exact h.wf.1, d1, d2, m2, by omega⟩
  have k := fun (j : Nat) (hj : j < 8) (h1 : j ≠ 1) => wk_tr (Y := Y) h hY hj h1
  have hp := wk_ps (Y := Y) h hb
  have hf := wk_fe h hY hb
  have hcell : WOK (wkR Y R) (dpo R) (fallN (wkS Y R) (mno R)) ∧ ∀ l, l < fallN (wkS Y R) (mno R) → 0 ≤ (wkR Y R (13 + l)).toInt ∧ (wkR Y R (13 + l)).toInt ≤ 5 := by
    rcases Nat.eq_zero_or_pos (mno R) with q | q
    · rw [q, fallN_0]
      exact ⟨fun p hp => absurd hp (Nat.not_lt_zero _), fun l hl => absurd hl (Nat.not_lt_zero l)⟩
    · obtain ⟨c1, c2, c3⟩ := wkS_ok hY h q
      cases e : lowN (wkS Y R) 0 (mno R) with
      | none =>
        rw [wkR_none q e]
        have ef : fallN (wkS Y R) (mno R) = mno R := by rw [fallN, e]
        rw [ef]
        refine ⟨fun p h1 h2 => ?_, fun l hl => ?_⟩
        · rw [upd_other _ _ (by omega)]; exact c1 p h1 h2
        · rw [upd_other _ _ (by omega)]
          have h3 := low_none e l (by omega) (by omega)
          rw [Int32.le_iff_toInt_le] at h3
          have h4 := c2 l hl
          have h5 := h.bul l hl
          have e6 : (nI 6).toInt = 6 := rfl
          omega
      | some x =>
        have hl := lowN_lt e
        rw [wkR_some q e]
        have ef : fallN (wkS Y R) (mno R) = x := by rw [fallN, e]
        rw [ef]
        refine ⟨fun p h1 h2 => ?_, fun l hl => ?_⟩
        · rw [upd_other _ _ (by omega), cut_other _ _ _ _ (by omega) (by omega), upd_other _ _ (by omega), upd_other _ _ (by omega)]
          exact c1 p (by omega) h2
        · rw [upd_other _ _ (by omega), cut_other _ _ _ _ (by omega) (by omega), upd_other _ _ (by omega), upd_other _ _ (by omega)]
          have h3 := low_some e l (by omega) (by omega)
          rw [Int32.le_iff_toInt_le] at h3
          have h4 := c2 l (by omega)
          have h5 := h.bul l (by omega)
          have e6 : (nI 6).toInt = 6 := rfl
          omega
  refine ⟨by rw [hdp, m1]; exact hwf, by rw [hdp, m1]; exact hcell.1, by rw [m1]; exact hcell.2, by rw [k 4 (by decide) (by decide)]; exact h.hat, by rw [k 7 (by decide) (by decide)]; exact h.prp, by rw [k 3 (by decide) (by decide)]; exact h.sho, by rw [k 2 (by decide) (by decide)]; exact h.grd, by rw [k 5 (by decide) (by decide)]; exact h.out, by rw [k 6 (by decide) (by decide)]; exact h.inn, ?_, ?_⟩
  · rw [hp, wk_8, past_up h]
    exact ⟨by have := h.pas.1; omega, rfl⟩
  · rw [hf.1, hf.2]
    have := h.fel.1
    exact ⟨by split <;> omega, rfl⟩
theorem ag_wk (a : Ag R R') (h : OK b R) (hY : Y.Fine) : Ag (wkR Y R) (wkR Y R') ∧ wkF Y R = wkF Y R' := by
  obtain ⟨d1, d2⟩ := h.dp
  have a1 := ag_week (g := Y.g) (f := Y.f) a Y.sk (Y.rain (pso R)) (Y.air (pso R)) (Y.frost (pso R)) d2 d1 h.mn
  have e1 : wkR Y R' = weekR Y.g Y.f Y.sk (Y.rain (pso R)) (Y.air (pso R)) (Y.frost (pso R)) (dpo R) (mno R) R' := by rw [wkR, a.ps, a.dp, a.mn]
  have e2 : wkS Y R' = weekS Y.g Y.f Y.sk (Y.rain (pso R)) (Y.air (pso R)) (Y.frost (pso R)) (dpo R) (mno R) R' := by rw [wkS, a.ps, a.dp, a.mn]
  refine ⟨?_, ?_⟩
  · simp only [Ag]
    rw [wk_dp h hY, (wk_mn h hY).1, e1]
    exact a1.1
  · simp only [wkF]
    rw [e2, a.mn]
    exact congrArg Option.isSome a1.2
theorem rs_wf (h : OK b R) {n : Nat} (hn : mno R + n ≤ 24) : WF (rsR n R) (dpo R) (mno R + n) := wf_raisR h.wf hn
theorem rs_dp (h : OK b R) {n : Nat} (hn : mno R + n ≤ 24) : dpo (rsR n R) = dpo R := wf_dp (rs_wf h hn)
theorem rs_mn (h : OK b R) {n : Nat} (hn : mno R + n ≤ 24) : mno (rsR n R) = mno R + n := wf_mn (rs_wf h hn)
theorem rs_tr (R : Row) (n : Nat) {j : Nat} (h : j < 13) (h1 : j ≠ 1) (h2 : j ≠ 11) : rsR n R j = R j := rais_tr _ _ R h h1 h2 n
theorem ok_rs (h : OK b R) {n : Nat} (hn : mno R + n ≤ 24) : OK b (rsR n R) := by
  obtain ⟨d1, d2⟩ := h.dp
  have k := fun (j : Nat) (a : j < 13) (c : j ≠ 1) (e : j ≠ 11) => rs_tr R n a c e
  have e8 : pso (rsR n R) = pso R := by simp only [pso]; rw [k 8 (by decide) (by decide) (by decide)]
  have e9 : feo (rsR n R) = feo R := by simp only [feo]; rw [k 9 (by decide) (by decide) (by decide)]
  refine ⟨by rw [rs_dp h hn, rs_mn h hn]; exact rs_wf h hn, by rw [rs_dp h hn, rs_mn h hn]; exact rais_wok h.wok d2 hn, ?_, by rw [k 4 (by decide) (by decide) (by decide)]; exact h.hat, by rw [k 7 (by decide) (by decide) (by decide)]; exact h.prp, by rw [k 3 (by decide) (by decide) (by decide)]; exact h.sho, by rw [k 2 (by decide) (by decide) (by decide)]; exact h.grd, by rw [k 5 (by decide) (by decide) (by decide)]; exact h.out, by rw [k 6 (by decide) (by decide) (by decide)]; exact h.inn, by rw [e8, k 8 (by decide) (by decide) (by decide)]; exact h.pas, by rw [e9, k 9 (by decide) (by decide) (by decide)]; exact h.fel⟩
  rw [rs_mn h hn]
  intro l hl
  by_cases q : l < mno R
  · rw [rsR, rais_blg _ _ R q h.mn d2 n hn]
    exact h.bul l q
  · have h3 := (rais_new (dpo R) (mno R) R d2 (i := l - mno R) (c := 0) d1 n (by omega) hn).2.2
    rw [show mno R + (l - mno R) = l by omega] at h3
    rw [rsR, h3]
    exact ⟨by decide, by decide⟩
theorem ag_rs (a : Ag R R') (h : OK b R) {n : Nat} (hn : mno R + n ≤ 24) : Ag (rsR n R) (rsR n R') := by
  simp only [Ag]
  rw [rs_dp h hn, rs_mn h hn]
  have e : rsR n R' = raisR (dpo R) (mno R) n R' := by rw [rsR, a.dp, a.mn]
  rw [e]
  exact ag_rais a h.dp.2 hn
theorem ag_sitY (a : Ag R R') (h : OK b R) : sitY Y R = sitY Y R' := by
  simp only [sitY]
  rw [a.dp, a.mn]
  exact ag_sitB a h.dp.2
theorem ag_hiY (a : Ag R R') (h : OK b R) : hiY Y R = hiY Y R' := by
  simp only [hiY]
  rw [a.dp, a.mn]
  exact ag_hi a h.dp.2 h.mn
theorem ag_pst (a : Ag R R') (h : OK b R) : pst R = pst R' := by
  simp only [pst]
  rw [a.dp, a.mn]
  exact ag_paste a h.dp.2
theorem ag_blg (a : Ag R R') : blg R = blg R' := by
  simp only [blg]
  rw [a.mn]
  exact ag_bulges a
theorem ag_become (A B : Row) (hm : mno A ≤ 24) : Ag (becR (mno A) A B) A := by
  have e1 : dpo (becR (mno A) A B) = dpo A := by simp only [dpo, becR]; rw [if_pos (by omega)]
  have e2 : mno (becR (mno A) A B) = mno A := by
    show (becR (mno A) A B 1).toNatClampNeg = _
    simp only [becR]; rw [if_pos (by omega)]; rfl
  simp only [Ag]
  rw [e1, e2]
  exact ag_bec A B hm
theorem work_tr (j : Nat) (R : Row) {i : Nat} (h : i = 0 ∨ i = 1 ∨ i = 8 ∨ i = 9 ∨ 10 ≤ i) : workR j R i = R i := by
  match j with
  | 0 => exact upd_other _ _ (by omega)
  | 1 => exact upd_other _ _ (by omega)
  | 2 => exact upd_other _ _ (by omega)
  | 3 => exact upd_other _ _ (by omega)
  | 4 => exact upd_other _ _ (by omega)
  | j + 5 => exact upd_other _ _ (by omega)
theorem wo_dp (j : Nat) (R : Row) : dpo (workR j R) = dpo R := by simp only [dpo]; rw [work_tr _ _ (by omega)]
theorem wo_mn (j : Nat) (R : Row) : mno (workR j R) = mno R := by simp only [mno]; rw [work_tr _ _ (by omega)]
theorem wo_ps (j : Nat) (R : Row) : pso (workR j R) = pso R := by simp only [pso]; rw [work_tr _ _ (by omega)]
theorem wo_fe (j : Nat) (R : Row) : feo (workR j R) = feo R := by simp only [feo]; rw [work_tr _ _ (by omega)]
theorem ok_work (h : OK b R) (j : Nat) : OK b (workR j R) := by
  have hx : ∀ i, i < 8 → workR j R i = R i ∨ (i = 5 ∧ workR j R i = nI 100) ∨ (i = 6 ∧ workR j R i = nI 100) ∨ (i = 4 ∧ workR j R i = nI 1) ∨ (i = 3 ∧ workR j R i = mi (nI 9) (R 3 + nI 3)) ∨ (i = 7 ∧ workR j R i = nI 1) ∨ (i = 2 ∧ workR j R i = nI 0) := by
    intro i hi
    match j with
    | 0 =>
      by_cases e : i = 5
      · subst e; exact Or.inr (Or.inl ⟨rfl, upd_self _ _ _⟩)
      · exact Or.inl (upd_other _ _ e)
    | 1 =>
      by_cases e : i = 6
      · subst e; exact Or.inr (Or.inr (Or.inl ⟨rfl, upd_self _ _ _⟩))
      · exact Or.inl (upd_other _ _ e)
    | 2 =>
      by_cases e : i = 4
      · subst e; exact Or.inr (Or.inr (Or.inr (Or.inl ⟨rfl, upd_self _ _ _⟩)))
      · exact Or.inl (upd_other _ _ e)
    | 3 =>
      by_cases e : i = 3
      · subst e; exact Or.inr (Or.inr (Or.inr (Or.inr (Or.inl ⟨rfl, upd_self _ _ _⟩))))
      · exact Or.inl (upd_other _ _ e)
    | 4 =>
      by_cases e : i = 7
      · subst e; exact Or.inr (Or.inr (Or.inr (Or.inr (Or.inr (Or.inl ⟨rfl, upd_self _ _ _⟩)))))
      · exact Or.inl (upd_other _ _ e)
    | j + 5 =>
      by_cases e : i = 2
      · subst e; exact Or.inr (Or.inr (Or.inr (Or.inr (Or.inr (Or.inr ⟨rfl, upd_self _ _ _⟩)))))
      · exact Or.inl (upd_other _ _ e)
  have k := fun (i : Nat) (a : i = 0 ∨ i = 1 ∨ i = 8 ∨ i = 9 ∨ 10 ≤ i) => work_tr j R a
  refine ⟨?_, ?_, ?_, ?_, ?_, ?_, ?_, ?_, ?_, ?_, ?_⟩
  · rw [wo_dp, wo_mn]
    obtain ⟨h1, h2, h3, h4, h5⟩ := h.wf
    exact ⟨by rw [k 0 (by omega)]; exact h1, h2, h3, by rw [k 1 (by omega)]; exact h4, h5⟩
  · rw [wo_dp, wo_mn]
    intro p h1 h2
    rw [k _ (by omega)]
    exact h.wok p h1 h2
  · rw [wo_mn]
    intro l hl
    rw [k _ (by omega)]
    exact h.bul l hl
  · rcases hx 4 (by decide) with e | e | e | e | e | e | e
    · rw [e]; exact h.hat
    · omega
    · omega
    · rw [e.2]; right; rfl
    all_goals omega
  · rcases hx 7 (by decide) with e | e | e | e | e | e | e
    · rw [e]; exact h.prp
    · omega
    · omega
    · omega
    · omega
    · rw [e.2]; right; rfl
    · omega
  · rcases hx 3 (by decide) with e | e | e | e | e | e | e
    · rw [e]; exact h.sho
    · omega
    · omega
    · omega
    · obtain ⟨sh, hs, e3⟩ := h.sho
      refine ⟨min 9 (sh + 3), by omega, ?_⟩
      rw [e.2, e3, nI_add]
      simp only [mi]
      by_cases q : sh + 3 < 9
      · rw [if_pos ((nI_ltI (by omega) (by omega)).mpr q)]
        congr 1; omega
      · rw [if_neg (fun z => q ((nI_ltI (by omega) (by omega)).mp z))]
        congr 1; omega
    · omega
    · omega
  · rcases hx 2 (by decide) with e | e | e | e | e | e | e
    · rw [e]; exact h.grd
    · omega
    · omega
    · omega
    · omega
    · omega
    · rw [e.2]; exact ⟨by decide, by decide⟩
  · rcases hx 5 (by decide) with e | e | e | e | e | e | e
    · rw [e]; exact h.out
    · rw [e.2]; exact ⟨by decide, by decide⟩
    all_goals omega
  · rcases hx 6 (by decide) with e | e | e | e | e | e | e
    · rw [e]; exact h.inn
    · omega
    · rw [e.2]; exact ⟨by decide, by decide⟩
    all_goals omega
  · rw [wo_ps, k 8 (by omega)]; exact h.pas
  · rw [wo_fe, k 9 (by omega)]; exact h.fel
theorem ag_wo (a : Ag R R') (j : Nat) : Ag (workR j R) (workR j R') := by
  simp only [Ag]
  rw [wo_dp, wo_mn]
  exact ag_work a j
/-- one layer less, or more: cut down -/
theorem cut_wf (h : OK b R) {l : Nat} (hl : l ≤ mno R) : WF (cutR (dpo R) (mno R) l R) (dpo R) l := by
  obtain ⟨h1, h2, h3, h4, h5⟩ := h.wf
  refine ⟨by rw [cut_other _ _ _ _ (by omega) (by omega)]; exact h1, h2, h3, ?_, by omega⟩
  simp only [cutR]
  rw [if_neg (by omega), if_pos trivial]
theorem ok_cut (h : OK b R) {l : Nat} (hl : l ≤ mno R) : OK b (cutR (dpo R) (mno R) l R) ∧ mno (cutR (dpo R) (mno R) l R) = l ∧ dpo (cutR (dpo R) (mno R) l R) = dpo R := by
  have hw := cut_wf h hl
  have k := fun (i : Nat) (a : i ≠ 1) (c : i ≠ 12) => cut_other (dpo R) (mno R) l R a c
  have e8 : pso (cutR (dpo R) (mno R) l R) = pso R := by simp only [pso]; rw [k 8 (by decide) (by decide)]
  have e9 : feo (cutR (dpo R) (mno R) l R) = feo R := by simp only [feo]; rw [k 9 (by decide) (by decide)]
  have e0 := wf_dp hw
  have e1 := wf_mn hw
  refine ⟨⟨by rw [e0, e1]; exact hw, ?_, ?_, by rw [k 4 (by decide) (by decide)]; exact h.hat, by rw [k 7 (by decide) (by decide)]; exact h.prp, by rw [k 3 (by decide) (by decide)]; exact h.sho, by rw [k 2 (by decide) (by decide)]; exact h.grd, by rw [k 5 (by decide) (by decide)]; exact h.out, by rw [k 6 (by decide) (by decide)]; exact h.inn, by rw [e8, k 8 (by decide) (by decide)]; exact h.pas, by rw [e9, k 9 (by decide) (by decide)]; exact h.fel⟩, e1, e0⟩
  · rw [e0, e1]
    intro p h1 h2
    rw [k _ (by omega) (by omega)]
    exact h.wok p (by omega) h2
  · rw [e1]
    intro i hi
    rw [k _ (by omega) (by omega)]
    exact h.bul i (by omega)
theorem ag_cu (a : Ag R R') (h : OK b R) {l : Nat} (hl : l ≤ mno R) : Ag (cutR (dpo R) (mno R) l R) (cutR (dpo R) (mno R) l R') := by
  simp only [Ag]
  rw [(ok_cut h hl).2.1, (ok_cut h hl).2.2]
  exact ag_cut a hl h.dp.2
end YDS
