section LIKE
variable {g f : Int32} {R R' : Row} {dp mn : Nat}
/-- two rows that the same weeks make alike: traits but past, falls and sums; shoes from 3 on are the same -/
def LkD (dp mn : Nat) (R R' : Row) : Prop := (∀ j, j < 8 → j ≠ 3 → R j = R' j) ∧ (mx 0 (nI 3 - R 3) = mx 0 (nI 3 - R' 3)) ∧ (3 - (R 3).toNatClampNeg = 3 - (R' 3).toNatClampNeg) ∧ (∀ l, l < mn → R (13 + l) = R' (13 + l)) ∧ (∀ p, p / 6 < mn → p % 6 < dp → R (37 + p) = R' (37 + p) ∧ R (181 + p) = R' (181 + p))
theorem LkD.tr {dp mn : Nat} {R R' : Row} (h : LkD dp mn R R') : ∀ j, j < 8 → j ≠ 3 → R j = R' j := h.1
theorem LkD.s1 {dp mn : Nat} {R R' : Row} (h : LkD dp mn R R') : mx 0 (nI 3 - R 3) = mx 0 (nI 3 - R' 3) := h.2.1
theorem LkD.s2 {dp mn : Nat} {R R' : Row} (h : LkD dp mn R R') : 3 - (R 3).toNatClampNeg = 3 - (R' 3).toNatClampNeg := h.2.2.1
theorem LkD.bl {dp mn : Nat} {R R' : Row} (h : LkD dp mn R R') : ∀ l, l < mn → R (13 + l) = R' (13 + l) := h.2.2.2.1
theorem LkD.ce {dp mn : Nat} {R R' : Row} (h : LkD dp mn R R') : ∀ p, p / 6 < mn → p % 6 < dp → R (37 + p) = R' (37 + p) ∧ R (181 + p) = R' (181 + p) := h.2.2.2.2
theorem LkD.less {l : Nat} (h : LkD dp mn R R') (hl : l ≤ mn) : LkD dp l R R' := ⟨h.tr, h.s1, h.s2, fun j hj => h.bl j (by omega), fun p h1 h2 => h.ce p (by omega) h2⟩
theorem LkD.up (h : LkD dp mn R R') (j : Nat) (v : Int32) : LkD dp mn (upd R j v) (upd R' j v) := by
  have key : ∀ i, R i = R' i → upd R j v i = upd R' j v i := fun i e => by
    simp only [upd]
    rw [e]
  refine ⟨fun i hi h3 => key i (h.tr i hi h3), ?_, ?_, fun i hi => key _ (h.bl i hi), fun p h1 h2 => ⟨key _ (h.ce p h1 h2).1, key _ (h.ce p h1 h2).2⟩⟩
  · by_cases e : 3 = j
    · subst e; rw [upd_self, upd_self]
    · rw [upd_other _ _ e, upd_other _ _ e]; exact h.s1
  · by_cases e : 3 = j
    · subst e; rw [upd_self, upd_self]
    · rw [upd_other _ _ e, upd_other _ _ e]; exact h.s2
theorem LkD.hi (h : LkD dp mn R R') {j : Nat} (x y : Int32) (h1 : 8 ≤ j) (h2 : j < 13) : LkD dp mn (upd R j x) (upd R' j y) := by
  have key : ∀ i, i ≠ j → R i = R' i → upd R j x i = upd R' j y i := fun i hi e => by
    rw [upd_other _ _ hi, upd_other _ _ hi, e]
  refine ⟨fun i hi h3 => key i (by omega) (h.tr i hi h3), ?_, ?_, fun i hi => key _ (by omega) (h.bl i hi), fun p h1 h2 => ⟨key _ (by omega) (h.ce p h1 h2).1, key _ (by omega) (h.ce p h1 h2).2⟩⟩
  · rw [upd_other _ _ (by omega), upd_other _ _ (by omega)]; exact h.s1
  · rw [upd_other _ _ (by omega), upd_other _ _ (by omega)]; exact h.s2
theorem lk_wet (h : LkD dp mn R R') {p : Nat} (v : Int32) (h1 : p / 6 < mn) (h2 : p % 6 < dp) : LkD dp mn (wetS p v R) (wetS p v R') := by
  simp only [wetS]
  rw [(h.ce p h1 h2).1]
  exact (h.up _ _).hi _ _ (by decide) (by decide)
theorem lk_come (h : LkD dp mn R R') (dr : Int32) (hd : dp ≤ 6) (hd1 : 1 ≤ dp) (hm : 1 ≤ mn) : LkD dp mn (comeR dp mn dr R) (comeR dp mn dr R') := by
  have eb : bare R mn = bare R' mn := by simp only [bare]; rw [h.s2]
  have b1 : bare R' mn ≤ mn := by simp only [bare]; omega
  simp only [comeR]
  rw [eb, h.tr 2 (by decide) (by decide), h.s1, h.tr 5 (by decide) (by decide), h.tr 4 (by decide) (by decide)]
  refine it_rel (P := fun _ X Y => LkD dp mn X Y) (fun i X Y hi hX => lk_wet hX _ (by omega) (by omega)) ?_
  refine it_rel (P := fun _ X Y => LkD dp mn X Y) (fun i X Y hi hX => lk_wet hX _ (by omega) (by omega)) ?_
  by_cases q : R' 4 = 0
  · rw [if_pos q, if_pos q]
    exact it_rel (P := fun _ X Y => LkD dp mn X Y) (fun i X Y hi hX => lk_wet hX _ (by omega) (by omega)) h
  · rw [if_neg q, if_neg q]
    exact h
theorem lk_flow {w w' : Nat → Int32} (h : LkD dp mn R R') {a b : Nat} (q : Int32) (ha : w a = w' a) (hb : w b = w' b) (a1 : a / 6 < mn) (a2 : a % 6 < dp) (b1 : b / 6 < mn) (b2 : b % 6 < dp) : LkD dp mn (flowS w a b q R) (flowS w' a b q R') := by
  simp only [flowS]
  rw [ha, hb, (h.ce a a1 a2).1]
  have h2 := h.up (37 + a) (R' (37 + a) - (w' a - w' b) / q)
  rw [(h2.ce b b1 b2).1]
  exact h2.up _ _
theorem lk_move {w w' : Nat → Int32} (h : LkD dp mn R R') (hw : ∀ p, p / 6 < mn → p % 6 < dp → w p = w' p) (hd : dp ≤ 6) : LkD dp mn (moveR w dp mn R) (moveR w' dp mn R') := by
  simp only [moveR]
  refine it_rel (P := fun _ X Y => LkD dp mn X Y) (fun l X Y hl hX => ?_) h
  refine it_rel (P := fun _ X Y => LkD dp mn X Y) (fun c X Y hc hX => ?_) hX
  simp only [moveS]
  have s1 : LkD dp mn (if c + 1 < dp then flowS w (6 * l + c) (6 * l + (c + 1)) (nI 4) X else X) (if c + 1 < dp then flowS w' (6 * l + c) (6 * l + (c + 1)) (nI 4) Y else Y) := by
    by_cases q : c + 1 < dp
    · rw [if_pos q, if_pos q]
      exact lk_flow hX _ (hw _ (by omega) (by omega)) (hw _ (by omega) (by omega)) (by omega) (by omega) (by omega) (by omega)
    · rw [if_neg q, if_neg q]
      exact hX
  by_cases q : l + 1 < mn
  · rw [if_pos q, if_pos q]
    exact lk_flow s1 _ (hw _ (by omega) (by omega)) (hw _ (by omega) (by omega)) (by omega) (by omega) (by omega) (by omega)
  · rw [if_neg q, if_neg q]
    exact s1
theorem lk_dry (h : LkD dp mn R R') (air : Int32) (hd : dp ≤ 6) : LkD dp mn (dryR air dp mn R) (dryR air dp mn R') := by
  simp only [dryR]
  refine it_rel (P := fun _ X Y => LkD dp mn X Y) (fun l X Y hl hX => ?_) h
  refine it_rel (P := fun _ X Y => LkD dp mn X Y) (fun c X Y hc hX => ?_) hX
  have e1 := (hX.ce (6 * l + c) (by omega) (by omega)).1
  have e2 : dryN X dp mn l c = dryN Y dp mn l c := by simp only [dryN]; rw [hX.tr 5 (by decide) (by decide), hX.tr 6 (by decide) (by decide)]
  have e3 : dryV X air dp mn l c = dryV Y air dp mn l c := by simp only [dryV]; rw [e1, e2]
  simp only [dryS]
  rw [e1, e3]
  exact (hX.up _ _).hi _ _ (by decide) (by decide)
theorem lk_crack {w w' : Nat → Int32} (h : LkD dp mn R R') (fr : Bool) (sk : Int32) (hw : ∀ p, p / 6 < mn → p % 6 < dp → w p = w' p) (hm : mn ≤ 24) : LkD dp mn (crackR fr sk w dp mn 0 R) (crackR fr sk w' dp mn 0 R') := by
  refine ⟨fun j hj h3 => ?_, ?_, ?_, fun l hl => ?_, fun p h1 h2 => ⟨?_, ?_⟩⟩
  · rw [crack_lo _ _ _ _ _ _ _ (by omega), crack_lo _ _ _ _ _ _ _ (by omega), h.tr j hj h3]
  · rw [crack_lo _ _ _ _ _ _ _ (by omega), crack_lo _ _ _ _ _ _ _ (by omega), h.s1]
  · rw [crack_lo _ _ _ _ _ _ _ (by omega), crack_lo _ _ _ _ _ _ _ (by omega), h.s2]
  · rw [crack_lo _ _ _ _ _ _ _ (by omega), crack_lo _ _ _ _ _ _ _ (by omega), h.bl l hl]
  · rw [crack_lo _ _ _ _ _ _ _ (by omega), crack_lo _ _ _ _ _ _ _ (by omega), (h.ce p h1 h2).1]
  · simp only [crackR]
    rw [show 181 + p - 181 = p by omega, hw p h1 h2, (h.ce p h1 h2).1, (h.ce p h1 h2).2]
theorem lk_bear (h : LkD dp mn R R') {l : Nat} (hl : l < mn) (hd : dp ≤ 6) : bear g f R dp l = bear g f R' dp l := by
  simp only [bear]
  rw [h.tr 7 (by decide) (by decide), sm_cong (fun c hc => strg_at (h.ce (6 * l + c) (by omega) (by omega)).1 (h.ce (6 * l + c) (by omega) (by omega)).2)]
theorem lk_prs (h : LkD dp mn R R') {l n : Nat} (hl : l + n < mn) (hd : dp ≤ 6) : prs R dp l n = prs R' dp l n := by
  simp only [prs, lods]
  exact sm_cong (fun i hi => sm_cong (fun c hc => lod_at (h.ce (6 * (l + 1 + i) + c) (by omega) (by omega)).1 (h.ce (6 * (l + 1 + i) + c) (by omega) (by omega)).2))
theorem lk_low (h : LkD dp mn R R') : ∀ {n l : Nat}, l + n ≤ mn → lowN R l n = lowN R' l n
  | 0, _, _ => rfl
  | n + 1, l, hl => by rw [lowN, lowN, h.bl l (by omega), lk_low h (n := n) (l := l + 1) (by omega)]
theorem lk_sit (h : LkD dp mn R R') (hd : dp ≤ 6) (hm : mn ≤ 24) : LkD dp mn (sitR g f dp mn 0 R) (sitR g f dp mn 0 R') := by
  refine ⟨fun j hj h3 => ?_, ?_, ?_, fun l hl => ?_, fun p h1 h2 => ⟨?_, ?_⟩⟩
  · rw [sit_keep _ _ _ _ _ _ hm (by omega), sit_keep _ _ _ _ _ _ hm (by omega), h.tr j hj h3]
  · rw [sit_keep _ _ _ _ _ _ hm (by omega), sit_keep _ _ _ _ _ _ hm (by omega), h.s1]
  · rw [sit_keep _ _ _ _ _ _ hm (by omega), sit_keep _ _ _ _ _ _ hm (by omega), h.s2]
  · simp only [sitR]
    rw [if_pos (by omega), if_pos (by omega), h.bl l hl, show 13 + l - 13 = l by omega, lk_bear h hl hd, lk_prs h (by omega) hd]
  · rw [sit_keep _ _ _ _ _ _ hm (by omega), sit_keep _ _ _ _ _ _ hm (by omega), (h.ce p h1 h2).1]
  · rw [sit_keep _ _ _ _ _ _ hm (by omega), sit_keep _ _ _ _ _ _ hm (by omega), (h.ce p h1 h2).2]
theorem lk_cut (h : LkD dp mn R R') {l : Nat} (hl : l ≤ mn) : LkD dp l (cutR dp mn l R) (cutR dp mn l R') := by
  have e : cutR dp mn l R = upd (upd R 1 (nI l)) 12 (R 12 + wat R dp l (mn - l)) := by
    funext j
    simp only [cutR, upd]
  have e' : cutR dp mn l R' = upd (upd R' 1 (nI l)) 12 (R' 12 + wat R' dp l (mn - l)) := by
    funext j
    simp only [cutR, upd]
  rw [e, e']
  exact ((h.up _ _).hi _ _ (by decide) (by decide)).less hl
theorem lk_fall (h : LkD dp mn R R') : LkD dp (fallN R mn) (fallR dp mn R) (fallR dp mn R') := by
  have e := lk_low h (l := 0) (n := mn) (by omega)
  simp only [fallR, fallN]
  rw [← e]
  cases q : lowN R 0 mn with
  | none => exact h
  | some l =>
    have hl := lowN_lt q
    have h9 := lk_cut (l := l) ((h.hi (j := 10) (whyR R dp l) (whyR R' dp l) (by decide) (by decide)).hi (j := 9) (R 9 + nI 1) (R' 9 + nI 1) (by decide) (by decide)) (by omega)
    exact h9
theorem lk_week (h : LkD dp mn R R') (sk dr air : Int32) (fr : Bool) (hd : dp ≤ 6) (hd1 : 1 ≤ dp) (hm : mn ≤ 24) : LkD dp (fallN (weekS g f sk dr air fr dp mn R) mn) (weekR g f sk dr air fr dp mn R) (weekR g f sk dr air fr dp mn R') := by
  simp only [weekR]
  rcases Nat.eq_zero_or_pos mn with q | q
  · subst q
    rw [if_pos (Eq.refl 0), if_pos (Eq.refl 0), fallN_0]
    exact h.hi _ _ (by decide) (by decide)
  · rw [if_neg (by omega), if_neg (by omega), weekW_S, weekW_S]
    have h1 := lk_come h dr hd hd1 q
    exact (lk_fall (lk_sit (lk_crack (lk_dry (lk_move h1 (fun p p1 p2 => (h1.ce p p1 p2).1) hd) air hd) fr sk (fun p p1 p2 => (h.ce p p1 p2).1) hm) hd hm)).hi _ _ (by decide) (by decide)
variable {Y : YD} {b b' : Nat}
/-- the same weeks do the same to both -/
def Lk (Y : YD) (R R' : Row) : Prop := LkD (dpo R) (mno R) R R' ∧ (Y.wk = 0 ∨ pso R % Y.wk = pso R' % Y.wk)
theorem lkDp (h : Lk Y R R') : dpo R' = dpo R := by simp only [dpo]; rw [h.1.tr 0 (by decide) (by decide)]
theorem lkMn (h : Lk Y R R') : mno R' = mno R := by simp only [mno]; rw [h.1.tr 1 (by decide) (by decide)]
theorem lk_wk (h : Lk Y R R') (hO : OK b R) (hO' : OK b' R') (hF : Y.Fine) (hb : b < 2 ^ 30) (hb' : b' < 2 ^ 30) : Lk Y (wkR Y R) (wkR Y R') := by
  have e1 : Y.rain (pso R') = Y.rain (pso R) ∧ Y.air (pso R') = Y.air (pso R) ∧ Y.frost (pso R') = Y.frost (pso R) := by
    simp only [YD.rain, YD.air, YD.frost]
    rcases h.2 with q | q
    · rw [if_pos q, if_pos q, if_pos q, if_pos q, if_pos q, if_pos q]; exact ⟨rfl, rfl, rfl⟩
    · rw [q]; exact ⟨rfl, rfl, rfl⟩
  have e2 : wkR Y R' = weekR Y.g Y.f Y.sk (Y.rain (pso R)) (Y.air (pso R)) (Y.frost (pso R)) (dpo R) (mno R) R' := by
    rw [wkR, e1.1, e1.2.1, e1.2.2, lkDp h, lkMn h]
  refine ⟨?_, ?_⟩
  · rw [wk_dp hO hF, (wk_mn hO hF).1, e2]
    exact lk_week h.1 Y.sk _ _ _ hO.dp.2 hO.dp.1 hO.mn
  · rw [wk_ps hO hb, wk_ps hO' hb']
    rcases h.2 with q | q
    · exact Or.inl q
    · right
      rw [Nat.add_mod, q, ← Nat.add_mod]
theorem lk_pst (h : Lk Y R R') (hO : OK b R) : pst R = pst R' := by
  simp only [pst]
  rw [lkDp h, lkMn h]
  simp only [pasteB]
  have hd := hO.dp.2
  rcases Nat.eq_zero_or_pos (mno R) with q | q
  · rw [q]
    have e : decide (0 < 0) = false := by decide
    rw [e, Bool.false_and, Bool.false_and]
  · rw [anyB_cong (fun c hc => by rw [(h.1.ce c (by omega) (by omega)).1])]
/-- the first week from k on, f being tried, behind which the foot is paste -/
def pasteS (Y : YD) : Nat → Nat → Row → Int32
  | 0, _, _ => -1
  | f + 1, k, R => if pst (wkR Y R) = true then nI k else pasteS Y f (k + 1) (wkR Y R)
theorem lk_paste (hF : Y.Fine) : ∀ {f k : Nat} {R R' : Row} {b b' : Nat}, Lk Y R R' → OK b R → OK b' R' → b + f < 2 ^ 30 → b' + f < 2 ^ 30 → pasteS Y f k R = pasteS Y f k R'
  | 0, _, _, _, _, _, _, _, _, _, _ => rfl
  | f + 1, k, R, R', b, b', h, hO, hO', hb, hb' => by
    have h1 := lk_wk h hO hO' hF (by omega) (by omega)
    have o1 := ok_wk hF hO (by omega)
    have o2 := ok_wk hF hO' (by omega)
    rw [pasteS, pasteS, lk_pst h1 o1, lk_paste hF (k := k + 1) h1 o1 o2 (by omega) (by omega)]
theorem ag_lk (a : Ag R R') : Lk Y R R' := ⟨⟨fun j hj _ => a.1 j (by omega), by rw [a.1 3 (by decide)], by rw [a.1 3 (by decide)], a.2.1, a.2.2⟩, by rw [a.ps]; exact Or.inr rfl⟩
/-- i weeks -/
def wkN (Y : YD) : Nat → Row → Row
  | 0, R => R
  | i + 1, R => wkR Y (wkN Y i R)
theorem wkN_add (Y : YD) (R : Row) (i : Nat) : ∀ j, wkN Y (i + j) R = wkN Y j (wkN Y i R)
  | 0 => rfl
  | j + 1 => by rw [← Nat.add_assoc, wkN, wkN, wkN_add Y R i j]
theorem wkN_succ (Y : YD) (R : Row) (i : Nat) : wkN Y (i + 1) R = wkN Y i (wkR Y R) := by
  rw [Nat.add_comm, wkN_add]
  rfl
theorem ok_wkN (hF : Y.Fine) (hO : OK b R) : ∀ {i : Nat}, b + i < 2 ^ 30 → OK (b + i) (wkN Y i R)
  | 0, _ => hO
  | i + 1, h => ok_wk (b := b + i) hF (ok_wkN hF hO (i := i) (by omega)) (by omega)
theorem lk_wkN (hF : Y.Fine) (h : Lk Y R R') (hO : OK b R) (hO' : OK b' R') : ∀ {i : Nat}, b + i < 2 ^ 30 → b' + i < 2 ^ 30 → Lk Y (wkN Y i R) (wkN Y i R')
  | 0, _, _ => h
  | i + 1, h1, h2 => lk_wk (lk_wkN hF h hO hO' (i := i) (by omega) (by omega)) (ok_wkN hF hO (by omega)) (ok_wkN hF hO' (by omega)) hF (by omega) (by omega)
theorem paste_none : ∀ {f k : Nat} {R : Row}, (∀ i, 1 ≤ i → i ≤ f → pst (wkN Y i R) = false) → pasteS Y f k R = -1
  | 0, _, _, _ => rfl
  | f + 1, k, R, h => by
    have h1 := h 1 (by omega) (by omega)
    rw [pasteS]
    have e : wkN Y 1 R = wkR Y R := rfl
    rw [e] at h1
    rw [h1, if_neg (by decide)]
    refine paste_none (fun i h2 h3 => ?_)
    rw [← wkN_succ]
    exact h (i + 1) (by omega) (by omega)
/-- a round that leaves the wall as it was is the same ever after -/
theorem paste_round (hF : Y.Fine) (hO : OK b R) {rd : Nat} (hr : 1 ≤ rd) (hl : Lk Y (wkN Y rd R) R) (hp : ∀ i, 1 ≤ i → i ≤ rd → pst (wkN Y i R) = false) : ∀ {i : Nat}, 1 ≤ i → b + i < 2 ^ 30 → pst (wkN Y i R) = false := by
  intro i
  induction i using Nat.strongRecOn with
  | ind i ih =>
    intro h1 h2
    by_cases q : i ≤ rd
    · exact hp i h1 q
    · obtain ⟨j, rfl⟩ : ∃ j, i = rd + j := ⟨i - rd, by omega⟩
      have o1 := ok_wkN hF hO (i := rd) (by omega)
      have h3 := lk_wkN hF hl o1 hO (i := j) (by omega) (by omega)
      rw [wkN_add, lk_pst h3 (ok_wkN hF o1 (by omega))]
      exact ih j (by omega) (by omega) (by omega)
theorem wkN_tr (hF : Y.Fine) (hO : OK b R) {j : Nat} (hj : j < 8) (h1 : j ≠ 1) : ∀ {i : Nat}, b + i < 2 ^ 30 → wkN Y i R j = R j
  | 0, _ => rfl
  | i + 1, h => by
    rw [wkN, wk_tr (ok_wkN hF hO (i := i) (by omega)) hF hj h1, wkN_tr hF hO hj h1 (by omega)]
theorem wkN_ps (hF : Y.Fine) (hO : OK b R) : ∀ {i : Nat}, b + i < 2 ^ 30 → pso (wkN Y i R) = pso R + i
  | 0, _ => rfl
  | i + 1, h => by
    rw [wkN, wk_ps (ok_wkN hF hO (i := i) (by omega)) (by omega), wkN_ps hF hO (by omega)]
    omega
/-- what standsLike sees -/
def LkB (R R' : Row) : Prop := R 0 = R' 0 ∧ R 1 = R' 1 ∧ (∀ l, l < mno R → R (13 + l) = R' (13 + l)) ∧ ∀ p, p / 6 < mno R → p % 6 < dpo R → R (37 + p) = R' (37 + p) ∧ R (181 + p) = R' (181 + p)
theorem lkb_ag {A A' : Row} (h : LkB R R') (a : Ag R A) (a' : Ag R' A') : LkB A A' := by
  obtain ⟨h1, h2, h3, h4⟩ := h
  have e1 : mno R' = mno R := by simp only [mno]; rw [h2]
  have e2 : dpo R' = dpo R := by simp only [dpo]; rw [h1]
  refine ⟨by rw [← a.1 0 (by decide), ← a'.1 0 (by decide), h1], by rw [← a.1 1 (by decide), ← a'.1 1 (by decide), h2], ?_, ?_⟩
  · rw [a.mn]
    intro l hl
    rw [← a.2.1 l hl, ← a'.2.1 l (by rw [e1]; exact hl), h3 l hl]
  · rw [a.mn, a.dp]
    intro p p1 p2
    rw [← (a.2.2 p p1 p2).1, ← (a.2.2 p p1 p2).2, ← (a'.2.2 p (by rw [e1]; exact p1) (by rw [e2]; exact p2)).1, ← (a'.2.2 p (by rw [e1]; exact p1) (by rw [e2]; exact p2)).2]
    exact h4 p p1 p2
theorem lkb_round (hF : Y.Fine) (hO : OK b R) {rd : Nat} (hr : rd = max 1 Y.wk) (hb : b + rd < 2 ^ 30) (h : LkB (wkN Y rd R) R) : Lk Y (wkN Y rd R) R := by
  refine ⟨⟨fun j hj h3 => ?_, by rw [wkN_tr hF hO (by decide) (by decide) hb], by rw [wkN_tr hF hO (by decide) (by decide) hb], h.2.2.1, h.2.2.2⟩, ?_⟩
  · by_cases e : j = 1
    · subst e; exact h.2.1
    · exact wkN_tr hF hO hj e hb
  · by_cases q : Y.wk = 0
    · exact Or.inl q
    · right
      rw [wkN_ps hF hO hb, hr, show max 1 Y.wk = Y.wk by omega, Nat.add_mod_right]
/-- shoes from 3 on do the same -/
theorem lk_shoes (R : Row) {s s' : Nat} (h : 3 ≤ s) (h' : 3 ≤ s') (hs : s ≤ 9) (hs' : s' ≤ 9) : Lk Y (upd R 3 (nI s)) (upd R 3 (nI s')) := by
  have e : ∀ s, 3 ≤ s → s ≤ 9 → mx 0 (nI 3 - nI s) = 0 ∧ 3 - (nI s).toNatClampNeg = 0 := by
    intro s h1 h2
    rcases (show s = 3 ∨ s = 4 ∨ s = 5 ∨ s = 6 ∨ s = 7 ∨ s = 8 ∨ s = 9 by omega) with e | e | e | e | e | e | e <;> subst e <;> decide
  have ep : pso (upd R 3 (nI s)) = pso (upd R 3 (nI s')) := by simp only [pso]; rw [upd_other _ _ (by decide), upd_other _ _ (by decide)]
  refine ⟨⟨fun j hj h3 => by rw [upd_other _ _ h3, upd_other _ _ h3], ?_, ?_, fun l hl => by rw [upd_other _ _ (by omega), upd_other _ _ (by omega)], fun p _ _ => ⟨by rw [upd_other _ _ (by omega), upd_other _ _ (by omega)], by rw [upd_other _ _ (by omega), upd_other _ _ (by omega)]⟩⟩, Or.inr (by rw [ep])⟩
  · rw [upd_self, upd_self, (e s h hs).1, (e s' h' hs').1]
  · rw [upd_self, upd_self, (e s h hs).2, (e s' h' hs').2]
theorem upd_dp (R : Row) {j : Nat} (v : Int32) (h : j ≠ 0) : dpo (upd R j v) = dpo R := by simp only [dpo]; rw [upd_other _ _ (Ne.symm h)]
theorem upd_mn (R : Row) {j : Nat} (v : Int32) (h : j ≠ 1) : mno (upd R j v) = mno R := by simp only [mno]; rw [upd_other _ _ (Ne.symm h)]
theorem ag_up (a : Ag R R') {j : Nat} (v : Int32) (h0 : j ≠ 0) (h1 : j ≠ 1) : Ag (upd R j v) (upd R' j v) := by
  simp only [Ag]
  rw [upd_dp _ _ h0, upd_mn _ _ h1]
  exact AgD.upd a j v
theorem ok_up3 (h : OK b R) {s : Nat} (hs : s ≤ 9) : OK b (upd R 3 (nI s)) := by
  have e0 := upd_dp R (j := 3) (nI s) (by decide)
  have e1 := upd_mn R (j := 3) (nI s) (by decide)
  have e8 : pso (upd R 3 (nI s)) = pso R := by simp only [pso]; rw [upd_other _ _ (by decide)]
  have e9 : feo (upd R 3 (nI s)) = feo R := by simp only [feo]; rw [upd_other _ _ (by decide)]
  refine ⟨?_, ?_, ?_, by rw [upd_other _ _ (by decide)]; exact h.hat, by rw [upd_other _ _ (by decide)]; exact h.prp, ⟨s, hs, upd_self _ _ _⟩, by rw [upd_other _ _ (by decide)]; exact h.grd, by rw [upd_other _ _ (by decide)]; exact h.out, by rw [upd_other _ _ (by decide)]; exact h.inn, by rw [e8, upd_other _ _ (by decide)]; exact h.pas, by rw [e9, upd_other _ _ (by decide)]; exact h.fel⟩
  · rw [e0, e1]
    obtain ⟨h1, h2, h3, h4, h5⟩ := h.wf
    exact ⟨by rw [upd_other _ _ (by decide)]; exact h1, h2, h3, by rw [upd_other _ _ (by decide)]; exact h4, h5⟩
  · rw [e0, e1]
    intro p p1 p2
    rw [upd_other _ _ (by omega)]
    exact h.wok p p1 p2
  · rw [e1]
    intro l hl
    rw [upd_other _ _ (by omega)]
    exact h.bul l hl
theorem ok_up5 (h : OK b R) {s : Nat} (hs : s ≤ 100) : OK b (upd R 5 (nI s)) := by
  have e0 := upd_dp R (j := 5) (nI s) (by decide)
  have e1 := upd_mn R (j := 5) (nI s) (by decide)
  have e8 : pso (upd R 5 (nI s)) = pso R := by simp only [pso]; rw [upd_other _ _ (by decide)]
  have e9 : feo (upd R 5 (nI s)) = feo R := by simp only [feo]; rw [upd_other _ _ (by decide)]
  refine ⟨?_, ?_, ?_, by rw [upd_other _ _ (by decide)]; exact h.hat, by rw [upd_other _ _ (by decide)]; exact h.prp, by rw [upd_other _ _ (by decide)]; exact h.sho, by rw [upd_other _ _ (by decide)]; exact h.grd, by rw [upd_self, nI_toInt (by omega)]; omega, by rw [upd_other _ _ (by decide)]; exact h.inn, by rw [e8, upd_other _ _ (by decide)]; exact h.pas, by rw [e9, upd_other _ _ (by decide)]; exact h.fel⟩
  · rw [e0, e1]
    obtain ⟨h1, h2, h3, h4, h5⟩ := h.wf
    exact ⟨by rw [upd_other _ _ (by decide)]; exact h1, h2, h3, by rw [upd_other _ _ (by decide)]; exact h4, h5⟩
  · rw [e0, e1]
    intro p p1 p2
    rw [upd_other _ _ (by omega)]
    exact h.wok p p1 p2
  · rw [e1]
    intro l hl
    rw [upd_other _ _ (by omega)]
    exact h.bul l hl
/-- the first that gives none, m being tried from i on -/
def lnS (q res : Nat → Int32) : Nat → Nat → Int32
  | _, 0 => -1
  | i, m + 1 => if q i = -1 then res i else lnS q res (i + 1) m
theorem lnS_none {q res : Nat → Int32} : ∀ {m i : Nat}, (∀ j, i ≤ j → j < i + m → q j ≠ -1) → lnS q res i m = -1
  | 0, _, _ => rfl
  | m + 1, i, h => by
    rw [lnS, if_neg (h i (by omega) (by omega)), lnS_none (fun j h1 h2 => h j (by omega) (by omega))]
theorem lnS_add {q res : Nat → Int32} (n : Nat) : ∀ {m i : Nat}, (∀ j, i + m ≤ j → j < i + m + n → q j ≠ -1) → lnS q res i (m + n) = lnS q res i m
  | 0, i, h => by
    rw [Nat.zero_add, lnS_none (fun j h1 h2 => h j (by omega) (by omega))]
    rfl
  | m + 1, i, h => by
    rw [show m + 1 + n = (m + n) + 1 by omega, lnS, lnS, lnS_add n (fun j h1 h2 => h j (by omega) (by omega))]
theorem lnS_hit {q res : Nat → Int32} (n : Nat) : ∀ {m i j : Nat}, i ≤ j → j < i + m → q j = -1 → lnS q res i (m + n) = lnS q res i m
  | 0, i, j, h1, h2, _ => by omega
  | m + 1, i, j, h1, h2, h3 => by
    rw [show m + 1 + n = (m + n) + 1 by omega, lnS, lnS]
    by_cases e : q i = -1
    · rw [if_pos e, if_pos e]
    · rw [if_neg e, if_neg e]
      rcases Nat.eq_or_lt_of_le h1 with z | z
      · subst z; exact absurd h3 e
      · exact lnS_hit n (j := j) (by omega) (by omega) h3
/-- of shoes only 0 to 3 matter -/
theorem shoes_few (hF : Y.Fine) (hO : OK b R) {weeks : Nat} (hb : b + weeks < 2 ^ 30) : lnS (fun k => pasteS Y weeks 1 (upd R 3 (nI k))) nI 0 10 = lnS (fun k => pasteS Y weeks 1 (upd R 3 (nI k))) nI 0 4 := by
  by_cases q : pasteS Y weeks 1 (upd R 3 (nI 3)) = -1
  · exact lnS_hit 6 (m := 4) (i := 0) (j := 3) (by omega) (by omega) q
  · exact lnS_add 6 (m := 4) (i := 0) (fun j h1 h2 => by
      rw [lk_paste hF (lk_shoes R (s := j) (s' := 3) (by omega) (by omega) (by omega) (by omega)) (ok_up3 hO (by omega)) (ok_up3 hO (by omega)) hb hb]
      exact q)
end LIKE
