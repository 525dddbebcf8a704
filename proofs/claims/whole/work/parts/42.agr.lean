section AGR
variable {g f : Int32} {R R' : Row} {dp mn : Nat}
/-- two rows agree on traits and live cells -/
def AgD (dp mn : Nat) (R R' : Row) : Prop := (∀ j, j < 13 → R j = R' j) ∧ (∀ l, l < mn → R (13 + l) = R' (13 + l)) ∧ ∀ p, p / 6 < mn → p % 6 < dp → R (37 + p) = R' (37 + p) ∧ R (181 + p) = R' (181 + p)
theorem AgD.rfl (R : Row) : AgD dp mn R R := ⟨fun _ _ => Eq.refl _, fun _ _ => Eq.refl _, fun _ _ _ => ⟨Eq.refl _, Eq.refl _⟩⟩
theorem AgD.symm (h : AgD dp mn R R') : AgD dp mn R' R := ⟨fun j hj => (h.1 j hj).symm, fun j hj => (h.2.1 j hj).symm, fun p h1 h2 => ⟨(h.2.2 p h1 h2).1.symm, (h.2.2 p h1 h2).2.symm⟩⟩
theorem AgD.trans {R'' : Row} (h : AgD dp mn R R') (h' : AgD dp mn R' R'') : AgD dp mn R R'' := ⟨fun j hj => (h.1 j hj).trans (h'.1 j hj), fun j hj => (h.2.1 j hj).trans (h'.2.1 j hj), fun p h1 h2 => ⟨(h.2.2 p h1 h2).1.trans (h'.2.2 p h1 h2).1, (h.2.2 p h1 h2).2.trans (h'.2.2 p h1 h2).2⟩⟩
theorem AgD.less {l : Nat} (h : AgD dp mn R R') (hl : l ≤ mn) : AgD dp l R R' := ⟨h.1, fun j hj => h.2.1 j (by omega), fun p h1 h2 => h.2.2 p (by omega) h2⟩
theorem AgD.upd (h : AgD dp mn R R') (j : Nat) (v : Int32) : AgD dp mn (upd R j v) (upd R' j v) := by
  have key : ∀ i, R i = R' i → Jvm.Pilot.CMudWallsLaw_law_r4702_6d23ca.upd R j v i = Jvm.Pilot.CMudWallsLaw_law_r4702_6d23ca.upd R' j v i := fun i e => by
    simp only [Jvm.Pilot.CMudWallsLaw_law_r4702_6d23ca.upd]
    rw [e]
  exact ⟨fun i hi => key i (h.1 i hi), fun i hi => key _ (h.2.1 i hi), fun p h1 h2 => ⟨key _ (h.2.2 p h1 h2).1, key _ (h.2.2 p h1 h2).2⟩⟩
theorem it_rel {α β : Type} {P : Nat → α → β → Prop} {F : Nat → α → α} {F' : Nat → β → β} : ∀ {n : Nat} {x : α} {y : β}, (∀ i x y, i < n → P i x y → P (i + 1) (F i x) (F' i y)) → P 0 x y → P n (it F n x) (it F' n y)
  | 0, _, _, _, h0 => h0
  | n + 1, x, y, h, h0 => h n _ _ (by omega) (it_rel (fun i x y hi => h i x y (by omega)) h0)
theorem ag_wet (h : AgD dp mn R R') {p : Nat} (v : Int32) (h1 : p / 6 < mn) (h2 : p % 6 < dp) : AgD dp mn (wetS p v R) (wetS p v R') := by
  simp only [wetS]
  rw [(h.2.2 p h1 h2).1, h.1 11 (by decide)]
  exact (h.upd _ _).upd _ _
theorem ag_come (h : AgD dp mn R R') (dr : Int32) (hd : dp ≤ 6) (hd1 : 1 ≤ dp) (hm : 1 ≤ mn) : AgD dp mn (comeR dp mn dr R) (comeR dp mn dr R') := by
  have eb : bare R mn = bare R' mn := by simp only [bare]; rw [h.1 3 (by decide)]
  have b1 : bare R' mn ≤ mn := by simp only [bare]; omega
  simp only [comeR]
  rw [eb, h.1 2 (by decide), h.1 3 (by decide), h.1 5 (by decide), h.1 4 (by decide)]
  refine it_rel (P := fun _ X Y => AgD dp mn X Y) (fun i X Y hi hX => ag_wet hX _ (by omega) (by omega)) ?_
  refine it_rel (P := fun _ X Y => AgD dp mn X Y) (fun i X Y hi hX => ag_wet hX _ (by omega) (by omega)) ?_
  by_cases q : R' 4 = 0
  · rw [if_pos q, if_pos q]
    exact it_rel (P := fun _ X Y => AgD dp mn X Y) (fun i X Y hi hX => ag_wet hX _ (by omega) (by omega)) h
  · rw [if_neg q, if_neg q]
    exact h
theorem ag_flow {w w' : Nat → Int32} (h : AgD dp mn R R') {a b : Nat} (q : Int32) (ha : w a = w' a) (hb : w b = w' b) (a1 : a / 6 < mn) (a2 : a % 6 < dp) (b1 : b / 6 < mn) (b2 : b % 6 < dp) : AgD dp mn (flowS w a b q R) (flowS w' a b q R') := by
  simp only [flowS]
  rw [ha, hb, (h.2.2 a a1 a2).1]
  have h2 := h.upd (37 + a) (R' (37 + a) - (w' a - w' b) / q)
  rw [(h2.2.2 b b1 b2).1]
  exact h2.upd _ _
theorem ag_move {w w' : Nat → Int32} (h : AgD dp mn R R') (hw : ∀ p, p / 6 < mn → p % 6 < dp → w p = w' p) (hd : dp ≤ 6) : AgD dp mn (moveR w dp mn R) (moveR w' dp mn R') := by
  simp only [moveR]
  refine it_rel (P := fun _ X Y => AgD dp mn X Y) (fun l X Y hl hX => ?_) h
  refine it_rel (P := fun _ X Y => AgD dp mn X Y) (fun c X Y hc hX => ?_) hX
  simp only [moveS]
  have s1 : AgD dp mn (if c + 1 < dp then flowS w (6 * l + c) (6 * l + (c + 1)) (nI 4) X else X) (if c + 1 < dp then flowS w' (6 * l + c) (6 * l + (c + 1)) (nI 4) Y else Y) := by
    by_cases q : c + 1 < dp
    · rw [if_pos q, if_pos q]
      exact ag_flow hX _ (hw _ (by omega) (by omega)) (hw _ (by omega) (by omega)) (by omega) (by omega) (by omega) (by omega)
    · rw [if_neg q, if_neg q]
      exact hX
  by_cases q : l + 1 < mn
  · rw [if_pos q, if_pos q]
    exact ag_flow s1 _ (hw _ (by omega) (by omega)) (hw _ (by omega) (by omega)) (by omega) (by omega) (by omega) (by omega)
  · rw [if_neg q, if_neg q]
    exact s1
theorem ag_dry (h : AgD dp mn R R') (air : Int32) (hd : dp ≤ 6) : AgD dp mn (dryR air dp mn R) (dryR air dp mn R') := by
  simp only [dryR]
  refine it_rel (P := fun _ X Y => AgD dp mn X Y) (fun l X Y hl hX => ?_) h
  refine it_rel (P := fun _ X Y => AgD dp mn X Y) (fun c X Y hc hX => ?_) hX
  have e1 := (hX.2.2 (6 * l + c) (by omega) (by omega)).1
  have e2 : dryN X dp mn l c = dryN Y dp mn l c := by simp only [dryN]; rw [hX.1 5 (by decide), hX.1 6 (by decide)]
  have e3 : dryV X air dp mn l c = dryV Y air dp mn l c := by simp only [dryV]; rw [e1, e2]
  simp only [dryS]
  rw [e1, e3, hX.1 12 (by decide)]
  exact (hX.upd _ _).upd _ _
theorem ag_crack {w w' : Nat → Int32} (h : AgD dp mn R R') (fr : Bool) (sk : Int32) (hw : ∀ p, p / 6 < mn → p % 6 < dp → w p = w' p) (hm : mn ≤ 24) : AgD dp mn (crackR fr sk w dp mn 0 R) (crackR fr sk w' dp mn 0 R') := by
  refine ⟨fun j hj => ?_, fun l hl => ?_, fun p h1 h2 => ⟨?_, ?_⟩⟩
  · rw [crack_lo _ _ _ _ _ _ _ (by omega), crack_lo _ _ _ _ _ _ _ (by omega), h.1 j hj]
  · rw [crack_lo _ _ _ _ _ _ _ (by omega), crack_lo _ _ _ _ _ _ _ (by omega), h.2.1 l hl]
  · rw [crack_lo _ _ _ _ _ _ _ (by omega), crack_lo _ _ _ _ _ _ _ (by omega), (h.2.2 p h1 h2).1]
  · simp only [crackR]
    rw [show 181 + p - 181 = p by omega, hw p h1 h2, (h.2.2 p h1 h2).1, (h.2.2 p h1 h2).2]
theorem ag_bear (h : AgD dp mn R R') {l : Nat} (hl : l < mn) (hd : dp ≤ 6) : bear g f R dp l = bear g f R' dp l := by
  simp only [bear]
  rw [h.1 7 (by decide), sm_cong (fun c hc => strg_at (h.2.2 (6 * l + c) (by omega) (by omega)).1 (h.2.2 (6 * l + c) (by omega) (by omega)).2)]
theorem ag_lods (h : AgD dp mn R R') {l : Nat} (hl : l < mn) (hd : dp ≤ 6) : lods R dp l = lods R' dp l := by
  simp only [lods]
  exact sm_cong (fun c hc => lod_at (h.2.2 (6 * l + c) (by omega) (by omega)).1 (h.2.2 (6 * l + c) (by omega) (by omega)).2)
theorem ag_prs (h : AgD dp mn R R') {l n : Nat} (hl : l + n < mn) (hd : dp ≤ 6) : prs R dp l n = prs R' dp l n := by
  simp only [prs]
  exact sm_cong (fun i hi => ag_lods h (by omega) hd)
theorem ag_wat (h : AgD dp mn R R') {l n : Nat} (hl : l + n ≤ mn) (hd : dp ≤ 6) : wat R dp l n = wat R' dp l n := by
  simp only [wat]
  exact sm_cong (fun i hi => sm_cong (fun c hc => (h.2.2 (6 * (l + i) + c) (by omega) (by omega)).1))
theorem ag_why (h : AgD dp mn R R') {l : Nat} (hl : l < mn) (hd : dp ≤ 6) : whyR R dp l = whyR R' dp l :=
  why_cong (fun c hc => ⟨(h.2.2 (6 * l + c) (by omega) (by omega)).2, (h.2.2 (6 * l + c) (by omega) (by omega)).1⟩)
theorem ag_low (h : AgD dp mn R R') : ∀ {n l : Nat}, l + n ≤ mn → lowN R l n = lowN R' l n
  | 0, _, _ => rfl
  | n + 1, l, hl => by rw [lowN, lowN, h.2.1 l (by omega), ag_low h (n := n) (l := l + 1) (by omega)]
theorem ag_sit (h : AgD dp mn R R') (hd : dp ≤ 6) (hm : mn ≤ 24) : AgD dp mn (sitR g f dp mn 0 R) (sitR g f dp mn 0 R') := by
  refine ⟨fun j hj => ?_, fun l hl => ?_, fun p h1 h2 => ⟨?_, ?_⟩⟩
  · rw [sit_keep _ _ _ _ _ _ hm (by omega), sit_keep _ _ _ _ _ _ hm (by omega), h.1 j hj]
  · simp only [sitR]
    rw [if_pos (by omega), if_pos (by omega), h.2.1 l hl, show 13 + l - 13 = l by omega, ag_bear h hl hd, ag_prs h (by omega) hd]
  · rw [sit_keep _ _ _ _ _ _ hm (by omega), sit_keep _ _ _ _ _ _ hm (by omega), (h.2.2 p h1 h2).1]
  · rw [sit_keep _ _ _ _ _ _ hm (by omega), sit_keep _ _ _ _ _ _ hm (by omega), (h.2.2 p h1 h2).2]
theorem ag_cut (h : AgD dp mn R R') {l : Nat} (hl : l ≤ mn) (hd : dp ≤ 6) : AgD dp l (cutR dp mn l R) (cutR dp mn l R') := by
  have e : cutR dp mn l R = upd (upd R 1 (nI l)) 12 (R 12 + wat R dp l (mn - l)) := by
    funext j
    simp only [cutR, upd]
  have e' : cutR dp mn l R' = upd (upd R' 1 (nI l)) 12 (R' 12 + wat R' dp l (mn - l)) := by
    funext j
    simp only [cutR, upd]
  rw [e, e', h.1 12 (by decide), ag_wat h (by omega) hd]
  exact ((h.upd _ _).upd _ _).less hl
theorem ag_fall (h : AgD dp mn R R') (hd : dp ≤ 6) : AgD dp (fallN R mn) (fallR dp mn R) (fallR dp mn R') ∧ fallN R mn = fallN R' mn := by
  have e := ag_low h (l := 0) (n := mn) (by omega)
  simp only [fallR, fallN]
  rw [← e]
  cases q : lowN R 0 mn with
  | none => exact ⟨h, rfl⟩
  | some l =>
    have hl := lowN_lt q
    refine ⟨?_, rfl⟩
    show AgD dp l (cutR dp mn l (Jvm.Pilot.CMudWallsLaw_law_r4702_6d23ca.upd (Jvm.Pilot.CMudWallsLaw_law_r4702_6d23ca.upd R 10 (whyR R dp l)) 9 (R 9 + nI 1))) (cutR dp mn l (Jvm.Pilot.CMudWallsLaw_law_r4702_6d23ca.upd (Jvm.Pilot.CMudWallsLaw_law_r4702_6d23ca.upd R' 10 (whyR R' dp l)) 9 (R' 9 + nI 1)))
    rw [ag_why h (by omega) hd, h.1 9 (by decide)]
    exact ag_cut ((h.upd _ _).upd _ _) (by omega) hd
theorem ag_weekS (h : AgD dp mn R R') (sk dr air : Int32) (fr : Bool) (hd : dp ≤ 6) (hd1 : 1 ≤ dp) (hm1 : 1 ≤ mn) (hm : mn ≤ 24) : AgD dp mn (weekS g f sk dr air fr dp mn R) (weekS g f sk dr air fr dp mn R') := by
  have h1 := ag_come h dr hd hd1 hm1
  exact ag_sit (ag_crack (ag_dry (ag_move h1 (fun p p1 p2 => (h1.2.2 p p1 p2).1) hd) air hd) fr sk (fun p p1 p2 => (h.2.2 p p1 p2).1) hm) hd hm
theorem fallN_0 (R : Row) : fallN R 0 = 0 := by simp only [fallN, lowN]
theorem ag_week (h : AgD dp mn R R') (sk dr air : Int32) (fr : Bool) (hd : dp ≤ 6) (hd1 : 1 ≤ dp) (hm : mn ≤ 24) : AgD dp (fallN (weekS g f sk dr air fr dp mn R) mn) (weekR g f sk dr air fr dp mn R) (weekR g f sk dr air fr dp mn R') ∧ lowN (weekS g f sk dr air fr dp mn R) 0 mn = lowN (weekS g f sk dr air fr dp mn R') 0 mn := by
  simp only [weekR]
  rw [h.1 8 (by decide)]
  rcases Nat.eq_zero_or_pos mn with q | q
  · subst q
    rw [if_pos (Eq.refl 0), if_pos (Eq.refl 0), fallN_0]
    exact ⟨h.upd _ _, by simp only [lowN]⟩
  · rw [if_neg (by omega), if_neg (by omega), weekW_S, weekW_S]
    have h1 := ag_weekS (g := g) (f := f) h sk dr air fr hd hd1 q hm
    exact ⟨(ag_fall h1 hd).1.upd _ _, ag_low h1 (by omega)⟩
theorem rais1_at {j : Nat} (h11 : R 11 = R' 11) (hj : j = 13 + mn ∨ (37 + 6 * mn ≤ j ∧ j < 37 + 6 * mn + dp) ∨ (181 + 6 * mn ≤ j ∧ j < 181 + 6 * mn + dp) ∨ R j = R' j) : rais1 dp mn R j = rais1 dp mn R' j := by
  simp only [rais1, rIn]
  rw [h11]
  rcases hj with e | e | e | e
  · rw [if_pos e, if_pos e]
  · by_cases q : j = 13 + mn
    · rw [if_pos q, if_pos q]
    · rw [if_neg q, if_neg q, if_pos e, if_pos e]
  · by_cases q : j = 13 + mn
    · rw [if_pos q, if_pos q]
    · rw [if_neg q, if_neg q]
      by_cases q : 37 + 6 * mn ≤ j ∧ j < 37 + 6 * mn + dp
      · rw [if_pos q, if_pos q]
      · rw [if_neg q, if_neg q, if_pos e, if_pos e]
  · rw [e]
theorem ag_rais1 (h : AgD dp mn R R') (hd : dp ≤ 6) : AgD dp (mn + 1) (rais1 dp mn R) (rais1 dp mn R') := by
  have h11 := h.1 11 (by decide)
  refine ⟨fun j hj => rais1_at h11 (Or.inr (Or.inr (Or.inr (h.1 j hj)))), fun l hl => ?_, fun p h1 h2 => ?_⟩
  · by_cases e : l = mn
    · exact rais1_at h11 (Or.inl (by omega))
    · exact rais1_at h11 (Or.inr (Or.inr (Or.inr (h.2.1 l (by omega)))))
  · by_cases e : p < 6 * mn
    · have h3 := h.2.2 p (by omega) h2
      exact ⟨rais1_at h11 (Or.inr (Or.inr (Or.inr h3.1))), rais1_at h11 (Or.inr (Or.inr (Or.inr h3.2)))⟩
    · exact ⟨rais1_at h11 (Or.inr (Or.inl (by omega))), rais1_at h11 (Or.inr (Or.inr (Or.inl (by omega))))⟩
theorem ag_rais (h : AgD dp mn R R') (hd : dp ≤ 6) : ∀ {n : Nat}, mn + n ≤ 24 → AgD dp (mn + n) (raisR dp mn n R) (raisR dp mn n R')
  | 0, _ => h
  | n + 1, hn => by
    rw [rais_step, rais_step]
    exact ag_rais1 (ag_rais h hd (n := n) (by omega)) hd
theorem ag_work (h : AgD dp mn R R') (j : Nat) : AgD dp mn (workR j R) (workR j R') := by
  match j with
  | 0 => exact h.upd _ _
  | 1 => exact h.upd _ _
  | 2 => exact h.upd _ _
  | 3 => simp only [workR]; rw [h.1 3 (by decide)]; exact h.upd _ _
  | 4 => exact h.upd _ _
  | j + 5 => exact h.upd _ _
theorem ag_bec (A B : Row) (hm : mn ≤ 24) : AgD dp mn (becR mn A B) A := by
  refine ⟨fun j hj => ?_, fun l hl => ?_, fun p h1 h2 => ⟨?_, ?_⟩⟩
  · simp only [becR]; rw [if_pos (by omega)]
  · simp only [becR]; rw [if_pos (by omega)]
  · simp only [becR]; rw [if_pos (by omega)]
  · simp only [becR]; rw [if_pos (by omega)]
theorem ag_sitB (h : AgD dp mn R R') (hd : dp ≤ 6) : sitB g f R dp mn = sitB g f R' dp mn := by
  simp only [sitB]
  exact anyB_cong (fun l hl => by rw [ag_bear h hl hd, ag_prs h (by omega) hd])
theorem hiN_cong {s s' : Nat → Bool} : ∀ {n b : Nat}, (∀ i, b < i → i ≤ b + n → s i = s' i) → hiN s b n = hiN s' b n
  | 0, _, _ => rfl
  | n + 1, b, h => by rw [hiN, hiN, h (b + 1) (by omega) (by omega), hiN_cong (n := n) (b := b + 1) (fun i h1 h2 => h i (by omega) (by omega))]
theorem ag_hi (h : AgD dp mn R R') (hd : dp ≤ 6) (hm : mn ≤ 24) : hiR g f R dp mn = hiR g f R' dp mn := by
  simp only [hiR]
  rw [ag_sitB h hd, hiN_cong (fun i _ hi => ag_sitB (ag_rais h hd (by omega)) hd)]
theorem ag_paste (h : AgD dp mn R R') (hd : dp ≤ 6) : pasteB R dp mn = pasteB R' dp mn := by
  simp only [pasteB]
  rcases Nat.eq_zero_or_pos mn with q | q
  · subst q
    have e : decide (0 < 0) = false := by decide
    rw [e, Bool.false_and, Bool.false_and]
  · rw [anyB_cong (fun c hc => by rw [(h.2.2 c (by omega) (by omega)).1])]
theorem ag_bulges (h : AgD dp mn R R') : sm (fun l => R (13 + l)) mn = sm (fun l => R' (13 + l)) mn := sm_cong (fun l hl => h.2.1 l hl)
end AGR
