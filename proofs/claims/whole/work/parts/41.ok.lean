section OKS
variable {g f : Int32} {R R' : Row} {dp mn : Nat}
theorem it_inv {α : Type} {P : Nat → α → Prop} {F : Nat → α → α} : ∀ {n : Nat} {x : α}, (∀ i x, i < n → P i x → P (i + 1) (F i x)) → P 0 x → P n (it F n x)
  | 0, _, _, h0 => h0
  | n + 1, x, h, h0 => h n _ (by omega) (it_inv (fun i x hi => h i x (by omega)) h0)
theorem wet_wok (hO : WOK R dp mn) {p : Nat} {v : Int32} (hv : 0 ≤ v.toInt) (hp : p / 6 < mn) (hq : p % 6 < dp) : WOK (wetS p v R) dp mn := by
  intro i h1 h2
  have h3 := hO i h1 h2
  simp only [wetS, upd]
  rw [if_neg (by omega)]
  by_cases e : 37 + i = 37 + p
  · rw [if_pos e, ← e]
    have e1 : (nI 400 - R (37 + i)).toInt = 400 - (R (37 + i)).toInt := fb_subI (by show _ ≤ (400 : Int) - _; omega) (by show (400 : Int) - _ < _; omega)
    have e2 := ti_mi v (nI 400 - R (37 + i))
    rw [e1] at e2
    rw [fb_addI (by omega) (by omega)]
    omega
  · rw [if_neg e]
    exact h3
theorem come_wok (hO : WOK R dp mn) (hd : dp ≤ 6) (hd1 : 1 ≤ dp) (hm : 1 ≤ mn) {dr : Int32} (h1 : 0 ≤ dr.toInt ∧ dr.toInt ≤ 99) (h5 : 0 ≤ (R 5).toInt ∧ (R 5).toInt ≤ 100) (h2 : 0 ≤ (R 2).toInt ∧ (R 2).toInt ≤ 20) {sh : Nat} (h3 : R 3 = nI sh) (hs : sh ≤ 9) : WOK (comeR dp mn dr R) dp mn := by
  have e3 : (nI 3).toInt = 3 := rfl
  have e200 : (nI 200).toInt = 200 := rfl
  have b1 : bare R mn ≤ mn := by simp only [bare]; omega
  have m1 : 0 ≤ dr.toInt * (R 5).toInt := Int.mul_nonneg h1.1 h5.1
  have m2 : dr.toInt * (R 5).toInt ≤ 99 * 100 := Int.mul_le_mul h1.2 h5.2 h5.1 (by decide)
  have v1 : 0 ≤ (dr * R 5 / nI 200).toInt := by
    have e : (dr * R 5).toInt = dr.toInt * (R 5).toInt := fb_mulI (by omega) (by omega)
    rw [ti_divP (by decide) (by omega), e, e200]
    omega
  have v2 : 0 ≤ (R 2 * mx 0 (nI 3 - R 3) / nI 3).toInt := by
    have h3i : (R 3).toInt = sh := by rw [h3, nI_toInt (by omega)]
    have e : (nI 3 - R 3).toInt = 3 - (R 3).toInt := fb_subI (by omega) (by omega)
    have e2 := ti_mx 0 (nI 3 - R 3)
    have e0 : (0 : Int32).toInt = 0 := rfl
    have hb : 0 ≤ (mx 0 (nI 3 - R 3)).toInt ∧ (mx 0 (nI 3 - R 3)).toInt ≤ 3 := by omega
    have m3 : 0 ≤ (R 2).toInt * (mx 0 (nI 3 - R 3)).toInt := Int.mul_nonneg h2.1 hb.1
    have m4 : (R 2).toInt * (mx 0 (nI 3 - R 3)).toInt ≤ 20 * 3 := Int.mul_le_mul h2.2 hb.2 hb.1 (by decide)
    have e4 : (R 2 * mx 0 (nI 3 - R 3)).toInt = (R 2).toInt * (mx 0 (nI 3 - R 3)).toInt := fb_mulI (by omega) (by omega)
    rw [ti_divP (by decide) (by omega), e4, e3]
    omega
  simp only [comeR]
  refine it_inv (P := fun _ R => WOK R dp mn) (fun i X hi hX => wet_wok hX v2 (by omega) (by omega)) ?_
  refine it_inv (P := fun _ R => WOK R dp mn) (fun i X hi hX => wet_wok hX v1 (by omega) (by omega)) ?_
  split
  · exact it_inv (P := fun _ R => WOK R dp mn) (fun i X hi hX => wet_wok hX h1.1 (by omega) (by omega)) hO
  · exact hO
theorem flow_ti {w : Nat → Int32} {a b : Nat} {q : Int32} {R : Row} (hab : a ≠ b) (hv : -400 ≤ ((w a - w b) / q).toInt ∧ ((w a - w b) / q).toInt ≤ 400) (h1 : -1000 ≤ (R (37 + a)).toInt ∧ (R (37 + a)).toInt ≤ 1000) (h2 : -1000 ≤ (R (37 + b)).toInt ∧ (R (37 + b)).toInt ≤ 1000) :
    (flowS w a b q R (37 + a)).toInt = (R (37 + a)).toInt - ((w a - w b) / q).toInt ∧ (flowS w a b q R (37 + b)).toInt = (R (37 + b)).toInt + ((w a - w b) / q).toInt ∧ ∀ p, p ≠ a → p ≠ b → flowS w a b q R (37 + p) = R (37 + p) := by
  simp only [flowS, upd]
  refine ⟨?_, ?_, fun p h3 h4 => ?_⟩
  · rw [if_neg (by omega), if_pos trivial, fb_subI (by omega) (by omega)]
  · rw [if_pos trivial, if_neg (by omega), fb_addI (by omega) (by omega)]
  · rw [if_neg (by omega), if_neg (by omega)]
theorem part_b {x y q : Int32} (hx : 0 ≤ x.toInt ∧ x.toInt ≤ 400) (hy : 0 ≤ y.toInt ∧ y.toInt ≤ 400) (hq : q.toInt = 4 ∨ q.toInt = 8) : q.toInt * ((x - y) / q).toInt ≤ x.toInt ∧ q.toInt * ((x - y) / q).toInt ≤ 400 - y.toInt ∧ -y.toInt ≤ q.toInt * ((x - y) / q).toInt ∧ x.toInt - 400 ≤ q.toInt * ((x - y) / q).toInt ∧ -400 ≤ ((x - y) / q).toInt ∧ ((x - y) / q).toInt ≤ 400 := by
  have e : (x - y).toInt = x.toInt - y.toInt := fb_subI (by omega) (by omega)
  rcases Int.le_total 0 (x - y).toInt with h | h
  · rw [ti_divP (by omega) h, e]
    rcases hq with hq | hq <;> rw [hq] <;> omega
  · rw [ti_divN (by omega) h, e]
    rcases hq with hq | hq <;> rw [hq] <;> omega
/-- how far the water of a cell may have gone, t cells being done -/
def MV (w r : Int) (t p : Nat) : Prop := (t + 6 ≤ p → 8 * w ≤ 8 * r ∧ 8 * (400 - w) ≤ 8 * (400 - r)) ∧ (p < t + 6 → t < p → 7 * w ≤ 8 * r ∧ 7 * (400 - w) ≤ 8 * (400 - r)) ∧ (p = t → 5 * w ≤ 8 * r ∧ 5 * (400 - w) ≤ 8 * (400 - r)) ∧ (p < t → 2 * w ≤ 8 * r ∧ 2 * (400 - w) ≤ 8 * (400 - r))
def MVR (w : Nat → Int32) (dp mn t : Nat) (R : Row) : Prop := ∀ p, p / 6 < mn → p % 6 < dp → MV (w p).toInt (R (37 + p)).toInt t p
theorem MV.mono {w r : Int} {t t' p : Nat} (hw : 0 ≤ w ∧ w ≤ 400) (ht : t ≤ t') (h : MV w r t p) : MV w r t' p := by
  obtain ⟨h1, h2, h3, h4⟩ := h
  rcases Nat.lt_trichotomy p t with q | q | q
  · have := h4 q
    exact ⟨fun _ => by omega, fun _ _ => by omega, fun _ => by omega, fun _ => by omega⟩
  · have := h3 q
    exact ⟨fun _ => by omega, fun _ _ => by omega, fun _ => by omega, fun _ => by omega⟩
  · rcases Nat.lt_or_ge p (t + 6) with q2 | q2
    · have := h2 q2 q
      exact ⟨fun _ => by omega, fun _ _ => by omega, fun _ => by omega, fun _ => by omega⟩
    · have := h1 q2
      exact ⟨fun _ => by omega, fun _ _ => by omega, fun _ => by omega, fun _ => by omega⟩
theorem MV.rng {w r : Int} {t p : Nat} (hw : 0 ≤ w ∧ w ≤ 400) (h : MV w r t p) : 0 ≤ r ∧ r ≤ 400 := by
  obtain ⟨h1, h2, h3, h4⟩ := h
  rcases Nat.lt_trichotomy p t with q | q | q
  · have := h4 q; omega
  · have := h3 q; omega
  · rcases Nat.lt_or_ge p (t + 6) with q2 | q2
    · have := h2 q2 q; omega
    · have := h1 q2; omega
theorem moveS_mv {w : Nat → Int32} (hw : ∀ p, p / 6 < mn → p % 6 < dp → 0 ≤ (w p).toInt ∧ (w p).toInt ≤ 400) (hd : dp ≤ 6) {l c : Nat} (hl : l < mn) (hc : c < dp) (h : MVR w dp mn (6 * l + c) R) : MVR w dp mn (6 * l + c + 1) (moveS w dp mn l c R) := by
  have wa := hw (6 * l + c) (by omega) (by omega)
  have ra := (h (6 * l + c) (by omega) (by omega)).rng wa
  have ma := (h (6 * l + c) (by omega) (by omega)).2.2.1 rfl
  -- the first flow
  obtain ⟨R1, hR1⟩ : ∃ R1, R1 = (if c + 1 < dp then flowS w (6 * l + c) (6 * l + (c + 1)) (nI 4) R else R) := ⟨_, rfl⟩
  have s1 : (∀ p, p / 6 < mn → p % 6 < dp → p ≠ 6 * l + c → MV (w p).toInt (R1 (37 + p)).toInt (6 * l + c + 1) p ∧ (6 * l + c + 6 ≤ p → R1 (37 + p) = R (37 + p))) ∧ 3 * (w (6 * l + c)).toInt ≤ 8 * (R1 (37 + (6 * l + c))).toInt ∧ 3 * (400 - (w (6 * l + c)).toInt) ≤ 8 * (400 - (R1 (37 + (6 * l + c))).toInt) := by
    by_cases q : c + 1 < dp
    · rw [if_pos q] at hR1
      have wb := hw (6 * l + (c + 1)) (by omega) (by omega)
      have rb := (h (6 * l + (c + 1)) (by omega) (by omega)).rng wb
      have mb := (h (6 * l + (c + 1)) (by omega) (by omega)).2.1 (by omega) (by omega)
      have hv := part_b wa wb (q := nI 4) (Or.inl rfl)
      rw [show (nI 4).toInt = 4 from rfl] at hv
      obtain ⟨f1, f2, f3⟩ := flow_ti (R := R) (show 6 * l + c ≠ 6 * l + (c + 1) by omega) ⟨hv.2.2.2.2.1, hv.2.2.2.2.2⟩ ⟨by omega, by omega⟩ ⟨by omega, by omega⟩
      rw [← hR1] at f1 f2 f3
      refine ⟨fun p p1 p2 p3 => ⟨?_, fun p4 => f3 p p3 (by omega)⟩, ?_, ?_⟩
      · by_cases e : p = 6 * l + (c + 1)
        · subst e
          refine ⟨fun _ => by omega, fun _ _ => by omega, fun _ => ?_, fun _ => by omega⟩
          omega
        · rw [f3 p p3 e]
          exact (h p p1 p2).mono (hw p p1 p2) (by omega)
      · omega
      · omega
    · rw [if_neg q] at hR1
      rw [hR1]
      exact ⟨fun p p1 p2 p3 => ⟨(h p p1 p2).mono (hw p p1 p2) (by omega), fun _ => rfl⟩, by omega, by omega⟩
  obtain ⟨s1, s2, s3⟩ := s1
  intro p p1 p2
  have em : moveS w dp mn l c R = (if l + 1 < mn then flowS w (6 * l + c) (6 * (l + 1) + c) (nI 8) R1 else R1) := by rw [hR1]; rfl
  rw [em]
  by_cases q : l + 1 < mn
  · rw [if_pos q]
    have wb := hw (6 * (l + 1) + c) (by omega) (by omega)
    have mb := (h (6 * (l + 1) + c) (by omega) (by omega)).1 (by omega)
    have eb := (s1 (6 * (l + 1) + c) (by omega) (by omega) (by omega)).2 (by omega)
    have hv := part_b wa wb (q := nI 8) (Or.inr rfl)
    rw [show (nI 8).toInt = 8 from rfl] at hv
    obtain ⟨f1, f2, f3⟩ := flow_ti (R := R1) (show 6 * l + c ≠ 6 * (l + 1) + c by omega) ⟨hv.2.2.2.2.1, hv.2.2.2.2.2⟩ ⟨by omega, by omega⟩ ⟨by rw [eb]; omega, by rw [eb]; omega⟩
    by_cases e1 : p = 6 * l + c
    · subst e1
      exact ⟨fun _ => by omega, fun _ _ => by omega, fun _ => by omega, fun _ => by omega⟩
    · by_cases e2 : p = 6 * (l + 1) + c
      · subst e2
        rw [eb] at f2
        exact ⟨fun _ => by omega, fun _ _ => by omega, fun _ => by omega, fun _ => by omega⟩
      · rw [f3 p e1 e2]
        exact (s1 p p1 p2 e1).1
  · rw [if_neg q]
    by_cases e1 : p = 6 * l + c
    · subst e1
      exact ⟨fun _ => by omega, fun _ _ => by omega, fun _ => by omega, fun _ => by omega⟩
    · exact (s1 p p1 p2 e1).1
theorem move_wok {w : Nat → Int32} (hw : ∀ p, p / 6 < mn → p % 6 < dp → 0 ≤ (w p).toInt ∧ (w p).toInt ≤ 400) (he : ∀ p, p / 6 < mn → p % 6 < dp → R (37 + p) = w p) (hd : dp ≤ 6) : WOK (moveR w dp mn R) dp mn := by
  have key : MVR w dp mn (6 * mn) (moveR w dp mn R) := by
    refine it_inv (P := fun l X => MVR w dp mn (6 * l) X) (fun l X hl hX => ?_) ?_
    · have h1 : MVR w dp mn (6 * l + dp) (it (fun c => moveS w dp mn l c) dp X) := it_inv (P := fun c X => MVR w dp mn (6 * l + c) X) (fun c Y hc hY => moveS_mv hw hd hl hc hY) hX
      exact fun p p1 p2 => (h1 p p1 p2).mono (hw p p1 p2) (by omega)
    · intro p p1 p2
      rw [he p p1 p2]
      have := hw p p1 p2
      exact ⟨fun _ => by omega, fun _ _ => by omega, fun _ => by omega, fun _ => by omega⟩
  exact fun p p1 p2 => (key p p1 p2).rng (hw p p1 p2)
theorem dry_wok1 (hO : WOK R dp mn) (hd : dp ≤ 6) {air : Int32} (ha : 0 ≤ air.toInt ∧ air.toInt ≤ 99) (h5 : 0 ≤ (R 5).toInt ∧ (R 5).toInt ≤ 100) (h6 : 0 ≤ (R 6).toInt ∧ (R 6).toInt ≤ 100) {l c : Nat} (hl : l < mn) (hc : c < dp) : WOK (dryS air dp mn l c R) dp mn := by
  intro p p1 p2
  have hp := hO p p1 p2
  have hw := hO (6 * l + c) (by omega) (by omega)
  simp only [dryS, upd]
  rw [if_neg (by omega)]
  by_cases e : 37 + p = 37 + (6 * l + c)
  · rw [if_pos e]
    have en : 0 ≤ (dryN R dp mn l c).toInt ∧ (dryN R dp mn l c).toInt ≤ 200 := by
      have e2 : (R 6 / nI 2).toInt = (R 6).toInt / 2 := by rw [ti_divP (by decide) (by omega)]; rfl
      have e0 : (0 : Int32).toInt = 0 := rfl
      have e50 : (nI 50).toInt = 50 := rfl
      have x1 : 0 ≤ (if c = 0 then R 5 else 0 : Int32).toInt ∧ (if c = 0 then R 5 else 0 : Int32).toInt ≤ 100 := by split <;> omega
      have x2 : 0 ≤ (if c = dp - 1 then R 6 / nI 2 else 0 : Int32).toInt ∧ (if c = dp - 1 then R 6 / nI 2 else 0 : Int32).toInt ≤ 50 := by split <;> omega
      have x3 : 0 ≤ (if l = mn - 1 then nI 50 else 0 : Int32).toInt ∧ (if l = mn - 1 then nI 50 else 0 : Int32).toInt ≤ 50 := by split <;> omega
      have y1 := fb_addI (x := (if c = 0 then R 5 else 0 : Int32)) (y := (if c = dp - 1 then R 6 / nI 2 else 0 : Int32)) (by omega) (by omega)
      simp only [dryN]
      rw [fb_addI (by omega) (by omega), y1]
      omega
    obtain ⟨m, hm⟩ : ∃ m, m = mx 0 (R (37 + (6 * l + c)) - nI 100) := ⟨_, rfl⟩
    have hmb : 0 ≤ m.toInt ∧ m.toInt ≤ 300 := by
      have e1 : (R (37 + (6 * l + c)) - nI 100).toInt = (R (37 + (6 * l + c))).toInt - 100 := fb_subI (by show _ ≤ _ - (100 : Int); omega) (by show _ - (100 : Int) < _; omega)
      have e0 : (0 : Int32).toInt = 0 := rfl
      rw [hm, ti_mx, e1]
      omega
    have m1 : 0 ≤ m.toInt * air.toInt := Int.mul_nonneg hmb.1 ha.1
    have m2 : m.toInt * air.toInt ≤ 300 * 99 := Int.mul_le_mul hmb.2 ha.2 ha.1 (by decide)
    have m3 : (m * air).toInt = m.toInt * air.toInt := fb_mulI (by omega) (by omega)
    have m4 : 0 ≤ (m * air).toInt * (dryN R dp mn l c).toInt := Int.mul_nonneg (by omega) en.1
    have m5 : (m * air).toInt * (dryN R dp mn l c).toInt ≤ 29700 * 200 := Int.mul_le_mul (by omega) en.2 en.1 (by decide)
    have m6 : (m * air * dryN R dp mn l c).toInt = (m * air).toInt * (dryN R dp mn l c).toInt := fb_mulI (by omega) (by omega)
    have m7 : (m * air * dryN R dp mn l c / nI 20000).toInt = (m * air * dryN R dp mn l c).toInt / 20000 := by rw [ti_divP (by decide) (by omega)]; rfl
    have hv : 0 ≤ (dryV R air dp mn l c).toInt ∧ (dryV R air dp mn l c).toInt ≤ (R (37 + (6 * l + c))).toInt := by
      simp only [dryV]
      rw [← hm, ti_mi, m7]
      omega
    rw [fb_subI (by omega) (by omega)]
    omega
  · rw [if_neg e]
    exact hp
theorem dry_wok (hO : WOK R dp mn) (hd : dp ≤ 6) {air : Int32} (ha : 0 ≤ air.toInt ∧ air.toInt ≤ 99) (h5 : 0 ≤ (R 5).toInt ∧ (R 5).toInt ≤ 100) (h6 : 0 ≤ (R 6).toInt ∧ (R 6).toInt ≤ 100) : WOK (dryR air dp mn R) dp mn := by
  have key : (fun X : Row => WOK X dp mn ∧ X 5 = R 5 ∧ X 6 = R 6) (dryR air dp mn R) := by
    refine it_inv (P := fun _ X => WOK X dp mn ∧ X 5 = R 5 ∧ X 6 = R 6) (fun l X hl hX => ?_) ⟨hO, rfl, rfl⟩
    refine it_inv (P := fun _ X => WOK X dp mn ∧ X 5 = R 5 ∧ X 6 = R 6) (fun c Y hc hY => ?_) hX
    refine ⟨dry_wok1 hY.1 hd ha (by rw [hY.2.1]; exact h5) (by rw [hY.2.2]; exact h6) hl hc, ?_, ?_⟩
    · simp only [dryS, upd]
      rw [if_neg (by omega), if_neg (by omega)]
      exact hY.2.1
    · simp only [dryS, upd]
      rw [if_neg (by omega), if_neg (by omega)]
      exact hY.2.2
  exact key.1
end OKS
