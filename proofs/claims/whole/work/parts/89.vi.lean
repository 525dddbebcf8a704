section VIS
variable {b b' w : Nat} {x : ST} {R : Row} {D : DR}
theorem bf_tt {v : Bool} (h : ¬ v = false) : v = true := by cases v; exact absurd rfl h; rfl
theorem VI.more (h : VI b x) (hb : b ≤ b') : VI b' x := by
  obtain ⟨h1, h2, h3, h4, h5, h6⟩ := h
  exact ⟨h1, h2, fun i hi => (h3 i hi).more hb, h4, fun q => ⟨fun i hi => ((h5 q).1 i hi).more hb, (h5 q).2⟩, h6⟩
theorem VI.row (h : VI b x) (hb : b ≤ b') (hw : w < x.wn) (hR : OK b' R) : VI b' (x.row w R) := by
  obtain ⟨h1, h2, h3, h4, h5, h6⟩ := h.more hb
  refine ⟨h1, h2, fun i hi => ?_, fun i hi hn => ?_, h5, h6⟩
  · show OK b' (if i = w then R else x.Rw i)
    by_cases e : i = w
    · rw [if_pos e]; exact hR
    · rw [if_neg e]; exact h3 i hi
  · have hn : x.wn ≤ i := hn
    show (if i = w then R else x.Rw i) 11 = 0 ∧ (if i = w then R else x.Rw i) 12 = 0
    rw [if_neg (by omega)]
    exact h4 i hi hn
theorem vi_lift (h : VI b x) (p q : Int32) : VI (b + 520) (liftA x p q).2.2 := by
  unfold liftA
  by_cases h1 : isW p x.wn = false
  · rw [if_pos h1]; exact h.more (by omega)
  have hw4 := h.1
  rw [if_neg h1]
  obtain ⟨w, hw, rfl⟩ := (isW_iff (by omega)).mp (bf_tt h1)
  rw [nI_clamp (by omega)]
  by_cases h2 : inI q (nI 1) (nI 9) = false ∨ 24 < mno (x.Rw w) + q.toNatClampNeg
  · rw [if_pos h2]; exact h.more (by omega)
  rw [if_neg h2]
  exact h.row (by omega) hw ((ok_rs (h.ow hw) (by omega)).more (by omega))
theorem vi_down (h : VI b x) (p : Int32) : VI (b + 520) (downA x p).2.2 := by
  unfold downA
  by_cases h1 : isW p x.wn = false
  · rw [if_pos h1]; exact h.more (by omega)
  have hw4 := h.1
  rw [if_neg h1]
  obtain ⟨w, hw, rfl⟩ := (isW_iff (by omega)).mp (bf_tt h1)
  rw [nI_clamp (by omega)]
  by_cases h2 : mno (x.Rw w) = 0
  · rw [if_pos h2]; exact h.more (by omega)
  rw [if_neg h2]
  exact h.row (by omega) hw ((ok_cut (h.ow hw) (by omega)).1.more (by omega))
theorem ok_upm (h : OK b R) {p : Nat} (v : Int32) : OK b (upd R (181 + p) v) := by
  have n : ∀ j, j < 181 → upd R (181 + p) v j = R j := fun j hj => upd_other _ _ (by omega)
  have e0 : dpo (upd R (181 + p) v) = dpo R := by simp only [dpo]; rw [n 0 (by decide)]
  have e1 : mno (upd R (181 + p) v) = mno R := by simp only [mno]; rw [n 1 (by decide)]
  have e8 : pso (upd R (181 + p) v) = pso R := by simp only [pso]; rw [n 8 (by decide)]
  have e9 : feo (upd R (181 + p) v) = feo R := by simp only [feo]; rw [n 9 (by decide)]
  have hm := h.mn
  refine ⟨?_, ?_, ?_, by rw [n 4 (by decide)]; exact h.hat, by rw [n 7 (by decide)]; exact h.prp, by rw [n 3 (by decide)]; exact h.sho, by rw [n 2 (by decide)]; exact h.grd, by rw [n 5 (by decide)]; exact h.out, by rw [n 6 (by decide)]; exact h.inn, by rw [e8, n 8 (by decide)]; exact h.pas, by rw [e9, n 9 (by decide)]; exact h.fel⟩
  · rw [e0, e1]
    obtain ⟨h1, h2, h3, h4, h5⟩ := h.wf
    exact ⟨by rw [n 0 (by decide)]; exact h1, h2, h3, by rw [n 1 (by decide)]; exact h4, h5⟩
  · rw [e0, e1]
    intro q p1 p2
    rw [n _ (by omega)]
    exact h.wok q p1 p2
  · rw [e1]
    intro l hl
    rw [n _ (by omega)]
    exact h.bul l hl
theorem vi_hollow (h : VI b x) (p q z : Int32) : VI (b + 520) (hollowA x p q z).2 := by
  unfold hollowA
  by_cases h1 : isC x p q z = false
  · rw [if_pos h1]; exact h.more (by omega)
  have hw4 := h.1
  rw [if_neg h1]
  obtain ⟨w, l, c, hw, hl, hc, rfl, rfl, rfl⟩ := (isC_iff h).mp (bf_tt h1)
  rw [nI_clamp (n := w) (by omega)]
  exact h.row (by omega) hw ((ok_upm (h.ow hw) _).more (by omega))
theorem vi_weeks (h : VI b x) (hb : b < 2 ^ 28) (p q : Int32) : VI (b + 520) (weeksA x p q).2.2 := by
  unfold weeksA
  by_cases h1 : isW p x.wn = false
  · rw [if_pos h1]; exact h.more (by omega)
  have hw4 := h.1
  rw [if_neg h1]
  obtain ⟨w, hw, rfl⟩ := (isW_iff (by omega)).mp (bf_tt h1)
  rw [nI_clamp (n := w) (by omega)]
  by_cases h2 : inI q 0 (nI 520) = false
  · rw [if_pos h2]; exact h.more (by omega)
  rw [if_neg h2]
  obtain ⟨m, -, hm, rfl⟩ := (inI_iff (a := 0) (by decide) (by decide)).mp (bf_tt h2)
  rw [nI_clamp (n := m) (by omega)]
  exact h.row (by omega) hw ((ok_wkN h.2.1 (h.ow hw) (by omega)).more (by omega))
theorem vi_work (h : VI b x) (p q : Int32) : VI (b + 520) (workA x p q).2 := by
  unfold workA
  by_cases h1 : isW p x.wn = false ∨ inI q 0 (nI 5) = false
  · rw [if_pos h1]; exact h.more (by omega)
  have hw4 := h.1
  rw [if_neg h1]
  obtain ⟨w, hw, rfl⟩ := (isW_iff (by omega)).mp (bf_tt (fun z => h1 (Or.inl z)))
  rw [nI_clamp (n := w) (by omega)]
  exact h.row (by omega) hw ((ok_work (h.ow hw) _).more (by omega))
theorem vi_brick (h : VI b x) (s : Int32) (c : Bool) : VI (b + 520) (x.brick s c) := by
  unfold ST.brick
  have h' := h.more (b' := b + 520) (by omega)
  by_cases h1 : brNo x.br s c = true
  · rw [if_pos h1]; exact h'
  rw [if_neg h1]
  obtain ⟨h1, h2, h3, h4, h5, h6, h7⟩ := h'
  exact ⟨h1, h2, h3, h4, h5, br_ok h6 s c, h7⟩
theorem vi_house (h : VI b x) (p q z : Int32) : VI (b + 520) (x.house p q z) := by
  unfold ST.house
  have h' := h.more (b' := b + 520) (by omega)
  by_cases h1 : hoNo x.hn p q z = true
  · rw [if_pos h1]; exact h'
  rw [if_neg h1]
  obtain ⟨g1, g2, g3, g4, g5, g6, g7, g8⟩ := h'
  refine ⟨g1, g2, g3, g4, g5, g6, ?_, g8⟩
  show x.hn + 1 ≤ 12
  have : x.hn ≠ 12 := fun e => h1 (by unfold hoNo; rw [decide_eq_true e]; rfl)
  omega
theorem vi_guess (h : VI b x) (p q : Int32) : VI (b + 520) (guessA x p q).2 := by
  unfold guessA
  by_cases h1 : inI p 0 (nI 3) = false ∨ isW q x.wn = false
  · rw [if_pos h1]; exact h.more (by omega)
  rw [if_neg h1]
  have hw4 := h.1
  obtain ⟨w, hw, rfl⟩ := (isW_iff (by omega)).mp (bf_tt (fun z => h1 (Or.inr z)))
  rw [nI_clamp (n := w) (by omega)]
  have ow := h.ow hw
  obtain ⟨g1, g2, g3, g4, g5, g6, g7, g8, g9⟩ := h.more (b' := b + 520) (by omega)
  refine ⟨g1, g2, g3, g4, g5, g6, g7, fun g hg R hR => ?_, g9⟩
  have hR : (if g = p.toNatClampNeg then some (x.Rw w) else x.Gs g) = some R := hR
  by_cases e : g = p.toNatClampNeg
  · rw [if_pos e] at hR
    cases hR
    exact ⟨b, ow⟩
  · rw [if_neg e] at hR
    exact g8 g hg R hR
theorem vi_stick (h : VI b x) (p q z y : Int32) : VI (b + 520) (stickA x p q z y).2.2 := by
  unfold stickA
  by_cases h1 : stickBad p q z y = true
  · rw [if_pos h1]; exact h.more (by omega)
  rw [if_neg h1]
  exact h.more (b' := b + 520) (by omega)
theorem vi_image (h : VI b x) : VI (b + 520) (x.setIm true x.Rw x.st) := by
  obtain ⟨g1, g2, g3, g4, g5, g6⟩ := h.more (b' := b + 520) (by omega)
  exact ⟨g1, g2, g3, g4, fun _ => ⟨g3, g4⟩, g6⟩
theorem vi_back (h : VI b x) : VI (b + 520) x.back := by
  obtain ⟨g1, g2, g3, g4, g5, g6⟩ := id (h.more (b' := b + 520) (by omega))
  unfold ST.back
  by_cases h1 : x.im = true
  · rw [if_pos h1]
    exact ⟨g1, g2, (g5 h1).1, (g5 h1).2, g5, g6⟩
  · rw [if_neg h1]
    exact ⟨g1, g2, g3, g4, g5, g6⟩
theorem vi_feed (h : VI b x) (p q z y w : Int32) : VI (b + 520) (feedA x p q z y w).2 := by
  unfold feedA
  have h' := h.more (b' := b + 520) (by omega)
  by_cases h1 : 680 < x.tl
  · rw [if_pos h1]; exact h'
  rw [if_neg h1]
  obtain ⟨g1, g2, g3, g4, g5, g6, g7, g8, g9⟩ := h'
  refine ⟨g1, g2, g3, g4, g5, g6, g7, g8, ?_⟩
  show x.tl + 20 ≤ 700
  omega
theorem vi_pl (h : VI b x) (l : Option (List Nat)) : VI (b + 520) (x.setPl l) := h.more (b' := b + 520) (by omega)
theorem vi_od (h : VI b x) (l : Option (List Nat)) : VI (b + 520) (x.setOd l) := h.more (b' := b + 520) (by omega)
theorem yd_fine (hv : DV D) : (ydOf D).Fine := by
  obtain ⟨⟨a1, a2, a3⟩, h4, h5, h6, h7⟩ := hv
  have eg : (ydOf D).g = nI (10 + 2 * D.2.1.2.2) := by
    show nI 10 + nI 2 * nI D.2.1.2.2 = _
    rw [pk_mul, nI_add]
  have ef : (ydOf D).f = nI (40 + 4 * D.2.1.1 + 6 * D.2.1.2.2) := by
    show nI 40 + nI 4 * nI D.2.1.1 + nI 6 * nI D.2.1.2.2 = _
    rw [pk_mul, pk_mul, nI_add, nI_add]
  refine ⟨?_, h5, fun k hk => ?_⟩
  · unfold GF
    rw [eg, ef, nI_toInt (by omega), nI_toInt (by omega)]
    omega
  · have hk : k < D.2.2.2.1 := hk
    obtain ⟨q1, q2⟩ := h7 k hk
    show (0 ≤ (nI (D.2.2.2.2 (3 * k))).toInt ∧ (nI (D.2.2.2.2 (3 * k))).toInt ≤ 99) ∧ (0 ≤ (nI (D.2.2.2.2 (3 * k + 1))).toInt ∧ (nI (D.2.2.2.2 (3 * k + 1))).toInt ≤ 99)
    rw [nI_toInt (by omega), nI_toInt (by omega)]
    omega
theorem ok_brow {tr : Nat → Nat} {i : Nat} (h0 : tr (6 * i) ≤ 6) (h1 : tr (6 * i + 1) ≤ 20) (h2 : tr (6 * i + 2) ≤ 9) (h4 : tr (6 * i + 4) ≤ 100) (h5 : tr (6 * i + 5) ≤ 100) : OK 0 (brow tr i) := by
  have e0 : dpo (brow tr i) = max 1 (tr (6 * i)) := nI_clamp (by omega)
  have e1 : mno (brow tr i) = 0 := rfl
  refine ⟨?_, ?_, ?_, ?_, Or.inl rfl, ⟨tr (6 * i + 2), h2, rfl⟩, ?_, ?_, ?_, ⟨Nat.le_refl 0, rfl⟩, ⟨Nat.le_refl 0, rfl⟩⟩
  · rw [e0, e1]
    exact ⟨rfl, by omega, by omega, rfl, by omega⟩
  · rw [e1]
    intro p hp
    omega
  · rw [e1]
    intro l hl
    omega
  · show bI (decide (nI (tr (6 * i + 3)) = nI 1)) = 0 ∨ bI (decide (nI (tr (6 * i + 3)) = nI 1)) = 1
    cases decide (nI (tr (6 * i + 3)) = nI 1)
    · exact Or.inl rfl
    · exact Or.inr rfl
  · show 0 ≤ (nI (tr (6 * i + 1))).toInt ∧ (nI (tr (6 * i + 1))).toInt ≤ 20
    rw [nI_toInt (by omega)]
    omega
  · show 0 ≤ (nI (tr (6 * i + 4))).toInt ∧ (nI (tr (6 * i + 4))).toInt ≤ 100
    rw [nI_toInt (by omega)]
    omega
  · show 0 ≤ (nI (tr (6 * i + 5))).toInt ∧ (nI (tr (6 * i + 5))).toInt ≤ 100
    rw [nI_toInt (by omega)]
    omega
theorem vi_yard (h : VI b x) (p : Int32) {tr wk : Nat → Nat} (hDV : DV (false, (30, 50, 5), (0, tr), (0, wk))) : VI (b + 520) (yardA x p tr wk).2.2 := by
  unfold yardA
  have h' := h.more (b' := b + 520) (by omega)
  by_cases h1 : inI p 0 (nI x.tl) = false
  · rw [if_pos h1]; exact h'
  rw [if_neg h1]
  obtain ⟨y, hy⟩ : ∃ y, y = readF (bet x) p.toNatClampNeg tr wk := ⟨_, rfl⟩
  rw [← hy]
  show VI (b + 520) (if y.1.1 = 0 then yNew x y.2 else yBad x y.1)
  by_cases h2 : y.1.1 = 0
  · rw [if_pos h2]
    have hv : DV y.2 := by rw [hy]; exact linesF_d _ _ hDV
    have ok : ∀ i, i < 4 → OK (b + 520) (rw0 y.2 i) := fun i hi => by
      obtain ⟨q0, q1, q2, q3, q4, q5, q6⟩ := hv.2.2.2.1 i hi
      have e : rw0 y.2 i = brow y.2.2.2.1.2 i := by
        unfold rw0
        by_cases q : i < y.2.2.2.1.1
        · rw [if_pos q]
          exact funext (fun j => (b_f (q0 q) q4).symm)
        · rw [if_neg q]
      rw [e]
      exact (ok_brow q1 q2 q3 q5 q6).more (by omega)
    refine ⟨hv.2.1, yd_fine hv, ok, fun i hi hn => ?_, (fun q => by cases q), ⟨by show 0 ≤ 40; omega, Or.inl rfl, Or.inl rfl⟩, Nat.zero_le _, (fun g hg R hR => by cases hR), Nat.zero_le _⟩
    have hn : y.2.2.2.1.1 ≤ i := hn
    show rw0 y.2 i 11 = 0 ∧ rw0 y.2 i 12 = 0
    unfold rw0
    rw [if_neg (by omega)]
    exact ⟨rfl, rfl⟩
  · rw [if_neg h2]
    obtain ⟨g1, g2, g3, g4, g5, g6, g7, g8, g9⟩ := h'
    exact ⟨g1, g2, g3, g4, g5, g6, g7, g8, Nat.zero_le _⟩
end VIS
