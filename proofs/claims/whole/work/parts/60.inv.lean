section INV
variable {E : VE} {Sh : Nat → SE} {N : Nat} {G : Bool} {M M' M'' : MM} {o r w v yd b : Nat} {R : Row} {Y : YD}
/-- what the two have in common: walls, image, counts, plan, order, bricks, houses, guesses, tape -/
def ST : Type := (Nat × YD × (Nat → Row)) × (Bool × (Nat → Row) × (Nat → Int32)) × (Nat → Int32) × (Option (List Nat) × Option (List Nat)) × (BR × Nat × (Nat → Int32) × (Nat → Int32)) × ((Nat → Option Row) × (Nat → Int32)) × (Nat × (Nat → Int32) × Int32)
def ST.wn (x : ST) : Nat := x.1.1
def ST.ye (x : ST) : YD := x.1.2.1
def ST.Rw (x : ST) : Nat → Row := x.1.2.2
def ST.im (x : ST) : Bool := x.2.1.1
def ST.Ri (x : ST) : Nat → Row := x.2.1.2.1
def ST.si (x : ST) : Nat → Int32 := x.2.1.2.2
def ST.st (x : ST) : Nat → Int32 := x.2.2.1
def ST.pl (x : ST) : Option (List Nat) := x.2.2.2.1.1
def ST.od (x : ST) : Option (List Nat) := x.2.2.2.1.2
def ST.br (x : ST) : BR := x.2.2.2.2.1.1
def ST.hn (x : ST) : Nat := x.2.2.2.2.1.2.1
def ST.hw (x : ST) : Nat → Int32 := x.2.2.2.2.1.2.2.1
def ST.hc (x : ST) : Nat → Int32 := x.2.2.2.2.1.2.2.2
def ST.Gs (x : ST) : Nat → Option Row := x.2.2.2.2.2.1.1
def ST.Cr (x : ST) : Nat → Int32 := x.2.2.2.2.2.1.2
def ST.tl (x : ST) : Nat := x.2.2.2.2.2.2.1
def ST.tp (x : ST) : Nat → Int32 := x.2.2.2.2.2.2.2.1
def ST.fp (x : ST) : Int32 := x.2.2.2.2.2.2.2.2
def ST.setRw (x : ST) (Rw : Nat → Row) : ST := ((x.1.1, x.1.2.1, Rw), x.2)
def ST.setIm (x : ST) (im : Bool) (Ri : Nat → Row) (si : Nat → Int32) : ST := (x.1, (im, Ri, si), x.2.2)
def ST.setSt (x : ST) (st : Nat → Int32) : ST := (x.1, x.2.1, st, x.2.2.2)
def ST.setPl (x : ST) (pl : Option (List Nat)) : ST := (x.1, x.2.1, x.2.2.1, (pl, x.2.2.2.1.2), x.2.2.2.2)
def ST.setOd (x : ST) (od : Option (List Nat)) : ST := (x.1, x.2.1, x.2.2.1, (x.2.2.2.1.1, od), x.2.2.2.2)
def ST.setBr (x : ST) (br : BR) : ST := (x.1, x.2.1, x.2.2.1, x.2.2.2.1, (br, x.2.2.2.2.1.2), x.2.2.2.2.2)
def ST.setHo (x : ST) (n : Nat) (hw hc : Nat → Int32) : ST := (x.1, x.2.1, x.2.2.1, x.2.2.2.1, (x.2.2.2.2.1.1, n, hw, hc), x.2.2.2.2.2)
def ST.setG (x : ST) (Gs : Nat → Option Row) (Cr : Nat → Int32) : ST := (x.1, x.2.1, x.2.2.1, x.2.2.2.1, x.2.2.2.2.1, (Gs, Cr), x.2.2.2.2.2.2)
def ST.setT (x : ST) (tl : Nat) (tp : Nat → Int32) (fp : Int32) : ST := (x.1, x.2.1, x.2.2.1, x.2.2.2.1, x.2.2.2.2.1, x.2.2.2.2.2.1, (tl, tp, fp))
/-- what holds of it: b weeks at most have gone -/
def VI (b : Nat) (x : ST) : Prop := x.wn ≤ 4 ∧ x.ye.Fine ∧ (∀ i, i < 4 → OK b (x.Rw i)) ∧ (∀ i, i < 4 → x.wn ≤ i → x.Rw i 11 = 0 ∧ x.Rw i 12 = 0) ∧ (x.im = true → (∀ i, i < 4 → OK b (x.Ri i)) ∧ ∀ i, i < 4 → x.wn ≤ i → x.Ri i 11 = 0 ∧ x.Ri i 12 = 0) ∧ BrOk x.br ∧ x.hn ≤ 12 ∧ GOk x.Gs ∧ x.tl ≤ 700
/-! the reference's side -/
def RA (M : MM) (o wn : Nat) (Y : YD) (Rw : Nat → Row) : Prop := M o 4 = nI wn ∧ YR M o Y ∧ ∀ i, i < wn → Ag (mrow M o i) (Rw i)
def RIm (M : MM) (o wn : Nat) (im : Bool) (Ri : Nat → Row) (si : Nat → Int32) : Prop := M o 40 = bI im ∧ (im = true → (∀ i, i < wn → Ag (mrow M o (8 + i)) (Ri i)) ∧ ∀ i, i < 4 → M (o + 21) i = si i)
def RSt (M : MM) (o : Nat) (st : Nat → Int32) : Prop := ∀ i, i < 4 → M (o + 9) i = st i
def BRR (M : MM) (o : Nat) (st : BR) : Prop := M o 31 = nI st.1 ∧ M o 32 = st.2.1 ∧ M o 33 = st.2.2
def HOR (M : MM) (o n : Nat) (wv cv : Nat → Int32) : Prop := M o 34 = nI n ∧ ∀ i, i < n → M (o + 16) i * M (o + 17) i = wv i ∧ M (o + 18) i = cv i
def GRo (M : MM) (o g : Nat) (x : Option Row) (c : Int32) : Prop := match x with
  | none => M (o + 19) g = 0
  | some R => M (o + 19) g = 1 ∧ M (o + 20) g = c ∧ Ag (mrow M o (32 + g)) R
def GR (M : MM) (o : Nat) (Gs : Nat → Option Row) (Cr : Nat → Int32) : Prop := ∀ g, g < 4 → GRo M o g (Gs g) (Cr g)
def RT (M : MM) (o tl : Nat) (tp : Nat → Int32) (fp : Int32) : Prop := M o 13 = nI tl ∧ (∀ i, i < tl → M (o + 10) i = tp i &&& nI 255) ∧ M o 22 = fp
def RI (M : MM) (o : Nat) (x : ST) : Prop := RA M o x.wn x.ye x.Rw ∧ RIm M o x.wn x.im x.Ri x.si ∧ RSt M o x.st ∧ PKR M o x.pl ∧ OKR M o x.od ∧ BRR M o x.br ∧ HOR M o x.hn x.hw x.hc ∧ GR M o x.Gs x.Cr ∧ RT M o x.tl x.tp x.fp
/-- of the reference's cells only these have changed, of its rows these, of its fields these -/
def FRM (o : Nat) (S T J : Nat → Prop) (M M' : MM) : Prop := (∀ c, c ≠ o → c ≠ o + 1 → ¬ S c → M' c = M c) ∧ (∀ r, r < 36 → ¬ T r → ∀ j, j < 325 → mrow M' o r j = mrow M o r j) ∧ ∀ j, ¬ J j → M' o j = M o j
theorem FRM.rfl {S T J : Nat → Prop} : FRM o S T J M M := ⟨fun _ _ _ _ => Eq.refl _, fun _ _ _ _ _ => Eq.refl _, fun _ _ => Eq.refl _⟩
theorem FRM.mono {S T J S' T' J' : Nat → Prop} (h : FRM o S T J M M') (hs : ∀ c, S c → S' c) (ht : ∀ r, T r → T' r) (hj : ∀ j, J j → J' j) : FRM o S' T' J' M M' := ⟨fun c h1 h2 h3 => h.1 c h1 h2 (fun q => h3 (hs c q)), fun r h1 h2 => h.2.1 r h1 (fun q => h2 (ht r q)), fun j h1 => h.2.2 j (fun q => h1 (hj j q))⟩
theorem FRM.trans {S T J : Nat → Prop} (h : FRM o S T J M M') (h' : FRM o S T J M' M'') : FRM o S T J M M'' := ⟨fun c h1 h2 h3 => (h'.1 c h1 h2 h3).trans (h.1 c h1 h2 h3), fun r h1 h2 j hj => (h'.2.1 r h1 h2 j hj).trans (h.2.1 r h1 h2 j hj), fun j h1 => (h'.2.2 j h1).trans (h.2.2 j h1)⟩
theorem FRM.of {S T : Nat → Prop} (h : FrR o S T M M') (ho : ¬ S o) : FRM o S T (fun _ => False) M M' := ⟨fun c _ h2 h3 => h.1 c h2 h3, h.2, fun j _ => by rw [h.1 o (by omega) ho]⟩
theorem FRM.fld (M : MM) (o j : Nat) (v : Int32) : FRM o (fun _ => False) (fun _ => False) (fun x => x = j) M (up M o j v) := ⟨fun c h1 _ _ => up_row M v h1, fun r _ _ i _ => by rw [up_ne_row], fun i h => up_ne M v (fun q => h q.2)⟩
theorem FRM.cel (M : MM) (o c j : Nat) (v : Int32) (h0 : c ≠ o) (h1 : c ≠ o + 1) : FRM o (fun x => x = c) (fun _ => False) (fun _ => False) M (up M c j v) := ⟨fun x _ _ h3 => up_row M v h3, fun r _ _ i _ => by simp only [mrow]; rw [up_row M v (Ne.symm h1)], fun i _ => by rw [up_row M v (Ne.symm h0)]⟩
theorem FRM.code {S T : Nat → Prop} {x : Int32} (h : FrR o S T (up M o 0 x) M') (ho : ¬ S o) : FRM o S T (fun j => j = 0) M M' ∧ M' o 0 = x := by
  have h2 := FRM.of h ho
  refine ⟨((FRM.fld M o 0 x).mono (fun _ q => q.elim) (fun _ q => q.elim) (fun _ q => q)).trans (h2.mono (fun _ q => q) (fun _ q => q) (fun _ q => q.elim)), ?_⟩
  rw [h2.2.2 0 (fun q => q), up_same]
theorem FRM.low {S T J : Nat → Prop} (h : FRM o S T J M M') (hS : ∀ c, S c → o ≤ c ∧ c < o + 22) : ∀ c, (c < o ∨ o + 22 ≤ c) → M' c = M c := fun c hc => h.1 c (by omega) (by omega) (fun q => by have := hS c q; omega)
theorem RA.keep {S T J : Nat → Prop} {wn : Nat} {Rw : Nat → Row} (h : RA M o wn Y Rw) (hF : FRM o S T J M M') (hw : wn ≤ 4) (hm : ∀ i, i < wn → mno (Rw i) ≤ 24) (hj : ¬ J 4) (hs : ∀ c, o + 4 ≤ c → c ≤ o + 8 → ¬ S c) (ht : ∀ r, r < 4 → ¬ T r) : RA M' o wn Y Rw :=
  ⟨(hF.2.2 4 hj).trans h.1, h.2.1.cong (hF.1 _ (by omega) (by omega) (hs _ (by omega) (by omega))) (hF.1 _ (by omega) (by omega) (hs _ (by omega) (by omega))) (hF.1 _ (by omega) (by omega) (hs _ (by omega) (by omega))) (hF.1 _ (by omega) (by omega) (hs _ (by omega) (by omega))) (hF.1 _ (by omega) (by omega) (hs _ (by omega) (by omega))),
    fun i hi => (row_ag (hF.2.1 i (by omega) (ht i (by omega))) (by rw [← (h.2.2 i hi).mn]; exact hm i hi)).trans (h.2.2 i hi)⟩
theorem RIm.keep {S T J : Nat → Prop} {wn : Nat} {im : Bool} {Ri : Nat → Row} {si : Nat → Int32} (h : RIm M o wn im Ri si) (hF : FRM o S T J M M') (hw : wn ≤ 4) (hm : im = true → ∀ i, i < wn → mno (Ri i) ≤ 24) (hj : ¬ J 40) (hs : ¬ S (o + 21)) (ht : ∀ r, 8 ≤ r → r < 12 → ¬ T r) : RIm M' o wn im Ri si :=
  ⟨(hF.2.2 40 hj).trans h.1, fun q => ⟨fun i hi => (row_ag (hF.2.1 (8 + i) (by omega) (ht _ (by omega) (by omega))) (by rw [← ((h.2 q).1 i hi).mn]; exact hm q i hi)).trans ((h.2 q).1 i hi), fun i hi => by rw [hF.1 _ (by omega) (by omega) hs]; exact (h.2 q).2 i hi⟩⟩
theorem RSt.keep {S T J : Nat → Prop} {st : Nat → Int32} (h : RSt M o st) (hF : FRM o S T J M M') (hs : ¬ S (o + 9)) : RSt M' o st := fun i hi => by rw [hF.1 _ (by omega) (by omega) hs]; exact h i hi
theorem PKR.keep {S T J : Nat → Prop} {x : Option (List Nat)} (h : PKR M o x) (hF : FRM o S T J M M') (hj : ¬ J 25) (hs : ¬ S (o + 11)) : PKR M' o x := h.cong (hF.2.2 25 hj) (hF.1 _ (by omega) (by omega) hs)
theorem OKR.keep {S T J : Nat → Prop} {x : Option (List Nat)} (h : OKR M o x) (hF : FRM o S T J M M') (hj : ¬ J 29) (hs : ¬ S (o + 13)) : OKR M' o x := h.cong (hF.2.2 29 hj) (hF.1 _ (by omega) (by omega) hs)
theorem BRR.keep {S T J : Nat → Prop} {st : BR} (h : BRR M o st) (hF : FRM o S T J M M') (h1 : ¬ J 31) (h2 : ¬ J 32) (h3 : ¬ J 33) : BRR M' o st := ⟨(hF.2.2 _ h1).trans h.1, (hF.2.2 _ h2).trans h.2.1, (hF.2.2 _ h3).trans h.2.2⟩
theorem HOR.keep {S T J : Nat → Prop} {n : Nat} {wv cv : Nat → Int32} (h : HOR M o n wv cv) (hF : FRM o S T J M M') (hj : ¬ J 34) (hs : ∀ c, o + 16 ≤ c → c ≤ o + 18 → ¬ S c) : HOR M' o n wv cv :=
  ⟨(hF.2.2 _ hj).trans h.1, fun i hi => by rw [hF.1 (o + 16) (by omega) (by omega) (hs _ (by omega) (by omega)), hF.1 (o + 17) (by omega) (by omega) (hs _ (by omega) (by omega)), hF.1 (o + 18) (by omega) (by omega) (hs _ (by omega) (by omega))]; exact h.2 i hi⟩
theorem GRo.keep {S T J : Nat → Prop} {g : Nat} {x : Option Row} {c : Int32} (h : GRo M o g x c) (hF : FRM o S T J M M') (hg : g < 4) (hm : ∀ R, x = some R → ∃ b, OK b R) (h1 : ¬ S (o + 19)) (h2 : ¬ S (o + 20)) (ht : ¬ T (32 + g)) : GRo M' o g x c := by
  cases x with
  | none =>
    show M' (o + 19) g = 0
    rw [hF.1 _ (by omega) (by omega) h1]
    exact h
  | some R =>
    obtain ⟨q1, q2, q3⟩ := h
    obtain ⟨b, hO⟩ := hm R rfl
    refine ⟨by rw [hF.1 _ (by omega) (by omega) h1]; exact q1, by rw [hF.1 _ (by omega) (by omega) h2]; exact q2, ?_⟩
    exact (row_ag (hF.2.1 (32 + g) (by omega) ht) (by rw [← q3.mn]; exact hO.mn)).trans q3
theorem GR.keep {S T J : Nat → Prop} {Gs : Nat → Option Row} {Cr : Nat → Int32} (h : GR M o Gs Cr) (hF : FRM o S T J M M') (hG : GOk Gs) (h1 : ¬ S (o + 19)) (h2 : ¬ S (o + 20)) (ht : ∀ r, 32 ≤ r → ¬ T r) : GR M' o Gs Cr := fun g hg => (h g hg).keep hF hg (hG g hg) h1 h2 (ht _ (by omega))
theorem RT.keep {S T J : Nat → Prop} {tl : Nat} {tp : Nat → Int32} {fp : Int32} (h : RT M o tl tp fp) (hF : FRM o S T J M M') (h1 : ¬ J 13) (h2 : ¬ J 22) (hs : ¬ S (o + 10)) : RT M' o tl tp fp :=
  ⟨(hF.2.2 _ h1).trans h.1, fun i hi => by rw [hF.1 _ (by omega) (by omega) hs]; exact h.2.1 i hi, (hF.2.2 _ h2).trans h.2.2⟩
/-- cells, rows and fields that nobody asks for -/
abbrev SX (o c : Nat) : Prop := c = o + 2 ∨ c = o + 3 ∨ c = o + 12 ∨ c = o + 14 ∨ c = o + 15
abbrev TX (r : Nat) : Prop := (4 ≤ r ∧ r < 8) ∨ (12 ≤ r ∧ r < 32)
abbrev JX (j : Nat) : Prop := j = 0 ∨ j = 5 ∨ j = 30 ∨ (14 ≤ j ∧ j ≤ 21)
theorem VI.mw {x : ST} (h : VI b x) : ∀ i, i < x.wn → mno (x.Rw i) ≤ 24 := fun i hi => (h.2.2.1 i (by have := h.1; omega)).mn
theorem VI.mi {x : ST} (h : VI b x) : x.im = true → ∀ i, i < x.wn → mno (x.Ri i) ≤ 24 := fun q i hi => ((h.2.2.2.2.1 q).1 i (by have := h.1; omega)).mn
theorem VI.ow {x : ST} (h : VI b x) {i : Nat} (hi : i < x.wn) : OK b (x.Rw i) := h.2.2.1 i (by have := h.1; omega)
theorem RI.keep {x : ST} (h : RI M o x) (hV : VI b x) (hF : FRM o (SX o) TX JX M M') : RI M' o x := by
  obtain ⟨h1, h2, h3, h4, h5, h6, h7, h8, h9⟩ := h
  exact ⟨h1.keep hF hV.1 hV.mw (by simp [JX]) (fun c _ _ => by simp only [SX]; omega) (fun r _ => by simp only [TX]; omega),
    h2.keep hF hV.1 hV.mi (by simp [JX]) (by simp only [SX]; omega) (fun r _ _ => by simp only [TX]; omega),
    h3.keep hF (by simp only [SX]; omega), h4.keep hF (by simp [JX]) (by simp only [SX]; omega), h5.keep hF (by simp [JX]) (by simp only [SX]; omega),
    h6.keep hF (by simp [JX]) (by simp [JX]) (by simp [JX]), h7.keep hF (by simp [JX]) (fun c _ _ => by simp only [SX]; omega),
    h8.keep hF hV.2.2.2.2.2.2.2.1 (by simp only [SX]; omega) (by simp only [SX]; omega) (fun r _ => by simp only [TX]; omega), h9.keep hF (by simp [JX]) (by simp [JX]) (by simp only [SX]; omega)⟩
/-- what the reference owes: an answer, which is thrown, the state behind it -/
abbrev RQ (M : MM) (o : Nat) (ans : Int32) (cd : Nat) (x : ST) : Option Value → MM → Prop := fun v M' => v = some (.int ans) ∧ M' o 0 = nI cd ∧ RI M' o x ∧ ∀ c, (c < o ∨ o + 22 ≤ c) → M' c = M c
end INV
