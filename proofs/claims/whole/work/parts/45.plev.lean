section PLEV
variable {E : VE} {Sh : Nat → SE} {N : Nat} {G : Bool} {M M' M'' : MM} {o r w yd t b : Nat} {R : Row} {Y : YD}
theorem Con.post {md : MD} {d mc ms : Nat} {av : List Value} {Post Post' : Option Value → (Nat → SE) → Nat → MM → Prop} {PX : String → Prop} (h : Con E md d mc ms av Sh N G M Post PX) (hp : ∀ v Sh' N' M', Post v Sh' N' M' → Post' v Sh' N' M') : Con E md d mc ms av Sh N G M Post' PX := by
  intro l hl p e ha hc hk s m args below hf happ hP hK
  obtain ⟨n, o, g1, g2, g3, g4⟩ := h l hl p e ha hc hk s m args below hf happ hP hK
  refine ⟨n, o, g1, g2, g3, ?_⟩
  rcases g4 with ⟨⟨⟨r, Sh1, N1, M1, q1, q2, q3⟩, q4⟩, q5⟩ | g4
  · exact Or.inl ⟨⟨⟨r, Sh1, N1, M1, q1, hp _ _ _ _ q2, q3⟩, q4⟩, q5⟩
  · exact Or.inr g4
/-- the class's yard is this one -/
def YC (M : MM) (yd : Nat) (Y : YD) : Prop := M yd 8 = Y.g ∧ M yd 6 = Y.f ∧ M yd 7 = Y.sk ∧ M yd 5 = nI Y.wk ∧ ∀ k, k < Y.wk → M (yd + 3) (3 * k) = Y.ra k ∧ M (yd + 3) (3 * k + 1) = Y.ai k ∧ decide (M (yd + 3) (3 * k + 2) = nI 1) = Y.fr k
/-- the reference's yard is this one -/
def YR (M : MM) (o : Nat) (Y : YD) : Prop := grn M o = Y.g ∧ ful M o = Y.f ∧ shr M o = Y.sk ∧ M (o + 8) 0 = nI Y.wk ∧ ∀ k, k < Y.wk → M (o + 5) k = Y.ra k ∧ M (o + 6) k = Y.ai k ∧ decide (M (o + 7) k = nI 1) = Y.fr k
theorem YC.cong (h : YC M yd Y) (h1 : M' yd = M yd) (h2 : M' (yd + 3) = M (yd + 3)) : YC M' yd Y := by
  unfold YC
  rw [h1, h2]
  exact h
theorem YR.cong (h : YR M o Y) (h1 : M' (o + 4) = M (o + 4)) (h2 : M' (o + 5) = M (o + 5)) (h3 : M' (o + 6) = M (o + 6)) (h4 : M' (o + 7) = M (o + 7)) (h5 : M' (o + 8) = M (o + 8)) : YR M' o Y := by
  unfold YR grn ful shr
  rw [h1, h2, h3, h4, h5]
  exact h
/-- nothing but these cells has changed -/
def Fr (S : Nat → Prop) (M M' : MM) : Prop := ∀ k, ¬ S k → M' k = M k
abbrev WS (w k : Nat) : Prop := w ≤ k ∧ k < w + 4
theorem Fr.rfl {S : Nat → Prop} : Fr S M M := fun _ _ => Eq.refl _
theorem Fr.mono {S T : Nat → Prop} (h : Fr S M M') (hs : ∀ k, S k → T k) : Fr T M M' := fun k hk => h k (fun q => hk (hs k q))
theorem Fr.trans {S T U : Nat → Prop} (h : Fr S M M') (h' : Fr T M' M'') (hs : ∀ k, S k → U k) (ht : ∀ k, T k → U k) : Fr U M M'' := fun k hk => (h' k (fun q => hk (ht k q))).trans (h k (fun q => hk (hs k q)))
theorem wset_fr (M : MM) (w : Nat) (R : Row) : Fr (WS w) M (wset M w R) := fun k hk => wset_cell M R (by omega)
theorem aset_fr (M : MM) (a : Nat) (F : Nat → Int32) : Fr (fun k => k = a) M (aset M a F) := fun k hk => aset_ne M F hk
theorem row_ag {X R : Row} (h : ∀ j, j < 325 → X j = R j) (hm : mno R ≤ 24) : Ag X R := by
  have e1 : dpo X = dpo R := by simp only [dpo]; rw [h 0 (by decide)]
  have e2 : mno X = mno R := by simp only [mno]; rw [h 1 (by decide)]
  simp only [Ag]
  rw [e1, e2]
  exact ⟨fun j hj => h j (by omega), fun l hl => h _ (by omega), fun p h1 h2 => ⟨h _ (by omega), h _ (by omega)⟩⟩
theorem wrow_ag (M : MM) (w : Nat) (R : Row) (hm : mno R ≤ 24) : Ag (wrow (wset M w R) w) R := row_ag (fun j hj => wset_row M w R hj) hm
theorem wrow_cong (h : ∀ k, w ≤ k → k < w + 4 → M' k = M k) : wrow M' w = wrow M w := by
  funext j
  simp only [wrow]
  rw [h w (by omega) (by omega), h (w + 1) (by omega) (by omega), h (w + 2) (by omega) (by omega), h (w + 3) (by omega) (by omega)]
theorem Fr.row {S : Nat → Prop} (h : Fr S M M') (w : Nat) (hs : ∀ k, w ≤ k → k < w + 4 → ¬ S k) : wrow M' w = wrow M w := wrow_cong (fun k h1 h2 => h k (hs k h1 h2))
theorem YC.rain (h : YC M yd Y) (ps : Nat) : yRain M yd Y.wk ps = Y.rain ps ∧ yAir M yd Y.wk ps = Y.air ps ∧ yFrost M yd Y.wk ps = Y.frost ps := by
  simp only [yRain, yAir, yFrost, YD.rain, YD.air, YD.frost]
  by_cases q : Y.wk = 0
  · rw [if_pos q, if_pos q, if_pos q, if_pos q, if_pos q, if_pos q]
    exact ⟨rfl, rfl, rfl⟩
  · rw [if_neg q, if_neg q, if_neg q, if_neg q, if_neg q, if_neg q]
    exact h.2.2.2.2 _ (Nat.mod_lt _ (by omega))
theorem YR.rain (h : YR M o Y) (ps : Nat) : wkRain M o Y.wk ps = Y.rain ps ∧ wkAir M o Y.wk ps = Y.air ps ∧ wkFrost M o Y.wk ps = Y.frost ps := by
  simp only [wkRain, wkAir, wkFrost, YD.rain, YD.air, YD.frost]
  by_cases q : Y.wk = 0
  · rw [if_pos q, if_pos q, if_pos q, if_pos q, if_pos q, if_pos q]
    exact ⟨rfl, rfl, rfl⟩
  · rw [if_neg q, if_neg q, if_neg q, if_neg q, if_neg q, if_neg q]
    exact h.2.2.2.2 _ (Nat.mod_lt _ (by omega))
/-! the class's walls -/
theorem p_pass (hA : WA Sh N w yd) (hT : TA Sh N t yd) (hdis : t + 3 ≤ w ∨ w + 4 ≤ t) (hY : YC M yd Y) (hF : Y.Fine) (hO : OK b R) (hb : b < 2 ^ 30) (a : Ag (wrow M w) R) :
    Con E mX9_pass 4 0 0 [.ref t, .ref w] Sh N G M (PR Sh N (fun v M' => v = some (.int (bI (wkF Y R))) ∧ Ag (wrow M' w) (wkR Y R) ∧ Fr (fun k => WS w k ∨ k = t + 1 ∨ k = t + 2) M M')) nox := by
  have hX := hO.ag a.symm
  obtain ⟨sh, hs9, hsh⟩ := hX.sho
  have hp := hX.pas
  have h := t_pass (E := E) (G := G) hA hT hdis (dpo (wrow M w)) (mno (wrow M w)) sh Y.wk (pso (wrow M w)) hX.wf hX.prp hsh hs9 hp.2 (by omega) hY.2.2.2.1 hF.2.1
  rw [wset_self, (hY.rain _).1, (hY.rain _).2.1, (hY.rain _).2.2, hY.1, hY.2.1, hY.2.2.1] at h
  refine Con.post h ?_
  rintro v Sh' N' M1 ⟨rfl, rfl, hv, A, S, hM⟩
  refine ⟨rfl, rfl, ?_, ?_, ?_⟩
  · rw [hv, ← (ag_wk (Y := Y) a hX hF).2]
    rfl
  · rw [hM]
    exact (wrow_ag _ _ (wkR Y (wrow M w)) (ok_wk hF hX hb).mn).trans (ag_wk a hX hF).1
  · rw [hM]
    exact ((aset_fr M _ _).trans (aset_fr _ _ _) (U := fun k => k = t + 1 ∨ k = t + 2) (fun k q => Or.inl q) (fun k q => Or.inr q)).trans (wset_fr _ _ _) (fun k q => Or.inr q) (fun k q => Or.inl q)
theorem p_any (hA : WA Sh N w yd) (hY : YC M yd Y) (hF : Y.Fine) (hO : OK b R) (a : Ag (wrow M w) R) : Con E mX8_anySits 4 0 0 [.ref w] Sh N G M (P1 (some (.int (bI (sitY Y R)))) Sh N M) nox := by
  have hX := hO.ag a.symm
  have h := w_anySits (E := E) (G := G) hA (M := M) (R := wrow M w) (dpo (wrow M w)) (mno (wrow M w)) hX.wf hX.prp (by rw [hY.1, hY.2.1]; exact hF.1) hX.wok
  rw [wset_self, hY.1, hY.2.1] at h
  rw [← ag_sitY a hX]
  exact h
theorem p_room (hA : WA Sh N w yd) (hY : YC M yd Y) (hF : Y.Fine) (hO : OK b R) (a : Ag (wrow M w) R) : Con E mX8_roomAbove 4 0 0 [.ref w] Sh N G M (P1 (some (.int (nI (hiY Y R)))) Sh N M) nox := by
  have hX := hO.ag a.symm
  have h := w_roomAbove (E := E) (G := G) hA (M := M) (R := wrow M w) (dpo (wrow M w)) (mno (wrow M w)) hX.wf hX.prp (by rw [hY.1, hY.2.1]; exact hF.1) hX.wok
  rw [wset_self, hY.1, hY.2.1] at h
  rw [← ag_hiY a hX]
  exact h
theorem p_raise (hA : WA Sh N w yd) {x : Int32} (n : Nat) (hx : x = nI n) (hO : OK b R) (hn : mno R + n ≤ 24) (a : Ag (wrow M w) R) : Con E mX8_raise 1 0 0 [.ref w, .int x] Sh N G M (PR Sh N (fun v M' => v = none ∧ Ag (wrow M' w) (rsR n R) ∧ Fr (WS w) M M')) nox := by
  have hX := hO.ag a.symm
  have hn' : mno (wrow M w) + n ≤ 24 := by rw [← a.mn]; exact hn
  have h := w_raise (E := E) (G := G) hA (M := M) (R := wrow M w) (dpo (wrow M w)) (mno (wrow M w)) n hX.wf hx hn'
  rw [wset_self] at h
  refine Con.post h ?_
  rintro v Sh' N' M1 ⟨rfl, rfl, rfl, hM⟩
  refine ⟨rfl, rfl, rfl, ?_, ?_⟩
  · rw [hM]
    exact (wrow_ag _ _ (rsR n (wrow M w)) (ok_rs hX hn').mn).trans (ag_rs a hX hn')
  · rw [hM]; exact wset_fr _ _ _
theorem p_improve (hA : WA Sh N w yd) {x : Int32} (j : Nat) (hx : x = nI j) (hj : j < 6) (hO : OK b R) (a : Ag (wrow M w) R) : Con E mX8_improve 2 0 0 [.ref w, .int x] Sh N G M (PR Sh N (fun v M' => v = none ∧ Ag (wrow M' w) (workR j R) ∧ Fr (WS w) M M')) nox := by
  have hX := hO.ag a.symm
  have h := w_improve (E := E) (G := G) hA (M := M) (R := wrow M w) j hx hj
  rw [wset_self] at h
  refine Con.post h ?_
  rintro v Sh' N' M1 ⟨rfl, rfl, rfl, hM⟩
  refine ⟨rfl, rfl, rfl, ?_, ?_⟩
  · rw [hM]
    exact (wrow_ag _ _ (workR j (wrow M w)) (ok_work hX j).mn).trans (ag_wo a j)
  · rw [hM]; exact wset_fr _ _ _
theorem p_become {v yv : Nat} (hA : WA Sh N w yd) (hB : WA Sh N v yv) (hd : v + 4 ≤ w ∨ w + 4 ≤ v) (hO : OK b R) (a : Ag (wrow M v) R) : Con E mX8_become 1 0 0 [.ref w, .ref v] Sh N G M (PR Sh N (fun x M' => x = none ∧ Ag (wrow M' w) R ∧ Fr (WS w) M M')) nox := by
  have hX := hO.ag a.symm
  have h := w_become (E := E) (G := G) hA hB hd (M := M) (R := wrow M w) (dpo (wrow M v)) (mno (wrow M v)) hX.wf hX.hat hX.prp
  rw [wset_self] at h
  refine Con.post h ?_
  rintro v1 Sh' N' M1 ⟨rfl, rfl, rfl, hM⟩
  refine ⟨rfl, rfl, rfl, ?_, ?_⟩
  · rw [hM]
    have hb := ag_become (wrow M v) (wrow M w) hX.mn
    exact (wrow_ag _ _ _ (by rw [← hb.mn]; exact hX.mn)).trans (hb.trans a)
  · rw [hM]; exact wset_fr _ _ _
theorem p_bulges (hA : WA Sh N w yd) (hO : OK b R) (a : Ag (wrow M w) R) : Con E mX8_bulges 1 0 0 [.ref w] Sh N G M (P1 (some (.int (blg R))) Sh N M) nox := by
  have hX := hO.ag a.symm
  have h := w_bulges (E := E) (G := G) hA (M := M) (R := wrow M w) (dpo (wrow M w)) (mno (wrow M w)) hX.wf
  rw [wset_self] at h
  rw [← ag_blg a]
  exact h
theorem p_foot (hA : WA Sh N w yd) (hO : OK b R) (a : Ag (wrow M w) R) : Con E mX8_footIsPaste 1 0 0 [.ref w] Sh N G M (P1 (some (.int (bI (pst R)))) Sh N M) nox := by
  have hX := hO.ag a.symm
  have h := w_foot (E := E) (G := G) hA (M := M) (R := wrow M w) (dpo (wrow M w)) (mno (wrow M w)) hX.wf
  rw [wset_self] at h
  rw [← ag_pst a hX]
  exact h
/-- a trait of a wall in the numbers -/
theorem w_trait (a : Ag (wrow M w) R) {j : Nat} (hj : j < 13) : M w (j + 4) = R j := by
  have h := a.1 j hj
  simp only [wrow] at h
  rw [if_pos hj] at h
  exact h
/-! the reference's rows -/
/-- nothing but these cells, and of the rows nothing but these, has changed -/
def FrR (o : Nat) (S T : Nat → Prop) (M M' : MM) : Prop := (∀ k, k ≠ o + 1 → ¬ S k → M' k = M k) ∧ ∀ r, r < 36 → ¬ T r → ∀ j, j < 325 → mrow M' o r j = mrow M o r j
theorem FrR.rfl {S T : Nat → Prop} : FrR o S T M M := ⟨fun _ _ _ => Eq.refl _, fun _ _ _ _ _ => Eq.refl _⟩
theorem FrR.mono {S T S' T' : Nat → Prop} (h : FrR o S T M M') (hs : ∀ k, S k → S' k) (ht : ∀ k, T k → T' k) : FrR o S' T' M M' := ⟨fun k h1 h2 => h.1 k h1 (fun q => h2 (hs k q)), fun r h1 h2 => h.2 r h1 (fun q => h2 (ht r q))⟩
theorem FrR.trans {S T S' T' U V : Nat → Prop} (h : FrR o S T M M') (h' : FrR o S' T' M' M'') (h1 : ∀ k, S k → U k) (h2 : ∀ k, S' k → U k) (h3 : ∀ k, T k → V k) (h4 : ∀ k, T' k → V k) : FrR o U V M M'' :=
  ⟨fun k q1 q2 => (h'.1 k q1 (fun q => q2 (h2 k q))).trans (h.1 k q1 (fun q => q2 (h1 k q))), fun r q1 q2 j hj => (h'.2 r q1 (fun q => q2 (h4 r q)) j hj).trans (h.2 r q1 (fun q => q2 (h3 r q)) j hj)⟩
theorem mset_fr (M : MM) (o r : Nat) (R : Row) : FrR o (fun _ => False) (fun x => x = r) M (mset M o r R) := ⟨fun k h1 _ => mset_cell h1, fun s h1 h2 j hj => mset_else hj h2⟩
theorem aset_frR (M : MM) (o a : Nat) (F : Nat → Int32) (h : a ≠ o + 1) : FrR o (fun k => k = a) (fun _ => False) M (aset M a F) := ⟨fun k _ h2 => aset_ne M F h2, fun s h1 h2 j hj => by simp only [mrow]; rw [aset_ne M F (Ne.symm h)]⟩
theorem mrow_ag (M : MM) (o r : Nat) (R : Row) (hm : mno R ≤ 24) : Ag (mrow (mset M o r R) o r) R := row_ag (fun j hj => mset_row hj) hm
theorem FrR.row {S T : Nat → Prop} (h : FrR o S T M M') (hr : r < 36) (ht : ¬ T r) (a : Ag (mrow M o r) R) (hm : mno R ≤ 24) : Ag (mrow M' o r) R := by
  have e : ∀ j, j < 325 → mrow M' o r j = mrow M o r j := h.2 r hr ht
  exact (row_ag e (by rw [← a.mn]; exact hm)).trans a
theorem YR.fr {S T : Nat → Prop} (h : YR M o Y) (f : FrR o S T M M') (hs : ∀ k, k = o + 4 ∨ k = o + 5 ∨ k = o + 6 ∨ k = o + 7 ∨ k = o + 8 → ¬ S k) : YR M' o Y :=
  h.cong (f.1 _ (by omega) (hs _ (by omega))) (f.1 _ (by omega) (hs _ (by omega))) (f.1 _ (by omega) (hs _ (by omega))) (f.1 _ (by omega) (hs _ (by omega))) (f.1 _ (by omega) (hs _ (by omega)))
abbrev SB (o k : Nat) : Prop := k = o + 2 ∨ k = o + 3
theorem m_week (hM : MO Sh N o) {x : Int32} (hx : x = nI r) (hr : r < 36) (hY : YR M o Y) (hF : Y.Fine) (hO : OK b R) (hb : b < 2 ^ 30) (a : Ag (mrow M o r) R) :
    Con E mX12_week 6 0 0 [.ref o, .int x] Sh N G M (PR Sh N (fun v M' => v = none ∧ Ag (mrow M' o r) (wkR Y R) ∧ FrR o (SB o) (fun x => x = r) M M')) nox := by
  have hX := hO.ag a.symm
  obtain ⟨sh, hs9, hsh⟩ := hX.sho
  have hp := hX.pas
  have h := s_week (E := E) (G := G) hM (M := M) (R := mrow M o r) (dpo (mrow M o r)) (mno (mrow M o r)) sh Y.wk (pso (mrow M o r)) hX.wf hsh hs9 hp.2 (by omega) hY.2.2.2.1 hF.2.1 hx hr
  rw [mset_self, (hY.rain _).1, (hY.rain _).2.1, (hY.rain _).2.2, hY.1, hY.2.1, hY.2.2.1] at h
  refine Con.post h ?_
  rintro v Sh' N' M1 ⟨rfl, rfl, hv, A, S, hM1⟩
  refine ⟨rfl, rfl, hv, ?_, ?_⟩
  · rw [hM1]
    exact (mrow_ag _ _ _ (wkR Y (mrow M o r)) (ok_wk hF hX hb).mn).trans (ag_wk a hX hF).1
  · rw [hM1]
    exact ((aset_frR M o _ _ (by omega)).trans (aset_frR _ o _ _ (by omega)) (U := SB o) (V := fun _ => False) (fun k q => Or.inl q) (fun k q => Or.inr q) (fun k q => q) (fun k q => q)).trans (mset_fr _ _ _ _) (fun k q => q) (fun k q => q.elim) (fun k q => q.elim) (fun k q => q)
theorem m_sits (hM : MO Sh N o) {x : Int32} (hx : x = nI r) (hr : r < 36) (hY : YR M o Y) (hO : OK b R) (a : Ag (mrow M o r) R) : Con E mX12_someSits 6 0 0 [.ref o, .int x] Sh N G M (P1 (some (.int (bI (sitY Y R)))) Sh N M) nox := by
  have hX := hO.ag a.symm
  have h := s_someSits (E := E) (G := G) hM (M := M) (R := mrow M o r) (dpo (mrow M o r)) (mno (mrow M o r)) hX.wf hx hr
  rw [mset_self, hY.1, hY.2.1] at h
  rw [← ag_sitY a hX]
  exact h
theorem m_high (hM : MO Sh N o) {x : Int32} (hx : x = nI r) (hr : r < 36) (hY : YR M o Y) (hO : OK b R) (a : Ag (mrow M o r) R) : Con E mX12_highOf 7 0 0 [.ref o, .int x] Sh N G M (PR Sh N (fun v M' => v = some (.int (nI (hiY Y R))) ∧ FrR o (fun _ => False) (fun x => x = 31) M M')) nox := by
  have hX := hO.ag a.symm
  have h := s_highOf (E := E) (G := G) hM (M := M) (dpo (mrow M o r)) (mno (mrow M o r)) hX.wf hx hr
  rw [hY.1, hY.2.1] at h
  refine Con.post h ?_
  rintro v Sh' N' M1 ⟨rfl, rfl, hv, X, hM1⟩
  refine ⟨rfl, rfl, ?_, by rw [hM1]; exact mset_fr _ _ _ _⟩
  rw [hv, ← ag_hiY a hX]
  rfl
theorem m_raise (hM : MO Sh N o) {x y : Int32} (n : Nat) (hx : x = nI r) (hy : y = nI n) (hr : r < 36) (hO : OK b R) (hn : mno R + n ≤ 24) (a : Ag (mrow M o r) R) : Con E mX12_raise 2 0 0 [.ref o, .int x, .int y] Sh N G M (PR Sh N (fun v M' => v = none ∧ Ag (mrow M' o r) (rsR n R) ∧ FrR o (fun _ => False) (fun x => x = r) M M')) nox := by
  have hX := hO.ag a.symm
  have hn' : mno (mrow M o r) + n ≤ 24 := by rw [← a.mn]; exact hn
  have h := s_raise (E := E) (G := G) hM (M := M) (R := mrow M o r) (dpo (mrow M o r)) (mno (mrow M o r)) n hX.wf hx hy hr hn'
  rw [mset_self] at h
  refine Con.post h ?_
  rintro v Sh' N' M1 ⟨rfl, rfl, rfl, hM1⟩
  refine ⟨rfl, rfl, rfl, ?_, by rw [hM1]; exact mset_fr _ _ _ _⟩
  rw [hM1]
  exact (mrow_ag _ _ _ (rsR n (mrow M o r)) (ok_rs hX hn').mn).trans (ag_rs a hX hn')
theorem m_doWork (hM : MO Sh N o) {x y : Int32} (j : Nat) (hx : x = nI r) (hy : y = nI j) (hr : r < 36) (hj : j < 6) (hO : OK b R) (a : Ag (mrow M o r) R) : Con E mX12_doWork 2 0 0 [.ref o, .int x, .int y] Sh N G M (PR Sh N (fun v M' => v = none ∧ Ag (mrow M' o r) (workR j R) ∧ FrR o (fun _ => False) (fun x => x = r) M M')) nox := by
  have hX := hO.ag a.symm
  have h := s_doWork (E := E) (G := G) hM (M := M) (R := mrow M o r) j hx hy hr hj
  rw [mset_self] at h
  refine Con.post h ?_
  rintro v Sh' N' M1 ⟨rfl, rfl, rfl, hM1⟩
  refine ⟨rfl, rfl, rfl, ?_, by rw [hM1]; exact mset_fr _ _ _ _⟩
  rw [hM1]
  exact (mrow_ag _ _ _ (workR j (mrow M o r)) (ok_work hX j).mn).trans (ag_wo a j)
theorem m_copy (hM : MO Sh N o) {x y : Int32} (f t : Nat) (hx : x = nI f) (hy : y = nI t) (hf : f < 36) (ht : t < 36) (hm : mno R ≤ 24) (a : Ag (mrow M o f) R) : Con E mX12_copy 1 0 0 [.ref o, .int x, .int y] Sh N G M (PR Sh N (fun v M' => v = none ∧ Ag (mrow M' o t) R ∧ FrR o (fun _ => False) (fun x => x = t) M M')) nox := by
  refine Con.post (c_X12_copy (E := E) (G := G) hM (M := M) f t hx hy hf ht) ?_
  rintro v Sh' N' M1 ⟨rfl, rfl, rfl, hM1⟩
  refine ⟨rfl, rfl, rfl, ?_, by rw [hM1]; exact mset_fr _ _ _ _⟩
  rw [hM1]
  exact (mrow_ag _ _ _ (mrow M o f) (by rw [← a.mn]; exact hm)).trans a
theorem m_bulges (hM : MO Sh N o) {x : Int32} (hx : x = nI r) (hr : r < 36) (hO : OK b R) (a : Ag (mrow M o r) R) : Con E mX12_bulges 2 0 0 [.ref o, .int x] Sh N G M (P1 (some (.int (blg R))) Sh N M) nox := by
  have hX := hO.ag a.symm
  have h := s_bulges (E := E) (G := G) hM (M := M) (R := mrow M o r) (dpo (mrow M o r)) (mno (mrow M o r)) hX.wf hx hr
  rw [mset_self] at h
  rw [← ag_blg a]
  exact h
/-- a trait, read -/
theorem m_of (hM : MO Sh N o) {x y : Int32} (j : Nat) (hx : x = nI r) (hy : y = nI j) (hr : r < 36) (hj : j < 13) (a : Ag (mrow M o r) R) : Con E mX12_of 1 0 0 [.ref o, .int x, .int y] Sh N G M (P1 (some (.int (R j))) Sh N M) nox := by
  have h := c_X12_of (E := E) (G := G) hM (M := M) r j hx hy hr (by omega)
  rw [a.1 j hj] at h
  exact h
end PLEV
