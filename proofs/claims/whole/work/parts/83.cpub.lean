section CPUB
variable {E : VE} {Sh : Nat → SE} {N : Nat} {G : Bool} {M M' M'' : MM} {tx b w yd : Nat} {x : ST} {R : Row} {Y : YD}
theorem p_water (hA : WA Sh N w yd) (hO : OK b R) (a : Ag (wrow M w) R) {y : Int32} (hy : y = nI 0) : Con E mX8_waterFrom 1 0 0 [.ref w, .int y] Sh N G M (P1 (some (.int (wat R (dpo R) 0 (mno R)))) Sh N M) nox := by
  have hX := hO.ag a.symm
  have h := w_waterFrom (E := E) (G := G) hA (M := M) (R := wrow M w) (dpo (wrow M w)) (mno (wrow M w)) 0 hX.wf hy (Nat.zero_le _)
  rw [wset_self, Nat.sub_zero, ag_wat a (by omega) hX.dp.2, ← a.dp, ← a.mn] at h
  exact h
theorem p_cell2 (hO : OK b R) (a : Ag (wrow M w) R) {p : Nat} (h1 : p / 6 < mno R) (h2 : p % 6 < dpo R) : wrow M w (37 + p) = R (37 + p) ∧ wrow M w (181 + p) = R (181 + p) := a.2.2 p (by rw [← a.mn]; exact h1) (by rw [← a.dp]; exact h2)
theorem p_strength (hA : WA Sh N w yd) (hY : YC M yd Y) (hO : OK b R) (a : Ag (wrow M w) R) {y : Int32} (p : Nat) (hy : y = nI p) (hp : p < 144) (h1 : p / 6 < mno R) (h2 : p % 6 < dpo R) : Con E mX8_strength 1 0 0 [.ref w, .int y] Sh N G M (P1 (some (.int (strg Y.g Y.f R p))) Sh N M) nox := by
  have h := w_strength (E := E) (G := G) hA (M := M) (R := wrow M w) p hy hp
  obtain ⟨e1, e2⟩ := p_cell2 hO a h1 h2
  rw [wset_self, hY.1, hY.2.1, strg, e1, e2] at h
  exact h
theorem p_load (hA : WA Sh N w yd) (hO : OK b R) (a : Ag (wrow M w) R) {y : Int32} (p : Nat) (hy : y = nI p) (hp : p < 144) (h1 : p / 6 < mno R) (h2 : p % 6 < dpo R) : Con E mX8_load 1 0 0 [.ref w, .int y] Sh N G M (P1 (some (.int (lod R p))) Sh N M) nox := by
  have h := w_load (E := E) (G := G) hA (M := M) (R := wrow M w) p hy hp
  obtain ⟨e1, e2⟩ := p_cell2 hO a h1 h2
  rw [wset_self, lod, e1, e2] at h
  exact h
theorem p_stiff (hA : WA Sh N w yd) (hO : OK b R) (a : Ag (wrow M w) R) {y : Int32} (p : Nat) (hy : y = nI p) (hp : p < 144) (h1 : p / 6 < mno R) (h2 : p % 6 < dpo R) : Con E mX8_stiffness 1 0 0 [.ref w, .int y] Sh N G M (P1 (some (.int (if nI 180 ≤ R (37 + p) then nI 2 else if nI 120 < R (37 + p) then nI 1 else nI 0))) Sh N M) nox := by
  have h := w_stiff (E := E) (G := G) hA (M := M) (R := wrow M w) p hy hp
  obtain ⟨e1, e2⟩ := p_cell2 hO a h1 h2
  rw [wset_self, e1] at h
  exact h
theorem p_cracked (hA : WA Sh N w yd) (hO : OK b R) (a : Ag (wrow M w) R) {y : Int32} (p : Nat) (hy : y = nI p) (hp : p < 144) (h1 : p / 6 < mno R) (h2 : p % 6 < dpo R) : Con E mX8_isCracked 1 0 0 [.ref w, .int y] Sh N G M (P1 (some (.int (bI (decide (R (181 + p) &&& nI 1 = nI 1))))) Sh N M) nox := by
  have h := w_isCracked (E := E) (G := G) hA (M := M) (R := wrow M w) p hy hp
  obtain ⟨e1, e2⟩ := p_cell2 hO a h1 h2
  rw [wset_self, e2, bI_if] at h
  exact h
theorem p_hollow (hA : WA Sh N w yd) (hO : OK b R) (a : Ag (wrow M w) R) {y : Int32} (p : Nat) (hy : y = nI p) (hp : p < 144) (h1 : p / 6 < mno R) (h2 : p % 6 < dpo R) : Con E mX8_isHollow 1 0 0 [.ref w, .int y] Sh N G M (P1 (some (.int (bI (decide (R (181 + p) &&& nI 2 = nI 2))))) Sh N M) nox := by
  have h := w_isHollow (E := E) (G := G) hA (M := M) (R := wrow M w) p hy hp
  obtain ⟨e1, e2⟩ := p_cell2 hO a h1 h2
  rw [wset_self, e2, bI_if] at h
  exact h
theorem p_lbears (hA : WA Sh N w yd) (hY : YC M yd Y) (hO : OK b R) (a : Ag (wrow M w) R) {y : Int32} (l : Nat) (hy : y = nI l) (hl : l < mno R) : Con E mX8_bears 2 0 0 [.ref w, .int y] Sh N G M (P1 (some (.int (bear Y.g Y.f R (dpo R) l))) Sh N M) nox := by
  have hX := hO.ag a.symm
  have hm := hO.mn
  have h := w_bears (E := E) (G := G) hA (M := M) (R := wrow M w) (dpo (wrow M w)) (mno (wrow M w)) l hX.wf hX.prp hy (by omega)
  rw [wset_self, hY.1, hY.2.1, ag_bear a (by rw [← a.mn]; exact hl) hX.dp.2, ← a.dp] at h
  exact h
theorem p_presses (hA : WA Sh N w yd) (hO : OK b R) (a : Ag (wrow M w) R) {y : Int32} (l : Nat) (hy : y = nI l) (hl : l < mno R) : Con E mX8_presses 3 0 0 [.ref w, .int y] Sh N G M (P1 (some (.int (prs R (dpo R) l (mno R - 1 - l)))) Sh N M) nox := by
  have hX := hO.ag a.symm
  have hl' : l < mno (wrow M w) := by rw [← a.mn]; exact hl
  have h := w_presses (E := E) (G := G) hA (M := M) (R := wrow M w) (dpo (wrow M w)) (mno (wrow M w)) l hX.wf hy hl'
  rw [wset_self, ag_prs a (by omega) hX.dp.2, ← a.dp, ← a.mn] at h
  exact h
theorem inI_out {q : Int32} {n : Nat} (hn : n < 2 ^ 30) (h : inI q 0 (nI n) = false) : q.toInt < 0 ∨ (n : Int) < q.toInt := by
  have h := of_decide_eq_false h
  by_cases z : q.toInt < 0
  · exact Or.inl z
  · refine Or.inr (Int.not_le.mp (fun z2 => h ⟨Int32.le_iff_toInt_le.mpr ?_, Int32.le_iff_toInt_le.mpr ?_⟩))
    · show (0 : Int) ≤ _
      omega
    · rw [nI_toInt (by omega)]
      exact z2
theorem inI_neg {q : Int32} {n : Nat} (hn : n < 2 ^ 30) (h : q.toInt < 0 ∨ (n : Int) < q.toInt) : inI q 0 (nI n) = false := by
  refine decide_eq_false (fun z => ?_)
  have z1 := Int32.le_iff_toInt_le.mp z.1
  have z2 := Int32.le_iff_toInt_le.mp z.2
  rw [nI_toInt (by omega)] at z2
  have z3 : (0 : Int) ≤ q.toInt := z1
  omega
theorem K_wall (hU : MU Sh N tx) (hV : VI b x) (hC : CI M x) (p q : Int32) : Con E mX11_wall 20 8 48 [.ref 0, .int p, .int q] Sh N G M (PR Sh N (CQ M (wallA x p q).2 (wallA x p q).1 x)) (CX1 (wallA x p q).1) := by
  have u0 := hU.1
  have hw4 := hV.1
  refine Con.ofQ (by decide +kernel) (by simp [Value.category]) (Nat.le_of_ble_eq_true rfl) (fun k C0 Q hQ => ?_)
  have C : CK k E mX11_wall kdX11_wall 20 8 48 := ⟨C0, kdX11_wall_ok⟩
  refine r_aload_n C 0 rfl rfl rfl rfl ?_
  refine r_iload_n C 1 rfl rfl rfl ?_
  refine v1_x C rfl mfX11_wallAt lk_X11_197 (by assumption) (K_wallAt hU hV hC p) (by omega) (by omega) (fun X h => q_thr C hQ (Or.inl ⟨by rw [wallA, if_pos (Or.inl h.2)], h.1⟩)) ?_
  rintro z M1 ⟨rfl, w, hw, rfl, rfl⟩
  have hA := hU.2.2.2.2.2.2.2.2.1 w (by omega)
  have a0 := hA.1
  have ow := hV.ow hw
  have aw := hC.2.2.2.2.2.1 w (by omega)
  refine r_astore_n C 3 rfl rfl (by exact Nat.le_of_ble_eq_true rfl) rfl ?_
  refine r_iload_n C 2 rfl rfl rfl ?_
  cases hq : inI q 0 (nI 11) with
  | false =>
    refine r_tabOut C 145 rfl (inI_out (by decide) hq) (by decide) ?_
    exact r_nse C hQ (Or.inl ⟨by rw [wallA, if_pos (Or.inr hq)], rfl⟩) (text := "no such trait of a wall") (n := 23) (by decide +kernel) rfl rfl rfl rfl rfl
  | true =>
    obtain ⟨n, -, hn, rfl⟩ := (inI_iff (a := 0) (by decide) (by decide)).mp hq
    have ea : wallA x (nI w) (nI n) = (0, wallV (x.Rw w) n) := by
      rw [wallA, if_neg (by rintro (z | z); rw [isW_nI (by omega) hw] at z; cases z; rw [show inI (nI n) 0 (nI 11) = true from hq] at z; cases z), nI_clamp (by omega), nI_clamp (by omega)]
    rw [ea] at hQ
    have fld : ∀ j, j < 13 → M1 (15 + 4 * w) (j + 4) = x.Rw w j := fun j hj => w_trait aw hj
    have : n = 0 ∨ n = 1 ∨ n = 2 ∨ n = 3 ∨ n = 4 ∨ n = 5 ∨ n = 6 ∨ n = 7 ∨ n = 8 ∨ n = 9 ∨ n = 10 ∨ n = 11 := by omega
    rcases this with rfl | rfl | rfl | rfl | rfl | rfl | rfl | rfl | rfl | rfl | rfl | rfl
    · refine r_tabIn C 68 rfl (by decide) (by decide) rfl (by decide) ?_
      refine r_aload_n C 3 rfl rfl rfl rfl ?_
      refine r_geti C rfl f_X11_210 (by assumption) rfl ?_
      exact q_iret C hQ rfl rfl rfl ⟨rfl, rfl, rfl, by rw [fld 0 (by decide)]; rfl, hC, fun _ _ => rfl⟩
    · refine r_tabIn C 73 rfl (by decide) (by decide) rfl (by decide) ?_
      refine r_aload_n C 3 rfl rfl rfl rfl ?_
      refine r_geti C rfl f_X11_201 (by assumption) rfl ?_
      exact q_iret C hQ rfl rfl rfl ⟨rfl, rfl, rfl, by rw [fld 1 (by decide)]; rfl, hC, fun _ _ => rfl⟩
    · refine r_tabIn C 78 rfl (by decide) (by decide) rfl (by decide) ?_
      refine r_aload_n C 3 rfl rfl rfl rfl ?_
      refine r_geti C rfl f_X11_215 (by assumption) rfl ?_
      exact q_iret C hQ rfl rfl rfl ⟨rfl, rfl, rfl, by rw [fld 2 (by decide)]; rfl, hC, fun _ _ => rfl⟩
    · refine r_tabIn C 83 rfl (by decide) (by decide) rfl (by decide) ?_
      refine r_aload_n C 3 rfl rfl rfl rfl ?_
      refine r_geti C rfl f_X11_217 (by assumption) rfl ?_
      exact q_iret C hQ rfl rfl rfl ⟨rfl, rfl, rfl, by rw [fld 3 (by decide)]; rfl, hC, fun _ _ => rfl⟩
    · refine r_tabIn C 88 rfl (by decide) (by decide) rfl (by decide) ?_
      refine r_aload_n C 3 rfl rfl rfl rfl ?_
      refine r_geti C rfl f_X11_220 (by assumption) rfl ?_
      rw [fld 4 (by decide)]
      rcases ow.hat with e | e
      · rw [e]
        refine r_if_eq C 99 rfl (by decide) (fun _ => ?_) (fun z => absurd rfl z)
        refine r_ic (v := nI 0) C rfl (by decide) ?_
        exact q_iret C hQ rfl rfl rfl ⟨rfl, rfl, rfl, by show some (Value.int 0) = some (.int (x.Rw w 4)); rw [e], hC, fun _ _ => rfl⟩
      · rw [e]
        refine r_if_eq C 99 rfl (by decide) (fun z => absurd z (by decide)) (fun _ => ?_)
        refine r_ic (v := nI 1) C rfl (by decide) ?_
        refine r_goto C 100 rfl (by decide) ?_
        exact q_iret C hQ rfl rfl rfl ⟨rfl, rfl, rfl, by show some (Value.int 1) = some (.int (x.Rw w 4)); rw [e], hC, fun _ _ => rfl⟩
    · refine r_tabIn C 101 rfl (by decide) (by decide) rfl (by decide) ?_
      refine r_aload_n C 3 rfl rfl rfl rfl ?_
      refine r_geti C rfl f_X11_223 (by assumption) rfl ?_
      exact q_iret C hQ rfl rfl rfl ⟨rfl, rfl, rfl, by rw [fld 5 (by decide)]; rfl, hC, fun _ _ => rfl⟩
    · refine r_tabIn C 106 rfl (by decide) (by decide) rfl (by decide) ?_
      refine r_aload_n C 3 rfl rfl rfl rfl ?_
      refine r_geti C rfl f_X11_226 (by assumption) rfl ?_
      exact q_iret C hQ rfl rfl rfl ⟨rfl, rfl, rfl, by rw [fld 6 (by decide)]; rfl, hC, fun _ _ => rfl⟩
    · refine r_tabIn C 111 rfl (by decide) (by decide) rfl (by decide) ?_
      refine r_aload_n C 3 rfl rfl rfl rfl ?_
      refine r_geti C rfl f_X11_229 (by assumption) rfl ?_
      rw [fld 7 (by decide)]
      rcases ow.prp with e | e
      · rw [e]
        refine r_if_eq C 122 rfl (by decide) (fun _ => ?_) (fun z => absurd rfl z)
        refine r_ic (v := nI 0) C rfl (by decide) ?_
        exact q_iret C hQ rfl rfl rfl ⟨rfl, rfl, rfl, by show some (Value.int 0) = some (.int (x.Rw w 7)); rw [e], hC, fun _ _ => rfl⟩
      · rw [e]
        refine r_if_eq C 122 rfl (by decide) (fun z => absurd z (by decide)) (fun _ => ?_)
        refine r_ic (v := nI 1) C rfl (by decide) ?_
        refine r_goto C 123 rfl (by decide) ?_
        exact q_iret C hQ rfl rfl rfl ⟨rfl, rfl, rfl, by show some (Value.int 1) = some (.int (x.Rw w 7)); rw [e], hC, fun _ _ => rfl⟩
    · refine r_tabIn C 124 rfl (by decide) (by decide) rfl (by decide) ?_
      refine r_aload_n C 3 rfl rfl rfl rfl ?_
      refine r_geti C rfl f_X11_232 (by assumption) rfl ?_
      exact q_iret C hQ rfl rfl rfl ⟨rfl, rfl, rfl, by rw [fld 8 (by decide)]; rfl, hC, fun _ _ => rfl⟩
    · refine r_tabIn C 129 rfl (by decide) (by decide) rfl (by decide) ?_
      refine r_aload_n C 3 rfl rfl rfl rfl ?_
      refine r_ic (v := nI 0) C rfl (by decide) ?_
      refine v1_r C rfl mfX8_waterFrom lk_X11_235 (by assumption) (p_water hA ow aw rfl) ?_
      exact q_iret C hQ rfl rfl rfl ⟨rfl, rfl, rfl, rfl, hC, fun _ _ => rfl⟩
    · refine r_tabIn C 135 rfl (by decide) (by decide) rfl (by decide) ?_
      refine r_aload_n C 3 rfl rfl rfl rfl ?_
      refine r_geti C rfl f_X11_239 (by assumption) rfl ?_
      exact q_iret C hQ rfl rfl rfl ⟨rfl, rfl, rfl, by rw [fld 9 (by decide)]; rfl, hC, fun _ _ => rfl⟩
    · refine r_tabIn C 140 rfl (by decide) (by decide) rfl (by decide) ?_
      refine r_aload_n C 3 rfl rfl rfl rfl ?_
      refine r_geti C rfl f_X11_242 (by assumption) rfl ?_
      exact q_iret C hQ rfl rfl rfl ⟨rfl, rfl, rfl, by rw [fld 10 (by decide)]; rfl, hC, fun _ _ => rfl⟩
theorem K_cell (hU : MU Sh N tx) (hV : VI b x) (hC : CI M x) (p q z y : Int32) : Con E mX11_cell 20 8 48 [.ref 0, .int p, .int q, .int z, .int y] Sh N G M (PR Sh N (CQ M (cellA x p q z y).2 (cellA x p q z y).1 x)) (CX1 (cellA x p q z y).1) := by
  have u0 := hU.1
  have hw4 := hV.1
  refine Con.ofQ (by decide +kernel) (by simp [Value.category]) (Nat.le_of_ble_eq_true rfl) (fun k C0 Q hQ => ?_)
  have C : CK k E mX11_cell kdX11_cell 20 8 48 := ⟨C0, kdX11_cell_ok⟩
  refine r_aload_n C 0 rfl rfl rfl rfl ?_
  refine r_iload_n C 1 rfl rfl rfl ?_
  refine r_iload_n C 2 rfl rfl rfl ?_
  refine r_iload_n C 3 rfl rfl rfl ?_
  refine v3_x C rfl mfX11_wallWithCell lk_X11_247 (by assumption) (K_withCell hU hV hC p q z) (by omega) (by omega) (fun X h => q_thr C hQ (Or.inl ⟨by rw [cellA, if_pos (Or.inl h.2)], h.1⟩)) ?_
  rintro v M1 ⟨rfl, w, l, c, hw, hl, hc, rfl, rfl, rfl, rfl⟩
  have hA := hU.2.2.2.2.2.2.2.2.1 w (by omega)
  obtain ⟨a0, a1, a2, a3, -, -⟩ := id hA
  have ow := hV.ow hw
  have aw := hC.2.2.2.2.2.1 w (by omega)
  have hm := ow.mn
  have hd := ow.dp
  have hY := hC.2.2.2.2.1.2
  refine r_astore C rfl (by exact Nat.le_of_ble_eq_true rfl) rfl ?_
  refine r_iload_n C 2 rfl rfl rfl ?_
  refine r_bi (v := nI 6) C rfl (by decide) ?_
  refine r_imul C rfl ?_
  rw [pk_mul]
  refine r_iload_n C 3 rfl rfl rfl ?_
  refine r_iadd C rfl ?_
  rw [nI_add, show l * 6 + c = 6 * l + c by omega]
  refine r_istore C rfl (by exact Nat.le_of_ble_eq_true rfl) ?_
  refine r_iload C rfl rfl ?_
  have h1 : (6 * l + c) / 6 < mno (x.Rw w) := by omega
  have h2 : (6 * l + c) % 6 < dpo (x.Rw w) := by omega
  cases hq : inI y 0 (nI 5) with
  | false =>
    refine r_tabOut C 121 rfl (inI_out (by decide) hq) (by decide) ?_
    exact r_nseW C hQ (Or.inl ⟨by rw [cellA, if_pos (Or.inr hq)], rfl⟩) (text := "no such trait of a cell") (n := 24) (by decide +kernel) rfl rfl rfl rfl rfl
  | true =>
    obtain ⟨n, -, hn, rfl⟩ := (inI_iff (a := 0) (by decide) (by decide)).mp hq
    have eC : isC x (nI w) (nI l) (nI c) = true := by rw [isC, (isL_iff hV).mpr ⟨w, l, hw, hl, rfl, rfl⟩, nI_clamp (by omega), isW_nI (by omega) hc]; rfl
    have ea : cellA x (nI w) (nI l) (nI c) (nI n) = (0, cellV x.ye.g x.ye.f (x.Rw w) (6 * l + c) n) := by
      rw [cellA, if_neg (by rintro (z | z); rw [eC] at z; cases z; rw [show inI (nI n) 0 (nI 5) = true from hq] at z; cases z), nI_clamp (by omega), nI_clamp (by omega), nI_clamp (by omega), nI_clamp (by omega)]
    rw [ea] at hQ
    have : n = 0 ∨ n = 1 ∨ n = 2 ∨ n = 3 ∨ n = 4 ∨ n = 5 := by omega
    rcases this with rfl | rfl | rfl | rfl | rfl | rfl
    · refine r_tabIn C 56 rfl (by decide) (by decide) rfl (by decide) ?_
      refine r_aload C rfl rfl rfl ?_
      refine r_getv C rfl f_X11_251 (by assumption) rfl ?_
      refine r_iload C rfl rfl ?_
      refine r_iald C rfl (by assumption) (6 * l + c) rfl (by omega) (by decide) ?_
      refine q_iret C hQ rfl rfl rfl ⟨rfl, rfl, rfl, ?_, hC, fun _ _ => rfl⟩
      have e := (p_cell2 ow aw h1 h2).1
      rw [wrow_w M1 (15 + 4 * w) (by omega)] at e
      rw [e]
      rfl
    · refine r_tabIn C 65 rfl (by decide) (by decide) rfl (by decide) ?_
      refine r_aload C rfl rfl rfl ?_
      refine r_iload C rfl rfl ?_
      refine v1_r C rfl mfX8_isCracked lk_X11_254 (by assumption) (p_cracked hA ow aw (6 * l + c) rfl (by omega) h1 h2) ?_
      refine r_if_eq C 79 rfl (by decide) (fun h => ?_) (fun h => ?_)
      · have h := bI_0 h
        refine r_ic (v := nI 0) C rfl (by decide) ?_
        exact q_iret C hQ rfl rfl rfl ⟨rfl, rfl, rfl, by show some (Value.int (nI 0)) = some (.int (bI _)); rw [h]; rfl, hC, fun _ _ => rfl⟩
      · have h := bI_1 h
        refine r_ic (v := nI 1) C rfl (by decide) ?_
        refine r_goto C 80 rfl (by decide) ?_
        exact q_iret C hQ rfl rfl rfl ⟨rfl, rfl, rfl, by show some (Value.int (nI 1)) = some (.int (bI _)); rw [h]; rfl, hC, fun _ _ => rfl⟩
    · refine r_tabIn C 81 rfl (by decide) (by decide) rfl (by decide) ?_
      refine r_aload C rfl rfl rfl ?_
      refine r_iload C rfl rfl ?_
      refine v1_r C rfl mfX8_isHollow lk_X11_258 (by assumption) (p_hollow hA ow aw (6 * l + c) rfl (by omega) h1 h2) ?_
      refine r_if_eq C 95 rfl (by decide) (fun h => ?_) (fun h => ?_)
      · have h := bI_0 h
        refine r_ic (v := nI 0) C rfl (by decide) ?_
        exact q_iret C hQ rfl rfl rfl ⟨rfl, rfl, rfl, by show some (Value.int (nI 0)) = some (.int (bI _)); rw [h]; rfl, hC, fun _ _ => rfl⟩
      · have h := bI_1 h
        refine r_ic (v := nI 1) C rfl (by decide) ?_
        refine r_goto C 96 rfl (by decide) ?_
        exact q_iret C hQ rfl rfl rfl ⟨rfl, rfl, rfl, by show some (Value.int (nI 1)) = some (.int (bI _)); rw [h]; rfl, hC, fun _ _ => rfl⟩
    · refine r_tabIn C 97 rfl (by decide) (by decide) rfl (by decide) ?_
      refine r_aload C rfl rfl rfl ?_
      refine r_iload C rfl rfl ?_
      refine v1_r C rfl mfX8_strength lk_X11_261 (by assumption) (p_strength hA hY ow aw (6 * l + c) rfl (by omega) h1 h2) ?_
      exact q_iret C hQ rfl rfl rfl ⟨rfl, rfl, rfl, rfl, hC, fun _ _ => rfl⟩
    · refine r_tabIn C 105 rfl (by decide) (by decide) rfl (by decide) ?_
      refine r_aload C rfl rfl rfl ?_
      refine r_iload C rfl rfl ?_
      refine v1_r C rfl mfX8_load lk_X11_264 (by assumption) (p_load hA ow aw (6 * l + c) rfl (by omega) h1 h2) ?_
      exact q_iret C hQ rfl rfl rfl ⟨rfl, rfl, rfl, rfl, hC, fun _ _ => rfl⟩
    · refine r_tabIn C 113 rfl (by decide) (by decide) rfl (by decide) ?_
      refine r_aload C rfl rfl rfl ?_
      refine r_iload C rfl rfl ?_
      refine v1_r C rfl mfX8_stiffness lk_X11_267 (by assumption) (p_stiff hA ow aw (6 * l + c) rfl (by omega) h1 h2) ?_
      exact q_iret C hQ rfl rfl rfl ⟨rfl, rfl, rfl, rfl, hC, fun _ _ => rfl⟩
theorem K_layer (hU : MU Sh N tx) (hV : VI b x) (hC : CI M x) (p q y : Int32) : Con E mX11_layer 20 8 48 [.ref 0, .int p, .int q, .int y] Sh N G M (PR Sh N (CQ M (layerA x p q y).2 (layerA x p q y).1 x)) (CX1 (layerA x p q y).1) := by
  have u0 := hU.1
  have hw4 := hV.1
  refine Con.ofQ (by decide +kernel) (by simp [Value.category]) (Nat.le_of_ble_eq_true rfl) (fun k C0 Q hQ => ?_)
  have C : CK k E mX11_layer kdX11_layer 20 8 48 := ⟨C0, kdX11_layer_ok⟩
  refine r_aload_n C 0 rfl rfl rfl rfl ?_
  refine r_iload_n C 1 rfl rfl rfl ?_
  refine r_iload_n C 2 rfl rfl rfl ?_
  refine v2_x C rfl mfX11_wallWithLayer lk_X11_206 (by assumption) (K_withLayer hU hV hC p q) (by omega) (by omega) (fun X h => q_thr C hQ (Or.inl ⟨by rw [layerA, if_pos (Or.inl h.2)], h.1⟩)) ?_
  rintro v M1 ⟨rfl, w, l, hw, hl, rfl, rfl, rfl⟩
  have hA := hU.2.2.2.2.2.2.2.2.1 w (by omega)
  obtain ⟨a0, a1, a2, a3, -, -⟩ := id hA
  have ow := hV.ow hw
  have aw := hC.2.2.2.2.2.1 w (by omega)
  have hm := ow.mn
  have hY := hC.2.2.2.2.1.2
  refine r_astore C rfl (by exact Nat.le_of_ble_eq_true rfl) rfl ?_
  refine r_iload_n C 3 rfl rfl rfl ?_
  cases hq : inI y 0 (nI 3) with
  | false =>
    refine r_tabOut C 83 rfl (inI_out (by decide) hq) (by decide) ?_
    exact r_nseW C hQ (Or.inl ⟨by rw [layerA, if_pos (Or.inr hq)], rfl⟩) (text := "no such trait of a layer") (n := 25) (by decide +kernel) rfl rfl rfl rfl rfl
  | true =>
    obtain ⟨n, -, hn, rfl⟩ := (inI_iff (a := 0) (by decide) (by decide)).mp hq
    have eC : isL x (nI w) (nI l) = true := (isL_iff hV).mpr ⟨w, l, hw, hl, rfl, rfl⟩
    have ea : layerA x (nI w) (nI l) (nI n) = (0, layerV x.ye (x.Rw w) l n) := by
      rw [layerA, if_neg (by rintro (z | z); rw [eC] at z; cases z; rw [show inI (nI n) 0 (nI 3) = true from hq] at z; cases z), nI_clamp (by omega), nI_clamp (by omega), nI_clamp (by omega)]
    rw [ea] at hQ
    have : n = 0 ∨ n = 1 ∨ n = 2 ∨ n = 3 := by omega
    rcases this with rfl | rfl | rfl | rfl
    · refine r_tabIn C 40 rfl (by decide) (by decide) rfl (by decide) ?_
      refine r_aload C rfl rfl rfl ?_
      refine r_iload_n C 2 rfl rfl rfl ?_
      refine v1_r C rfl mfX8_bears lk_X11_272 (by assumption) (p_lbears hA hY ow aw l rfl hl) ?_
      exact q_iret C hQ rfl rfl rfl ⟨rfl, rfl, rfl, rfl, hC, fun _ _ => rfl⟩
    · refine r_tabIn C 47 rfl (by decide) (by decide) rfl (by decide) ?_
      refine r_aload C rfl rfl rfl ?_
      refine r_iload_n C 2 rfl rfl rfl ?_
      refine v1_r C rfl mfX8_presses lk_X11_275 (by assumption) (p_presses hA ow aw l rfl hl) ?_
      exact q_iret C hQ rfl rfl rfl ⟨rfl, rfl, rfl, rfl, hC, fun _ _ => rfl⟩
    · refine r_tabIn C 54 rfl (by decide) (by decide) rfl (by decide) ?_
      refine r_aload C rfl rfl rfl ?_
      refine r_getv C rfl f_X11_278 (by assumption) rfl ?_
      refine r_iload_n C 2 rfl rfl rfl ?_
      refine r_iald C rfl (by assumption) (l) rfl (by omega) (by decide) ?_
      refine q_iret C hQ rfl rfl rfl ⟨rfl, rfl, rfl, ?_, hC, fun _ _ => rfl⟩
      have e := aw.2.1 l (by rw [← aw.mn]; exact hl)
      have e2 : wrow M1 (15 + 4 * w) (13 + l) = M1 (15 + 4 * w + 3) l := by
        simp only [wrow]
        rw [if_neg (by omega), if_pos (by omega), show 13 + l - 13 = l by omega]
      rw [e2] at e
      rw [e]
      rfl
    · refine r_tabIn C 62 rfl (by decide) (by decide) rfl (by decide) ?_
      refine r_aload C rfl rfl rfl ?_
      refine r_iload_n C 2 rfl rfl rfl ?_
      refine v1_r C rfl mfX8_presses lk_X11_275 (by assumption) (p_presses hA ow aw l rfl hl) ?_
      refine r_aload C rfl rfl rfl ?_
      refine r_iload_n C 2 rfl rfl rfl ?_
      refine v1_r C rfl mfX8_bears lk_X11_272 (by assumption) (p_lbears hA hY ow aw l rfl hl) ?_
      refine r_icmp_le C 81 rfl (by decide) (fun h => ?_) (fun h => ?_)
      · refine r_ic (v := nI 0) C rfl (by decide) ?_
        exact q_iret C hQ rfl rfl rfl ⟨rfl, rfl, rfl, by show some (Value.int (nI 0)) = some (.int (bI _)); rw [decide_eq_false (Int32.not_lt.mpr h)]; rfl, hC, fun _ _ => rfl⟩
      · refine r_ic (v := nI 1) C rfl (by decide) ?_
        refine r_goto C 82 rfl (by decide) ?_
        exact q_iret C hQ rfl rfl rfl ⟨rfl, rfl, rfl, by show some (Value.int (nI 1)) = some (.int (bI _)); rw [decide_eq_true (Int32.not_le.mp h)]; rfl, hC, fun _ _ => rfl⟩
end CPUB
