section RPUBB
variable {E : VE} {Sh : Nat → SE} {N : Nat} {G : Bool} {M M' : MM} {o r w v yd b : Nat} {R : Row}
def cellV (g f : Int32) (R : Row) (p n : Nat) : Int32 := if n = 0 then R (37 + p) else if n = 1 then bI (decide (R (181 + p) &&& nI 1 = nI 1)) else if n = 2 then bI (decide (R (181 + p) &&& nI 2 = nI 2)) else if n = 3 then strg g f R p else if n = 4 then lod R p else if nI 180 ≤ R (37 + p) then nI 2 else if nI 120 < R (37 + p) then nI 1 else nI 0
/-- what 'cell' answers -/
def cellA (x : ST) (p q z y : Int32) : Nat × Int32 := if isC x p q z = false ∨ inI y 0 (nI 5) = false then (1, 0) else (0, cellV x.ye.g x.ye.f (x.Rw p.toNatClampNeg) (6 * q.toNatClampNeg + z.toNatClampNeg) y.toNatClampNeg)
/-- a method of one row's cells, by agreement -/
theorem m_cellC {md : MD} {d : Nat} {av : List Value} {v : Int32} (h : Con E md d 0 0 av Sh N G (mset M o r (mrow M o r)) (P1 (some (.int v)) Sh N (mset M o r (mrow M o r))) nox) : Con E md d 0 0 av Sh N G M (P1 (some (.int v)) Sh N M) nox := by
  rw [mset_self] at h
  exact h
theorem R_cell (hM : MO Sh N o) {x : ST} (hV : VI b x) (hR : RI M o x) (p q z y : Int32) : Con E mX12_cell 5 0 0 [.ref o, .int p, .int q, .int z, .int y] Sh N G M (PR Sh N (RQ M o (cellA x p q z y).2 (cellA x p q z y).1 x)) nox := by
  have h0 := hM.1
  have hw4 := hV.1
  refine Con.ofQ (by decide +kernel) (by simp [Value.category]) (Nat.le_of_ble_eq_true rfl) (fun k C0 Q hQ => ?_)
  have C : CK k E mX12_cell kdX12_cell 5 0 0 := ⟨C0, kdX12_cell_ok⟩
  refine r_aload_n C 0 rfl rfl rfl rfl ?_
  refine r_ic (v := nI 0) C rfl (by decide) ?_
  refine r_puti C rfl f_X12_90 (by assumption) rfl rfl rfl ?_
  obtain ⟨M1, hM1, hR1, c0, lo1⟩ := hR.c0' hV
  rw [← hM1]
  have fail : cellA x p q z y = (1, 0) → ∀ {v : Int32} {M2 : MM}, v = nI 0 → M2 = up M1 o 0 (nI 1) → RQ M o (cellA x p q z y).2 (cellA x p q z y).1 x (some (.int v)) M2 := by
    rintro ea v M2 rfl rfl
    exact ⟨by rw [ea]; rfl, by rw [ea, up_same], hR1.c0 hV _, fun k hk => by rw [up_row _ _ (by omega)]; exact lo1 k hk⟩
  refine r_aload_n C 0 rfl rfl rfl rfl ?_
  refine r_iload_n C 1 rfl rfl rfl ?_
  refine r_iload_n C 2 rfl rfl rfl ?_
  refine r_iload_n C 3 rfl rfl rfl ?_
  refine v3_r C rfl mfX12_isCell lk_X12_279 (by assumption) (R_isCell hM hV hR1 p q z) ?_
  refine r_if_ne C 21 rfl (by decide) (fun h => ?_) (fun h => ?_)
  rotate_left
  · refine r_aload_n C 0 rfl rfl rfl rfl ?_
    refine r_ic (v := nI 1) C rfl (by decide) ?_
    refine v1_r C rfl mfX12_fail lk_X12_208 (by assumption) (c_fail hM (nI 1)) ?_
    exact q_iret C hQ rfl rfl rfl ⟨rfl, rfl, fail (by rw [cellA, if_pos (Or.inl (bI_0 h))]) rfl rfl⟩
  have h := bI_1 h
  obtain ⟨w, l, c, hw, hl, hc, rfl, rfl, rfl⟩ := (isC_iff hV).mp h
  have aw := hR1.1.2.2 w hw
  have ow := hV.ow hw
  have hm := ow.mn
  have hd := ow.dp
  have hYR := hR1.1.2.1
  have e6a : (6 * l + c) / 6 = l := by omega
  have e6b : (6 * l + c) % 6 = c := by omega
  have hcl := aw.2.2 (6 * l + c) (by rw [← aw.mn, e6a]; exact hl) (by rw [← aw.dp, e6b]; exact hc)
  have yes : ∀ n : Nat, n < 6 → y = nI n → cellA x (nI w) (nI l) (nI c) y = (0, cellV x.ye.g x.ye.f (x.Rw w) (6 * l + c) n) := by
    rintro n hn rfl
    have hi : inI (nI n) 0 (nI 5) = true := (inI_iff (a := 0) (by decide) (by decide)).mpr ⟨n, by omega, by omega, rfl⟩
    rw [cellA, if_neg (by rintro (q | q); rw [h] at q; cases q; rw [hi] at q; cases q), nI_clamp (by omega), nI_clamp (by omega), nI_clamp (by omega), nI_clamp (by omega)]
  refine r_aload_n C 0 rfl rfl rfl rfl ?_
  refine r_iload_n C 1 rfl rfl rfl ?_
  refine r_bi (v := nI 37) C rfl (by decide) ?_
  refine r_iload_n C 2 rfl rfl rfl ?_
  refine r_iload_n C 3 rfl rfl rfl ?_
  refine s2_r C rfl mfX12_at lk_X12_241 (c_X12_at l c rfl rfl) ?_
  refine r_iadd C rfl ?_
  rw [nI_add]
  refine v2_r C rfl mfX12_of lk_X12_238 (by assumption) (c_X12_of hM w (37 + (6 * l + c)) rfl rfl (by omega) (by omega)) ?_
  refine r_istore C rfl (by exact Nat.le_of_ble_eq_true rfl) ?_
  refine r_iload C rfl rfl ?_
  rw [hcl.1]
  by_cases e0 : y = nI 0
  · rw [yes 0 (by omega) e0] at hQ
    subst e0
    refine r_tabIn C 76 rfl (by decide) (by decide) rfl (by decide) ?_
    refine r_iload C rfl rfl ?_
    exact q_iret C hQ rfl rfl rfl ⟨rfl, rfl, rfl, c0, hR1, lo1⟩
  by_cases e1 : y = nI 1
  · rw [yes 1 (by omega) e1] at hQ
    subst e1
    refine r_tabIn C 79 rfl (by decide) (by decide) rfl (by decide) ?_
    refine r_aload_n C 0 rfl rfl rfl rfl ?_
    refine r_iload_n C 1 rfl rfl rfl ?_
    refine r_iload_n C 2 rfl rfl rfl ?_
    refine r_iload_n C 3 rfl rfl rfl ?_
    refine v3_r C rfl mfX12_isCracked lk_X12_260 (by assumption) (c_X12_isCracked hM w l c rfl rfl rfl (by omega) (by omega)) ?_
    rw [hcl.2, bI_if]
    refine r_if_eq C 93 rfl (by decide) (fun q => ?_) (fun q => ?_)
    · refine r_ic (v := nI 0) C rfl (by decide) ?_
      exact q_iret C hQ rfl rfl rfl ⟨rfl, rfl, by rw [cellV, if_neg (by decide), if_pos rfl, bI_0 q]; rfl, c0, hR1, lo1⟩
    · refine r_ic (v := nI 1) C rfl (by decide) ?_
      refine r_goto C 94 rfl (by decide) ?_
      exact q_iret C hQ rfl rfl rfl ⟨rfl, rfl, by rw [cellV, if_neg (by decide), if_pos rfl, bI_1 q]; rfl, c0, hR1, lo1⟩
  by_cases e2 : y = nI 2
  · rw [yes 2 (by omega) e2] at hQ
    subst e2
    refine r_tabIn C 95 rfl (by decide) (by decide) rfl (by decide) ?_
    refine r_aload_n C 0 rfl rfl rfl rfl ?_
    refine r_iload_n C 1 rfl rfl rfl ?_
    refine r_iload_n C 2 rfl rfl rfl ?_
    refine r_iload_n C 3 rfl rfl rfl ?_
    refine v3_r C rfl mfX12_isHollow lk_X12_254 (by assumption) (c_X12_isHollow hM w l c rfl rfl rfl (by omega) (by omega)) ?_
    rw [hcl.2, bI_if]
    refine r_if_eq C 109 rfl (by decide) (fun q => ?_) (fun q => ?_)
    · refine r_ic (v := nI 0) C rfl (by decide) ?_
      exact q_iret C hQ rfl rfl rfl ⟨rfl, rfl, by rw [cellV, if_neg (by decide), if_neg (by decide), if_pos rfl, bI_0 q]; rfl, c0, hR1, lo1⟩
    · refine r_ic (v := nI 1) C rfl (by decide) ?_
      refine r_goto C 110 rfl (by decide) ?_
      exact q_iret C hQ rfl rfl rfl ⟨rfl, rfl, by rw [cellV, if_neg (by decide), if_neg (by decide), if_pos rfl, bI_1 q]; rfl, c0, hR1, lo1⟩
  by_cases e3 : y = nI 3
  · rw [yes 3 (by omega) e3] at hQ
    subst e3
    refine r_tabIn C 111 rfl (by decide) (by decide) rfl (by decide) ?_
    refine r_aload_n C 0 rfl rfl rfl rfl ?_
    refine r_iload_n C 1 rfl rfl rfl ?_
    refine r_iload_n C 2 rfl rfl rfl ?_
    refine r_iload_n C 3 rfl rfl rfl ?_
    refine v3_r C rfl mfX12_strength lk_X12_263 (by assumption) (m_cellC (s_strength hM l c rfl rfl rfl (by omega) (by omega))) ?_
    rw [hYR.1, hYR.2.1, strg_at hcl.1 hcl.2]
    exact q_iret C hQ rfl rfl rfl ⟨rfl, rfl, rfl, c0, hR1, lo1⟩
  by_cases e4 : y = nI 4
  · rw [yes 4 (by omega) e4] at hQ
    subst e4
    refine r_tabIn C 119 rfl (by decide) (by decide) rfl (by decide) ?_
    refine r_aload_n C 0 rfl rfl rfl rfl ?_
    refine r_iload_n C 1 rfl rfl rfl ?_
    refine r_iload_n C 2 rfl rfl rfl ?_
    refine r_iload_n C 3 rfl rfl rfl ?_
    refine v3_r C rfl mfX12_load lk_X12_267 (by assumption) (m_cellC (s_load hM l c rfl rfl rfl (by omega) (by omega))) ?_
    rw [lod_at hcl.1 hcl.2]
    exact q_iret C hQ rfl rfl rfl ⟨rfl, rfl, rfl, c0, hR1, lo1⟩
  by_cases e5 : y = nI 5
  · rw [yes 5 (by omega) e5] at hQ
    subst e5
    refine r_tabIn C 127 rfl (by decide) (by decide) rfl (by decide) ?_
    have ev : cellV x.ye.g x.ye.f (x.Rw w) (6 * l + c) 5 = if nI 180 ≤ x.Rw w (37 + (6 * l + c)) then nI 2 else if nI 120 < x.Rw w (37 + (6 * l + c)) then nI 1 else nI 0 := rfl
    rw [ev] at hQ
    refine r_iload C rfl rfl ?_
    refine r_si (v := nI 180) C rfl (by decide) ?_
    refine r_icmp_lt C 139 rfl (by decide) (fun q => ?_) (fun q => ?_)
    · refine r_iload C rfl rfl ?_
      refine r_bi (v := nI 120) C rfl (by decide) ?_
      refine r_icmp_le C 150 rfl (by decide) (fun q2 => ?_) (fun q2 => ?_)
      · refine r_ic (v := nI 0) C rfl (by decide) ?_
        exact q_iret C hQ rfl rfl rfl ⟨rfl, rfl, by show _ = some (Value.int (if _ then _ else _)); rw [if_neg (Int32.not_le.mpr q), if_neg (Int32.not_lt.mpr q2)], c0, hR1, lo1⟩
      · refine r_ic (v := nI 1) C rfl (by decide) ?_
        refine r_goto C 151 rfl (by decide) ?_
        exact q_iret C hQ rfl rfl rfl ⟨rfl, rfl, by show _ = some (Value.int (if _ then _ else _)); rw [if_neg (Int32.not_le.mpr q), if_pos (Int32.not_le.mp q2)], c0, hR1, lo1⟩
    · refine r_ic (v := nI 2) C rfl (by decide) ?_
      refine r_goto C 151 rfl (by decide) ?_
      exact q_iret C hQ rfl rfl rfl ⟨rfl, rfl, by show _ = some (Value.int (if _ then _ else _)); rw [if_pos (Int32.not_lt.mp q)], c0, hR1, lo1⟩
  have hno : inI y 0 (nI 5) = false := by
    cases hy : inI y 0 (nI 5) with
    | false => rfl
    | true =>
      obtain ⟨n, -, hn, rfl⟩ := (inI_iff (a := 0) (by decide) (by decide)).mp hy
      rcases (show n = 0 ∨ n = 1 ∨ n = 2 ∨ n = 3 ∨ n = 4 ∨ n = 5 by omega) with q | q | q | q | q | q <;> subst q <;> contradiction
  refine r_tabOut C 152 rfl ?_ (by decide) ?_
  · by_cases q : y.toInt < 0
    · exact Or.inl q
    · right
      refine Int.not_le.mp (fun q2 => ?_)
      have hyes : inI y 0 (nI 5) = true := (inI_iff (a := 0) (n := 5) (by decide) (by decide)).mpr ⟨y.toInt.toNat, by omega, by omega, (nI_tn (by omega)).symm⟩
      rw [hyes] at hno
      cases hno
  refine r_aload_n C 0 rfl rfl rfl rfl ?_
  refine r_ic (v := nI 1) C rfl (by decide) ?_
  refine v1_r C rfl mfX12_fail lk_X12_208 (by assumption) (c_fail hM (nI 1)) ?_
  exact q_iret C hQ rfl rfl rfl ⟨rfl, rfl, fail (by rw [cellA, if_pos (Or.inr hno)]) rfl rfl⟩
def layerV (Y : YD) (R : Row) (l n : Nat) : Int32 := if n = 0 then bear Y.g Y.f R (dpo R) l else if n = 1 then prs R (dpo R) l (mno R - 1 - l) else if n = 2 then R (13 + l) else bI (decide (bear Y.g Y.f R (dpo R) l < prs R (dpo R) l (mno R - 1 - l)))
/-- what 'layer' answers -/
def layerA (x : ST) (p q y : Int32) : Nat × Int32 := if isL x p q = false ∨ inI y 0 (nI 3) = false then (1, 0) else (0, layerV x.ye (x.Rw p.toNatClampNeg) q.toNatClampNeg y.toNatClampNeg)
theorem R_layer (hM : MO Sh N o) {x : ST} (hV : VI b x) (hR : RI M o x) (p q y : Int32) : Con E mX12_layer 6 0 0 [.ref o, .int p, .int q, .int y] Sh N G M (PR Sh N (RQ M o (layerA x p q y).2 (layerA x p q y).1 x)) nox := by
  have h0 := hM.1
  have hw4 := hV.1
  refine Con.ofQ (by decide +kernel) (by simp [Value.category]) (Nat.le_of_ble_eq_true rfl) (fun k C0 Q hQ => ?_)
  have C : CK k E mX12_layer kdX12_layer 6 0 0 := ⟨C0, kdX12_layer_ok⟩
  refine r_aload_n C 0 rfl rfl rfl rfl ?_
  refine r_ic (v := nI 0) C rfl (by decide) ?_
  refine r_puti C rfl f_X12_90 (by assumption) rfl rfl rfl ?_
  obtain ⟨M1, hM1, hR1, c0, lo1⟩ := hR.c0' hV
  rw [← hM1]
  have fail : layerA x p q y = (1, 0) → ∀ {v : Int32} {M2 : MM}, v = nI 0 → M2 = up M1 o 0 (nI 1) → RQ M o (layerA x p q y).2 (layerA x p q y).1 x (some (.int v)) M2 := by
    rintro ea v M2 rfl rfl
    exact ⟨by rw [ea]; rfl, by rw [ea, up_same], hR1.c0 hV _, fun k hk => by rw [up_row _ _ (by omega)]; exact lo1 k hk⟩
  refine r_aload_n C 0 rfl rfl rfl rfl ?_
  refine r_iload_n C 1 rfl rfl rfl ?_
  refine r_iload_n C 2 rfl rfl rfl ?_
  refine v2_r C rfl mfX12_isLayer lk_X12_250 (by assumption) (R_isLayer hM hV hR1 p q) ?_
  refine r_if_ne C 20 rfl (by decide) (fun h => ?_) (fun h => ?_)
  rotate_left
  · refine r_aload_n C 0 rfl rfl rfl rfl ?_
    refine r_ic (v := nI 1) C rfl (by decide) ?_
    refine v1_r C rfl mfX12_fail lk_X12_208 (by assumption) (c_fail hM (nI 1)) ?_
    exact q_iret C hQ rfl rfl rfl ⟨rfl, rfl, fail (by rw [layerA, if_pos (Or.inl (bI_0 h))]) rfl rfl⟩
  have h := bI_1 h
  obtain ⟨w, l, hw, hl, rfl, rfl⟩ := (isL_iff hV).mp h
  have aw := hR1.1.2.2 w hw
  have ow := hV.ow hw
  have oX := ow.ag aw.symm
  have hm := ow.mn
  have hd := ow.dp
  have hYR := hR1.1.2.1
  have eb : bear (grn M1 o) (ful M1 o) (mrow M1 o w) (dpo (mrow M1 o w)) l = bear x.ye.g x.ye.f (x.Rw w) (dpo (x.Rw w)) l := by
    rw [hYR.1, hYR.2.1, ag_bear aw (by rw [← aw.mn]; exact hl) oX.dp.2, ← aw.dp]
  have ep : prs (mrow M1 o w) (dpo (mrow M1 o w)) l (mno (mrow M1 o w) - 1 - l) = prs (x.Rw w) (dpo (x.Rw w)) l (mno (x.Rw w) - 1 - l) := by
    rw [ag_prs aw (by rw [← aw.mn]; omega) oX.dp.2, ← aw.dp, ← aw.mn]
  have hl' : l < mno (mrow M1 o w) := by rw [← aw.mn]; exact hl
  have yes : ∀ n : Nat, n < 4 → y = nI n → layerA x (nI w) (nI l) y = (0, layerV x.ye (x.Rw w) l n) := by
    rintro n hn rfl
    have hi : inI (nI n) 0 (nI 3) = true := (inI_iff (a := 0) (by decide) (by decide)).mpr ⟨n, by omega, by omega, rfl⟩
    rw [layerA, if_neg (by rintro (q | q); rw [h] at q; cases q; rw [hi] at q; cases q), nI_clamp (by omega), nI_clamp (by omega), nI_clamp (by omega)]
  refine r_iload_n C 3 rfl rfl rfl ?_
  by_cases e0 : y = nI 0
  · rw [yes 0 (by omega) e0] at hQ
    subst e0
    refine r_tabIn C 52 rfl (by decide) (by decide) rfl (by decide) ?_
    refine r_aload_n C 0 rfl rfl rfl rfl ?_
    refine r_iload_n C 1 rfl rfl rfl ?_
    refine r_iload_n C 2 rfl rfl rfl ?_
    refine v2_r C rfl mfX12_bears lk_X12_273 (by assumption) (m_cellC (s_bears hM (dpo (mrow M1 o w)) (mno (mrow M1 o w)) l oX.wf rfl rfl (by omega) (by omega))) ?_
    rw [eb]
    exact q_iret C hQ rfl rfl rfl ⟨rfl, rfl, rfl, c0, hR1, lo1⟩
  by_cases e1 : y = nI 1
  · rw [yes 1 (by omega) e1] at hQ
    subst e1
    refine r_tabIn C 59 rfl (by decide) (by decide) rfl (by decide) ?_
    refine r_aload_n C 0 rfl rfl rfl rfl ?_
    refine r_iload_n C 1 rfl rfl rfl ?_
    refine r_iload_n C 2 rfl rfl rfl ?_
    refine v2_r C rfl mfX12_presses lk_X12_270 (by assumption) (m_cellC (s_presses hM (dpo (mrow M1 o w)) (mno (mrow M1 o w)) l oX.wf rfl rfl (by omega) hl')) ?_
    rw [ep]
    exact q_iret C hQ rfl rfl rfl ⟨rfl, rfl, rfl, c0, hR1, lo1⟩
  by_cases e2 : y = nI 2
  · rw [yes 2 (by omega) e2] at hQ
    subst e2
    refine r_tabIn C 66 rfl (by decide) (by decide) rfl (by decide) ?_
    refine r_aload_n C 0 rfl rfl rfl rfl ?_
    refine r_iload_n C 1 rfl rfl rfl ?_
    refine r_bi (v := nI 13) C rfl (by decide) ?_
    refine r_iload_n C 2 rfl rfl rfl ?_
    refine r_iadd C rfl ?_
    rw [nI_add]
    refine v2_r C rfl mfX12_of lk_X12_238 (by assumption) (c_X12_of hM w (13 + l) rfl rfl (by omega) (by omega)) ?_
    rw [aw.2.1 l hl']
    exact q_iret C hQ rfl rfl rfl ⟨rfl, rfl, rfl, c0, hR1, lo1⟩
  by_cases e3 : y = nI 3
  · rw [yes 3 (by omega) e3] at hQ
    subst e3
    refine r_tabIn C 76 rfl (by decide) (by decide) rfl (by decide) ?_
    refine r_aload_n C 0 rfl rfl rfl rfl ?_
    refine r_iload_n C 1 rfl rfl rfl ?_
    refine r_iload_n C 2 rfl rfl rfl ?_
    refine v2_r C rfl mfX12_sits lk_X12_276 (by assumption) (m_cellC (s_sits hM (dpo (mrow M1 o w)) (mno (mrow M1 o w)) l oX.wf rfl rfl (by omega) hl')) ?_
    rw [eb, ep, bI_if]
    have ev : layerV x.ye (x.Rw w) l 3 = bI (decide (bear x.ye.g x.ye.f (x.Rw w) (dpo (x.Rw w)) l < prs (x.Rw w) (dpo (x.Rw w)) l (mno (x.Rw w) - 1 - l))) := rfl
    rw [ev] at hQ
    refine r_if_eq C 89 rfl (by decide) (fun q => ?_) (fun q => ?_)
    · refine r_ic (v := nI 0) C rfl (by decide) ?_
      exact q_iret C hQ rfl rfl rfl ⟨rfl, rfl, by rw [bI_0 q]; rfl, c0, hR1, lo1⟩
    · refine r_ic (v := nI 1) C rfl (by decide) ?_
      refine r_goto C 90 rfl (by decide) ?_
      exact q_iret C hQ rfl rfl rfl ⟨rfl, rfl, by rw [bI_1 q]; rfl, c0, hR1, lo1⟩
  have hno : inI y 0 (nI 3) = false := by
    cases hy : inI y 0 (nI 3) with
    | false => rfl
    | true =>
      obtain ⟨n, -, hn, rfl⟩ := (inI_iff (a := 0) (by decide) (by decide)).mp hy
      rcases (show n = 0 ∨ n = 1 ∨ n = 2 ∨ n = 3 by omega) with q | q | q | q <;> subst q <;> contradiction
  refine r_tabOut C 91 rfl ?_ (by decide) ?_
  · by_cases q : y.toInt < 0
    · exact Or.inl q
    · right
      refine Int.not_le.mp (fun q2 => ?_)
      have hyes : inI y 0 (nI 3) = true := (inI_iff (a := 0) (n := 3) (by decide) (by decide)).mpr ⟨y.toInt.toNat, by omega, by omega, (nI_tn (by omega)).symm⟩
      rw [hyes] at hno
      cases hno
  refine r_aload_n C 0 rfl rfl rfl rfl ?_
  refine r_ic (v := nI 1) C rfl (by decide) ?_
  refine v1_r C rfl mfX12_fail lk_X12_208 (by assumption) (c_fail hM (nI 1)) ?_
  exact q_iret C hQ rfl rfl rfl ⟨rfl, rfl, fail (by rw [layerA, if_pos (Or.inr hno)]) rfl rfl⟩
/-- what 'lift' answers: which is thrown, the number, the state behind it -/
def liftA (x : ST) (p q : Int32) : Nat × Int32 × ST := if isW p x.wn = false then (1, 0, x) else if inI q (nI 1) (nI 9) = false ∨ 24 < mno (x.Rw p.toNatClampNeg) + q.toNatClampNeg then (0, -1, x.ups 1) else (0, nI (mno (x.Rw p.toNatClampNeg) + q.toNatClampNeg), x.row p.toNatClampNeg (rsR q.toNatClampNeg (x.Rw p.toNatClampNeg)))
theorem R_lift (hM : MO Sh N o) {x : ST} (hV : VI b x) (hR : RI M o x) (p q : Int32) : Con E mX12_lift 3 0 0 [.ref o, .int p, .int q] Sh N G M (PR Sh N (RQ M o (liftA x p q).2.1 (liftA x p q).1 (liftA x p q).2.2)) nox := by
  have h0 := hM.1
  have hw4 := hV.1
  have h9 : At Sh N (o + 9) (arE 0 4) := hM.ar 8 rfl
  refine Con.ofQ (by decide +kernel) (by simp [Value.category]) (Nat.le_of_ble_eq_true rfl) (fun k C0 Q hQ => ?_)
  have C : CK k E mX12_lift kdX12_lift 3 0 0 := ⟨C0, kdX12_lift_ok⟩
  refine r_aload_n C 0 rfl rfl rfl rfl ?_
  refine r_ic (v := nI 0) C rfl (by decide) ?_
  refine r_puti C rfl f_X12_90 (by assumption) rfl rfl rfl ?_
  obtain ⟨M1, hM1, hR1, c0, lo1⟩ := hR.c0' hV
  rw [← hM1]
  refine r_aload_n C 0 rfl rfl rfl rfl ?_
  refine r_iload_n C 1 rfl rfl rfl ?_
  refine v1_r C rfl mfX12_isWall lk_X12_244 (by assumption) (c_isWall hM hR1.1.1 p) ?_
  refine r_if_ne C 19 rfl (by decide) (fun h => ?_) (fun h => ?_)
  rotate_left
  · have h := bI_0 h
    have ea : liftA x p q = (1, 0, x) := by rw [liftA, if_pos h]
    refine r_aload_n C 0 rfl rfl rfl rfl ?_
    refine r_ic (v := nI 1) C rfl (by decide) ?_
    refine v1_r C rfl mfX12_fail lk_X12_208 (by assumption) (c_fail hM (nI 1)) ?_
    exact q_iret C hQ rfl rfl rfl ⟨rfl, rfl, by rw [ea]; rfl, by rw [ea, up_same], by rw [ea]; exact hR1.c0 hV _, fun k hk => by rw [up_row _ _ (by omega)]; exact lo1 k hk⟩
  have h := bI_1 h
  obtain ⟨w, hw, rfl⟩ := (isW_iff (by omega)).mp h
  have aw := hR1.1.2.2 w hw
  have ow := hV.ow hw
  have hm := ow.mn
  have no : (inI q (nI 1) (nI 9) = false ∨ 24 < mno (x.Rw w) + q.toNatClampNeg) → PT k E Q 0 0 Sh N G M1 42 [some (.ref o), some (.int (nI w)), some (.int q)] [] := by
    intro hn
    have ea : liftA x (nI w) q = (0, -1, x.ups 1) := by rw [liftA, if_neg (by rw [h]; decide), nI_clamp (by omega), if_pos hn]
    refine r_aload_n C 0 rfl rfl rfl rfl ?_
    refine r_getv C rfl f_X12_34 (by assumption) rfl ?_
    refine r_ic (v := nI 1) C rfl (by decide) ?_
    refine r_dup2 C rfl rfl rfl ?_
    refine r_iald C rfl (by assumption) (1) rfl (by omega) (by decide) ?_
    rw [hR1.2.2.1 1 (by decide)]
    refine r_ic (v := nI 1) C rfl (by decide) ?_
    refine r_iadd C rfl ?_
    refine r_iast C rfl (by assumption) (1) rfl (by omega) (by decide) ?_
    refine r_ic (v := (-1)) C rfl (by decide) ?_
    exact q_iret C hQ rfl rfl rfl ⟨rfl, rfl, by rw [ea], by rw [up_row _ _ (by omega), ea]; exact c0, by rw [ea]; exact hR1.ups hV 1 (by decide) _ rfl, fun k hk => by rw [up_row _ _ (by omega)]; exact lo1 k hk⟩
  refine r_iload_n C 2 rfl rfl rfl ?_
  refine r_ic (v := nI 1) C rfl (by decide) ?_
  refine r_bi (v := nI 9) C rfl (by decide) ?_
  refine s3_r C rfl mfX12_isIn lk_X12_96 (c_X12_isIn q (nI 1) (nI 9)) ?_
  rw [inI_if]
  refine r_if_eq C 42 rfl (by decide) (fun h2 => no (Or.inl (bI_0 h2))) (fun h2 => ?_)
  have h2 := bI_1 h2
  obtain ⟨n, hn1, hn9, rfl⟩ := (inI_iff (by decide) (by decide)).mp h2
  refine r_aload_n C 0 rfl rfl rfl rfl ?_
  refine r_iload_n C 1 rfl rfl rfl ?_
  refine r_ic (v := nI 1) C rfl (by decide) ?_
  refine v2_r C rfl mfX12_of lk_X12_238 (by assumption) (m_of hM 1 rfl rfl (by omega) (by decide) aw) ?_
  rw [ow.wf.2.2.2.1]
  refine r_iload_n C 2 rfl rfl rfl ?_
  refine r_iadd C rfl ?_
  rw [nI_add]
  refine r_bi (v := nI 24) C rfl (by decide) ?_
  refine r_icmp_le C 54 rfl (by decide) (fun h3 => ?_) (fun h3 => no (Or.inr ?_))
  rotate_left
  · rw [nI_clamp (by omega)]
    exact nle_nI (by omega) (by omega) h3
  have h3 := le_nI (by omega) (by omega) h3
  have ea : liftA x (nI w) (nI n) = (0, nI (mno (x.Rw w) + n), x.row w (rsR n (x.Rw w))) := by rw [liftA, if_neg (by rw [h]; decide), nI_clamp (by omega), nI_clamp (by omega), if_neg (by rintro (z | z); rw [h2] at z; cases z; omega)]
  rw [ea] at hQ
  refine r_aload_n C 0 rfl rfl rfl rfl ?_
  refine r_iload_n C 1 rfl rfl rfl ?_
  refine r_iload_n C 2 rfl rfl rfl ?_
  refine v2_g C rfl mfX12_raise lk_X12_282 (by assumption) (m_raise hM n rfl rfl (by omega) ow h3 aw) ?_
  rintro z M2 ⟨rfl, a2, hFr2⟩
  have oR := ok_rs ow h3
  refine r_aload_n C 0 rfl rfl rfl rfl ?_
  refine r_iload_n C 1 rfl rfl rfl ?_
  refine r_ic (v := nI 1) C rfl (by decide) ?_
  refine v2_r C rfl mfX12_of lk_X12_238 (by assumption) (m_of hM 1 rfl rfl (by omega) (by decide) a2) ?_
  rw [oR.wf.2.2.2.1, rs_mn ow h3]
  have f2 := FRM.of hFr2 (fun q => q)
  exact q_iret C hQ rfl rfl rfl ⟨rfl, rfl, rfl, by rw [f2.2.2 0 (fun q => q)]; exact c0, hR1.row hV hw f2 (fun _ q => q.elim) (fun r q => Or.inr q) (fun _ q => q.elim) a2, fun k hk => by rw [f2.low (fun _ q => q.elim) k hk]; exact lo1 k hk⟩
theorem m_cut (hM : MO Sh N o) {x y : Int32} (l : Nat) (hx : x = nI r) (hy : y = nI l) (hr : r < 36) (hO : OK b R) (hl : l ≤ mno R) (a : Ag (mrow M o r) R) : Con E mX12_cut 2 0 0 [.ref o, .int x, .int y] Sh N G M (PR Sh N (fun v M' => v = none ∧ Ag (mrow M' o r) (cutR (dpo R) (mno R) l R) ∧ FrR o (fun _ => False) (fun x => x = r) M M')) nox := by
  have hX := hO.ag a.symm
  have hl' : l ≤ mno (mrow M o r) := by rw [← a.mn]; exact hl
  have h := s_cut (E := E) (G := G) hM (M := M) (R := mrow M o r) (dpo (mrow M o r)) (mno (mrow M o r)) l hX.wf hx hy hr hl'
  rw [mset_self] at h
  refine Con.post h ?_
  rintro v Sh' N' M1 ⟨rfl, rfl, rfl, hM1⟩
  refine ⟨rfl, rfl, rfl, ?_, by rw [hM1]; exact mset_fr _ _ _ _⟩
  rw [hM1, a.dp, a.mn]
  exact (mrow_ag _ _ _ _ (by rw [(ok_cut hX hl').2.1]; have := hO.mn; omega)).trans (ag_cu a hX hl')
/-- what 'down' answers -/
def downA (x : ST) (p : Int32) : Nat × Int32 × ST := if isW p x.wn = false then (1, 0, x) else if mno (x.Rw p.toNatClampNeg) = 0 then (0, -1, x) else (0, nI (mno (x.Rw p.toNatClampNeg) - 1), x.row p.toNatClampNeg (cutR (dpo (x.Rw p.toNatClampNeg)) (mno (x.Rw p.toNatClampNeg)) (mno (x.Rw p.toNatClampNeg) - 1) (x.Rw p.toNatClampNeg)))
theorem R_down (hM : MO Sh N o) {x : ST} (hV : VI b x) (hR : RI M o x) (p : Int32) : Con E mX12_down 3 0 0 [.ref o, .int p] Sh N G M (PR Sh N (RQ M o (downA x p).2.1 (downA x p).1 (downA x p).2.2)) nox := by
  have h0 := hM.1
  have hw4 := hV.1
  refine Con.ofQ (by decide +kernel) (by simp [Value.category]) (Nat.le_of_ble_eq_true rfl) (fun k C0 Q hQ => ?_)
  have C : CK k E mX12_down kdX12_down 3 0 0 := ⟨C0, kdX12_down_ok⟩
  refine r_aload_n C 0 rfl rfl rfl rfl ?_
  refine r_ic (v := nI 0) C rfl (by decide) ?_
  refine r_puti C rfl f_X12_90 (by assumption) rfl rfl rfl ?_
  obtain ⟨M1, hM1, hR1, c0, lo1⟩ := hR.c0' hV
  rw [← hM1]
  refine r_aload_n C 0 rfl rfl rfl rfl ?_
  refine r_iload_n C 1 rfl rfl rfl ?_
  refine v1_r C rfl mfX12_isWall lk_X12_244 (by assumption) (c_isWall hM hR1.1.1 p) ?_
  refine r_if_ne C 19 rfl (by decide) (fun h => ?_) (fun h => ?_)
  rotate_left
  · have h := bI_0 h
    have ea : downA x p = (1, 0, x) := by rw [downA, if_pos h]
    refine r_aload_n C 0 rfl rfl rfl rfl ?_
    refine r_ic (v := nI 1) C rfl (by decide) ?_
    refine v1_r C rfl mfX12_fail lk_X12_208 (by assumption) (c_fail hM (nI 1)) ?_
    exact q_iret C hQ rfl rfl rfl ⟨rfl, rfl, by rw [ea]; rfl, by rw [ea, up_same], by rw [ea]; exact hR1.c0 hV _, fun k hk => by rw [up_row _ _ (by omega)]; exact lo1 k hk⟩
  have h := bI_1 h
  obtain ⟨w, hw, rfl⟩ := (isW_iff (by omega)).mp h
  have aw := hR1.1.2.2 w hw
  have ow := hV.ow hw
  have hm := ow.mn
  refine r_aload_n C 0 rfl rfl rfl rfl ?_
  refine r_iload_n C 1 rfl rfl rfl ?_
  refine r_ic (v := nI 1) C rfl (by decide) ?_
  refine v2_r C rfl mfX12_of lk_X12_238 (by assumption) (m_of hM 1 rfl rfl (by omega) (by decide) aw) ?_
  rw [ow.wf.2.2.2.1]
  refine r_if_ne C 30 rfl (by decide) (fun h2 => ?_) (fun h2 => ?_)
  rotate_left
  · have h2 : mno (x.Rw w) = 0 := (nI_eq (b := 0) (by omega) (by decide)).mp h2
    have ea : downA x (nI w) = (0, -1, x) := by rw [downA, if_neg (by rw [h]; decide), nI_clamp (by omega), if_pos h2]
    refine r_ic (v := (-1)) C rfl (by decide) ?_
    exact q_iret C hQ rfl rfl rfl ⟨rfl, rfl, by rw [ea], by rw [ea]; exact c0, by rw [ea]; exact hR1, lo1⟩
  have h2 : mno (x.Rw w) ≠ 0 := fun z => h2 (by rw [z]; rfl)
  have ea : downA x (nI w) = (0, nI (mno (x.Rw w) - 1), x.row w (cutR (dpo (x.Rw w)) (mno (x.Rw w)) (mno (x.Rw w) - 1) (x.Rw w))) := by rw [downA, if_neg (by rw [h]; decide), nI_clamp (by omega), if_neg h2]
  rw [ea] at hQ
  refine r_aload_n C 0 rfl rfl rfl rfl ?_
  refine r_iload_n C 1 rfl rfl rfl ?_
  refine r_aload_n C 0 rfl rfl rfl rfl ?_
  refine r_iload_n C 1 rfl rfl rfl ?_
  refine r_ic (v := nI 1) C rfl (by decide) ?_
  refine v2_r C rfl mfX12_of lk_X12_238 (by assumption) (m_of hM 1 rfl rfl (by omega) (by decide) aw) ?_
  rw [ow.wf.2.2.2.1]
  refine r_ic (v := nI 1) C rfl (by decide) ?_
  refine r_isub C rfl ?_
  rw [pk_sub (a := mno (x.Rw w)) (b := 1) (by omega)]
  refine v2_g C rfl mfX12_cut lk_X12_285 (by assumption) (m_cut hM (mno (x.Rw w) - 1) rfl rfl (by omega) ow (by omega) aw) ?_
  rintro z M2 ⟨rfl, a2, hFr2⟩
  obtain ⟨oR, om, od⟩ := ok_cut ow (show mno (x.Rw w) - 1 ≤ mno (x.Rw w) by omega)
  refine r_aload_n C 0 rfl rfl rfl rfl ?_
  refine r_iload_n C 1 rfl rfl rfl ?_
  refine r_ic (v := nI 1) C rfl (by decide) ?_
  refine v2_r C rfl mfX12_of lk_X12_238 (by assumption) (m_of hM 1 rfl rfl (by omega) (by decide) a2) ?_
  rw [oR.wf.2.2.2.1, om]
  have f2 := FRM.of hFr2 (fun q => q)
  exact q_iret C hQ rfl rfl rfl ⟨rfl, rfl, rfl, by rw [f2.2.2 0 (fun q => q)]; exact c0, hR1.row hV hw f2 (fun _ q => q.elim) (fun r q => Or.inr q) (fun _ q => q.elim) a2, fun k hk => by rw [f2.low (fun _ q => q.elim) k hk]; exact lo1 k hk⟩
/-- what 'hollow' does -/
def hollowA (x : ST) (p q z : Int32) : Nat × ST := if isC x p q z = false then (1, x) else (0, x.row p.toNatClampNeg (upd (x.Rw p.toNatClampNeg) (181 + (6 * q.toNatClampNeg + z.toNatClampNeg)) (x.Rw p.toNatClampNeg (181 + (6 * q.toNatClampNeg + z.toNatClampNeg)) ||| nI 2)))
theorem R_hollow (hM : MO Sh N o) {x : ST} (hV : VI b x) (hR : RI M o x) (p q z : Int32) : Con E mX12_hollow 5 0 0 [.ref o, .int p, .int q, .int z] Sh N G M (PR Sh N (RQv M o (hollowA x p q z).1 (hollowA x p q z).2)) nox := by
  have h0 := hM.1
  have hw4 := hV.1
  refine Con.ofQ (by decide +kernel) (by simp [Value.category]) (Nat.le_of_ble_eq_true rfl) (fun k C0 Q hQ => ?_)
  have C : CK k E mX12_hollow kdX12_hollow 5 0 0 := ⟨C0, kdX12_hollow_ok⟩
  refine r_aload_n C 0 rfl rfl rfl rfl ?_
  refine r_ic (v := nI 0) C rfl (by decide) ?_
  refine r_puti C rfl f_X12_90 (by assumption) rfl rfl rfl ?_
  obtain ⟨M1, hM1, hR1, c0, lo1⟩ := hR.c0' hV
  rw [← hM1]
  refine r_aload_n C 0 rfl rfl rfl rfl ?_
  refine r_iload_n C 1 rfl rfl rfl ?_
  refine r_iload_n C 2 rfl rfl rfl ?_
  refine r_iload_n C 3 rfl rfl rfl ?_
  refine v3_r C rfl mfX12_isCell lk_X12_279 (by assumption) (R_isCell hM hV hR1 p q z) ?_
  refine r_if_ne C 21 rfl (by decide) (fun h => ?_) (fun h => ?_)
  rotate_left
  · have ea : hollowA x p q z = (1, x) := by rw [hollowA, if_pos (bI_0 h)]
    refine r_aload_n C 0 rfl rfl rfl rfl ?_
    refine r_ic (v := nI 1) C rfl (by decide) ?_
    refine r_puti C rfl f_X12_90 (by assumption) rfl rfl rfl ?_
    exact q_vret C hQ rfl rfl ⟨rfl, rfl, rfl, by rw [ea, up_same], by rw [ea]; exact hR1.c0 hV _, fun k hk => by rw [up_row _ _ (by omega)]; exact lo1 k hk⟩
  have h := bI_1 h
  obtain ⟨w, l, c, hw, hl, hc, rfl, rfl, rfl⟩ := (isC_iff hV).mp h
  have aw := hR1.1.2.2 w hw
  have ow := hV.ow hw
  have hm := ow.mn
  have hd := ow.dp
  have hcl := aw.2.2 (6 * l + c) (by rw [← aw.mn]; omega) (by rw [← aw.dp]; omega)
  have ea : hollowA x (nI w) (nI l) (nI c) = (0, x.row w (upd (x.Rw w) (181 + (6 * l + c)) (x.Rw w (181 + (6 * l + c)) ||| nI 2))) := by
    rw [hollowA, if_neg (by rw [h]; decide), nI_clamp (by omega), nI_clamp (by omega), nI_clamp (by omega)]
  rw [ea] at hQ
  refine r_aload_n C 0 rfl rfl rfl rfl ?_
  refine r_iload_n C 1 rfl rfl rfl ?_
  refine r_si (v := nI 181) C rfl (by decide) ?_
  refine r_iload_n C 2 rfl rfl rfl ?_
  refine r_iload_n C 3 rfl rfl rfl ?_
  refine s2_r C rfl mfX12_at lk_X12_241 (c_X12_at l c rfl rfl) ?_
  refine r_iadd C rfl ?_
  rw [nI_add]
  refine r_aload_n C 0 rfl rfl rfl rfl ?_
  refine r_iload_n C 1 rfl rfl rfl ?_
  refine r_si (v := nI 181) C rfl (by decide) ?_
  refine r_iload_n C 2 rfl rfl rfl ?_
  refine r_iload_n C 3 rfl rfl rfl ?_
  refine s2_r C rfl mfX12_at lk_X12_241 (c_X12_at l c rfl rfl) ?_
  refine r_iadd C rfl ?_
  rw [nI_add]
  refine v2_r C rfl mfX12_of lk_X12_238 (by assumption) (c_X12_of hM w (181 + (6 * l + c)) rfl rfl (by omega) (by omega)) ?_
  rw [hcl.2]
  have hp := s_put (E := E) (G := G) (Sh := Sh) (N := N) hM (M := M1) (R := mrow M1 o w) (v := x.Rw w (181 + (6 * l + c)) ||| nI 2) (181 + (6 * l + c)) (x := nI w) (y := nI (181 + (6 * l + c))) rfl rfl (by omega) (by omega)
  rw [mset_self] at hp
  refine r_ic (v := nI 2) C rfl (by decide) ?_
  refine r_ior C rfl ?_
  refine v3_v C rfl mfX12_put lk_X12_175 (by assumption) (hp) ?_
  have f2 := FRM.of (mset_fr M1 o w (upd (mrow M1 o w) (181 + (6 * l + c)) (x.Rw w (181 + (6 * l + c)) ||| nI 2))) (fun q => q)
  refine q_vret C hQ rfl rfl ⟨rfl, rfl, rfl, by rw [f2.2.2 0 (fun q => q)]; exact c0, hR1.row hV hw f2 (fun _ q => q.elim) (fun r q => Or.inr q) (fun _ q => q.elim) ?_, fun k hk => by rw [f2.low (fun _ q => q.elim) k hk]; exact lo1 k hk⟩
  exact (mrow_ag _ _ _ _ (by rw [upd_mn _ _ (by omega), ← aw.mn]; exact hm)).trans (ag_up aw _ (by omega) (by omega))
end RPUBB
