section MODEL2
/-- the numbers with another row r -/
def mset (M : MM) (o r : Nat) (R : Row) : MM := fun a b => if a = o + 1 ∧ 325 * r ≤ b ∧ b < 325 * r + 325 then R (b - 325 * r) else M a b
theorem mset_row {M : MM} {o r w : Nat} {R : Row} (hw : w < 325) : mrow (mset M o r R) o r w = R w := by
  simp only [mrow, mset]
  rw [if_pos ⟨trivial, by omega, by omega⟩]
  congr 1; omega
theorem mset_else {M : MM} {o r s w : Nat} {R : Row} (hw : w < 325) (h : s ≠ r) : mrow (mset M o r R) o s w = mrow M o s w := by
  simp only [mrow, mset]
  rw [if_neg (fun q => ?_)]
  rcases Nat.lt_or_gt_of_ne h with h | h <;> omega
theorem mset_cell {M : MM} {o r a : Nat} {R : Row} (h : a ≠ o + 1) : mset M o r R a = M a := by funext b; simp [mset, h]
theorem mset_self (M : MM) (o r : Nat) : mset M o r (mrow M o r) = M := by
  funext a b
  simp only [mset, mrow]
  by_cases h : a = o + 1 ∧ 325 * r ≤ b ∧ b < 325 * r + 325
  · rw [if_pos h, h.1]
    congr 1; omega
  · rw [if_neg h]
theorem mset_mset (M : MM) (o r : Nat) (R R' : Row) : mset (mset M o r R) o r R' = mset M o r R' := by
  funext a b
  simp only [mset]
  by_cases h : a = o + 1 ∧ 325 * r ≤ b ∧ b < 325 * r + 325 <;> simp [h]
theorem mset_up (M : MM) (o r w : Nat) (R : Row) (v : Int32) (hw : w < 325) : up (mset M o r R) (o + 1) (325 * r + w) v = mset M o r (upd R w v) := by
  funext a b
  simp only [mset, up, upd]
  by_cases h : a = o + 1 ∧ 325 * r ≤ b ∧ b < 325 * r + 325
  · rw [if_pos h, if_pos h]
    by_cases e : b = 325 * r + w
    · rw [if_pos ⟨h.1, e⟩, if_pos (by omega)]
    · rw [if_neg (fun q => e q.2), if_neg (by omega)]
  · rw [if_neg h, if_neg h, if_neg (fun q => h ⟨q.1, by omega, by omega⟩)]
theorem mset_cong {M : MM} {o r : Nat} {R R' : Row} (h : ∀ w, w < 325 → R w = R' w) : mset M o r R = mset M o r R' := by
  funext a b
  simp only [mset]
  by_cases q : a = o + 1 ∧ 325 * r ≤ b ∧ b < 325 * r + 325
  · rw [if_pos q, if_pos q, h _ (by omega)]
  · rw [if_neg q, if_neg q]
theorem grn_mset (M : MM) (o r : Nat) (R : Row) : grn (mset M o r R) o = grn M o := by rw [grn, grn, mset_cell (by omega)]
theorem ful_mset (M : MM) (o r : Nat) (R : Row) : ful (mset M o r R) o = ful M o := by rw [ful, ful, mset_cell (by omega)]
theorem shr_mset (M : MM) (o r : Nat) (R : Row) : shr (mset M o r R) o = shr M o := by rw [shr, shr, mset_cell (by omega)]
/-- what a method owes that answers v, the numbers being M1 then -/
abbrev Q1 (k : MC) (E : VE) (Sh : Nat → SE) (N : Nat) (G : Bool) (M : MM) (v : Option Value) (M1 : MM) : State → Prop := QM k E 0 0 Sh N G M (P1 v Sh N M1) nox
variable {E : VE} {Sh : Nat → SE} {N : Nat} {G : Bool} {M : MM} {o r : Nat} {R : Row}
theorem s_of (hM : MO Sh N o) {x y : Int32} (w : Nat) (hx : x = nI r) (hy : y = nI w) (hr : r < 36) (hw : w < 325) : Con E mX12_of 1 0 0 [.ref o, .int x, .int y] Sh N G (mset M o r R) (P1 (some (.int (R w))) Sh N (mset M o r R)) nox := by
  have h := c_X12_of (E := E) (G := G) (M := mset M o r R) hM r w hx hy hr hw
  rw [mset_row hw] at h
  exact h
theorem s_put (hM : MO Sh N o) {x y v : Int32} (w : Nat) (hx : x = nI r) (hy : y = nI w) (hr : r < 36) (hw : w < 325) : Con E mX12_put 1 0 0 [.ref o, .int x, .int y, .int v] Sh N G (mset M o r R) (P1 none Sh N (mset M o r (upd R w v))) nox := by
  have h := c_X12_put (E := E) (G := G) (M := mset M o r R) (v := v) hM r w hx hy hr hw
  rw [mset_up M o r w R v hw] at h
  exact h
theorem s_isHollow (hM : MO Sh N o) {x y z : Int32} (l c : Nat) (hx : x = nI r) (hy : y = nI l) (hz : z = nI c) (hr : r < 36) (hl : 6 * l + c < 144) : Con E mX12_isHollow 2 0 0 [.ref o, .int x, .int y, .int z] Sh N G (mset M o r R) (P1 (some (.int (if R (181 + (6 * l + c)) &&& nI 2 = nI 2 then 1 else 0))) Sh N (mset M o r R)) nox := by
  have h := c_X12_isHollow (E := E) (G := G) (M := mset M o r R) hM r l c hx hy hz hr hl
  rw [mset_row (by omega)] at h
  exact h
theorem s_isCracked (hM : MO Sh N o) {x y z : Int32} (l c : Nat) (hx : x = nI r) (hy : y = nI l) (hz : z = nI c) (hr : r < 36) (hl : 6 * l + c < 144) : Con E mX12_isCracked 2 0 0 [.ref o, .int x, .int y, .int z] Sh N G (mset M o r R) (P1 (some (.int (if R (181 + (6 * l + c)) &&& nI 1 = nI 1 then 1 else 0))) Sh N (mset M o r R)) nox := by
  have h := c_X12_isCracked (E := E) (G := G) (M := mset M o r R) hM r l c hx hy hz hr hl
  rw [mset_row (by omega)] at h
  exact h
theorem s_green (hM : MO Sh N o) : Con E mX12_green 1 0 0 [.ref o] Sh N G (mset M o r R) (P1 (some (.int (grn M o))) Sh N (mset M o r R)) nox := by
  have h := c_X12_green (E := E) (G := G) (M := mset M o r R) hM
  rw [grn_mset] at h
  exact h
theorem s_full (hM : MO Sh N o) : Con E mX12_full 1 0 0 [.ref o] Sh N G (mset M o r R) (P1 (some (.int (ful M o))) Sh N (mset M o r R)) nox := by
  have h := c_X12_full (E := E) (G := G) (M := mset M o r R) hM
  rw [ful_mset] at h
  exact h
theorem s_shrink (hM : MO Sh N o) : Con E mX12_shrink 1 0 0 [.ref o] Sh N G (mset M o r R) (P1 (some (.int (shr M o))) Sh N (mset M o r R)) nox := by
  have h := c_X12_shrink (E := E) (G := G) (M := mset M o r R) hM
  rw [shr_mset] at h
  exact h
theorem z1 : (1 : Int32) = nI 1 := rfl
theorem z0 : (0 : Int32) = nI 0 := rfl
theorem if10 {c : Prop} [Decidable c] (h : (if c then (1 : Int32) else 0) = 0) : ¬ c := fun q => by rw [if_pos q] at h; exact absurd h (by decide)
theorem if11 {c : Prop} [Decidable c] (h : ¬ (if c then (1 : Int32) else 0) = 0) : c := Decidable.by_contra (fun q => h (by rw [if_neg q]))
theorem s_strength (hM : MO Sh N o) {x y z : Int32} (l c : Nat) (hx : x = nI r) (hy : y = nI l) (hz : z = nI c) (hr : r < 36) (hl : 6 * l + c < 144) : Con E mX12_strength 3 0 0 [.ref o, .int x, .int y, .int z] Sh N G (mset M o r R) (P1 (some (.int (strg (grn M o) (ful M o) R (6 * l + c)))) Sh N (mset M o r R)) nox := by
  subst hx; subst hy; subst hz
  have h0 := hM.1
  refine Con.of (by decide +kernel) (by simp [Value.category]) (Nat.le_of_ble_eq_true rfl) (fun k C0 => ?_)
  have C : CK k E mX12_strength kdX12_strength 3 0 0 := ⟨C0, kdX12_strength_ok⟩
  refine r_aload_n C 0 rfl rfl rfl rfl ?_
  refine r_iload_n C 1 rfl rfl rfl ?_
  refine r_iload_n C 2 rfl rfl rfl ?_
  refine r_iload_n C 3 rfl rfl rfl ?_
  refine v3_r C rfl mfX12_isHollow lk_X12_254 (by assumption) (s_isHollow hM l c rfl rfl rfl hr hl) ?_
  refine r_if_eq C 12 rfl (by decide) (fun h => ?_) (fun h => ?_)
  · have h := if10 h
    refine r_aload_n C 0 rfl rfl rfl rfl ?_
    refine v0_r C rfl mfX12_green lk_X12_235 (by assumption) (s_green hM) ?_
    refine r_aload_n C 0 rfl rfl rfl rfl ?_
    refine v0_r C rfl mfX12_full lk_X12_229 (by assumption) (s_full hM) ?_
    refine r_ic (v := nI 0) C rfl (by decide) ?_
    refine r_bi (v := nI 60) C rfl (by decide) ?_
    refine r_si (v := nI 180) C rfl (by decide) ?_
    refine r_aload_n C 0 rfl rfl rfl rfl ?_
    refine r_iload_n C 1 rfl rfl rfl ?_
    refine r_bi (v := nI 37) C rfl (by decide) ?_
    refine r_iload_n C 2 rfl rfl rfl ?_
    refine r_iload_n C 3 rfl rfl rfl ?_
    refine s2_r C rfl mfX12_at lk_X12_241 (c_X12_at l c rfl rfl) ?_
    refine r_iadd C rfl ?_
    refine v2_r C rfl mfX12_of lk_X12_238 (by assumption) (s_of hM (37 + (6 * l + c)) rfl (by rw [nI_add]) hr (by omega)) ?_
    refine r_isub C rfl ?_
    refine r_min C rfl lk_X12_130 ?_
    refine r_max C rfl lk_X12_257 ?_
    refine r_imul C rfl ?_
    refine r_bi (v := nI 60) C rfl (by decide) ?_
    refine r_idiv C rfl (by decide) ?_
    refine r_iadd C rfl ?_
    refine r_istore C rfl (by exact Nat.le_of_ble_eq_true rfl) ?_
    refine r_aload_n C 0 rfl rfl rfl rfl ?_
    refine r_iload_n C 1 rfl rfl rfl ?_
    refine r_iload_n C 2 rfl rfl rfl ?_
    refine r_iload_n C 3 rfl rfl rfl ?_
    refine v3_r C rfl mfX12_isCracked lk_X12_260 (by assumption) (s_isCracked hM l c rfl rfl rfl hr hl) ?_
    refine r_if_eq C 70 rfl (by decide) (fun h2 => ?_) (fun h2 => ?_)
    · refine r_iload C rfl rfl ?_
      exact r_iret C rfl rfl rfl ⟨by rw [strg, if_neg h, if_neg (if10 h2)]; rfl, rfl, rfl, rfl⟩
    · refine r_iload C rfl rfl ?_
      refine r_ic (v := nI 2) C rfl (by decide) ?_
      refine r_idiv C rfl (by decide) ?_
      refine r_goto C 72 rfl (by decide) ?_
      exact r_iret C rfl rfl rfl ⟨by rw [strg, if_neg h, if_pos (if11 h2)]; rfl, rfl, rfl, rfl⟩
  · refine r_ic (v := nI 0) C rfl (by decide) ?_
    exact r_iret C rfl rfl rfl ⟨by rw [strg, if_pos (if11 h)]; rfl, rfl, rfl, rfl⟩
theorem s_load (hM : MO Sh N o) {x y z : Int32} (l c : Nat) (hx : x = nI r) (hy : y = nI l) (hz : z = nI c) (hr : r < 36) (hl : 6 * l + c < 144) : Con E mX12_load 3 0 0 [.ref o, .int x, .int y, .int z] Sh N G (mset M o r R) (P1 (some (.int (lod R (6 * l + c)))) Sh N (mset M o r R)) nox := by
  subst hx; subst hy; subst hz
  have h0 := hM.1
  refine Con.of (by decide +kernel) (by simp [Value.category]) (Nat.le_of_ble_eq_true rfl) (fun k C0 => ?_)
  have C : CK k E mX12_load kdX12_load 3 0 0 := ⟨C0, kdX12_load_ok⟩
  refine r_aload_n C 0 rfl rfl rfl rfl ?_
  refine r_iload_n C 1 rfl rfl rfl ?_
  refine r_iload_n C 2 rfl rfl rfl ?_
  refine r_iload_n C 3 rfl rfl rfl ?_
  refine v3_r C rfl mfX12_isHollow lk_X12_254 (by assumption) (s_isHollow hM l c rfl rfl rfl hr hl) ?_
  refine r_if_eq C 14 rfl (by decide) (fun h => ?_) (fun h => ?_)
  · refine r_bi (v := nI 10) C rfl (by decide) ?_
    refine r_aload_n C 0 rfl rfl rfl rfl ?_
    refine r_iload_n C 1 rfl rfl rfl ?_
    refine r_bi (v := nI 37) C rfl (by decide) ?_
    refine r_iload_n C 2 rfl rfl rfl ?_
    refine r_iload_n C 3 rfl rfl rfl ?_
    refine s2_r C rfl mfX12_at lk_X12_241 (c_X12_at l c rfl rfl) ?_
    refine r_iadd C rfl ?_
    refine v2_r C rfl mfX12_of lk_X12_238 (by assumption) (s_of hM (37 + (6 * l + c)) rfl (by rw [nI_add]) hr (by omega)) ?_
    refine r_bi (v := nI 50) C rfl (by decide) ?_
    refine r_idiv C rfl (by decide) ?_
    refine r_iadd C rfl ?_
    exact r_iret C rfl rfl rfl ⟨by rw [lod, if_neg (if10 h)], rfl, rfl, rfl⟩
  · refine r_ic (v := nI 0) C rfl (by decide) ?_
    refine r_goto C 33 rfl (by decide) ?_
    exact r_iret C rfl rfl rfl ⟨by rw [lod, if_pos (if11 h)]; rfl, rfl, rfl, rfl⟩
theorem s_bears (hM : MO Sh N o) {x y : Int32} (dp mn l : Nat) (hW : WF R dp mn) (hx : x = nI r) (hy : y = nI l) (hr : r < 36) (hl : l < 24) : Con E mX12_bears 4 0 0 [.ref o, .int x, .int y] Sh N G (mset M o r R) (P1 (some (.int (bear (grn M o) (ful M o) R dp l))) Sh N (mset M o r R)) nox := by
  subst hx; subst hy
  obtain ⟨w0, w1, w2, w3, w4⟩ := hW
  have h0 := hM.1
  refine Con.of (by decide +kernel) (by simp [Value.category]) (Nat.le_of_ble_eq_true rfl) (fun k C0 => ?_)
  have C : CK k E mX12_bears kdX12_bears 4 0 0 := ⟨C0, kdX12_bears_ok⟩
  have loop : ∀ n c : Nat, c ≤ dp → dp - c < n → PT k E (Q1 k E Sh N G (mset M o r R) (some (.int (bear (grn M o) (ful M o) R dp l))) (mset M o r R)) 0 0 Sh N G (mset M o r R) 14 [some (.ref o), some (.int (nI r)), some (.int (nI l)), some (.int (R 7 * nI 50 + sm (fun c => strg (grn M o) (ful M o) R (6 * l + c)) c)), some (.int (nI c))] [] := by
    intro n
    induction n with
    | zero => intro c _ h; omega
    | succ n ih =>
      intro c hc hn
      refine r_iload C rfl rfl ?_
      refine r_aload_n C 0 rfl rfl rfl rfl ?_
      refine r_iload_n C 1 rfl rfl rfl ?_
      refine r_ic (v := nI 0) C rfl (by decide) ?_
      refine v2_r C rfl mfX12_of lk_X12_238 (by assumption) (s_of hM 0 rfl rfl hr (by decide)) ?_
      refine r_top (nI dp) w0 ?_
      refine r_icmp_ge C 42 rfl (by decide) (fun h => ?_) (fun h => ?_)
      · have h := le_nI (by omega) (by omega) h
        have e : c = dp := by omega
        subst e
        refine r_iload_n C 3 rfl rfl rfl ?_
        exact r_iret C rfl rfl rfl ⟨rfl, rfl, rfl, rfl⟩
      · have h := nle_nI (by omega) (by omega) h
        refine r_iload_n C 3 rfl rfl rfl ?_
        refine r_aload_n C 0 rfl rfl rfl rfl ?_
        refine r_iload_n C 1 rfl rfl rfl ?_
        refine r_iload_n C 2 rfl rfl rfl ?_
        refine r_iload C rfl rfl ?_
        refine v3_r C rfl mfX12_strength lk_X12_263 (by assumption) (s_strength hM l c rfl rfl rfl hr (by omega)) ?_
        refine r_iadd C rfl ?_
        refine r_istore_n C 3 rfl rfl (by exact Nat.le_of_ble_eq_true rfl) ?_
        refine r_iinc (c := nI 1) C rfl rfl (by decide) ?_
        refine r_goto C 14 rfl (by decide) ?_
        refine r_eqL ?_ (ih (c + 1) (by omega) (by omega))
        first | rfl | (simp only [sm, add3, nI_add, Int32.add_zero, Int32.zero_add]; rfl)
  refine r_aload_n C 0 rfl rfl rfl rfl ?_
  refine r_iload_n C 1 rfl rfl rfl ?_
  refine r_bi (v := nI 7) C rfl (by decide) ?_
  refine v2_r C rfl mfX12_of lk_X12_238 (by assumption) (s_of hM 7 rfl rfl hr (by decide)) ?_
  refine r_bi (v := nI 50) C rfl (by decide) ?_
  refine r_imul C rfl ?_
  refine r_istore_n C 3 rfl rfl (by exact Nat.le_of_ble_eq_true rfl) ?_
  refine r_ic (v := nI 0) C rfl (by decide) ?_
  refine r_istore C rfl (by exact Nat.le_of_ble_eq_true rfl) ?_
  refine r_eqL ?_ (loop (dp + 1) 0 (by omega) (by omega))
  first | rfl | (simp only [sm, add3, nI_add, Int32.add_zero, Int32.zero_add]; rfl)
end MODEL2
