section MODEL1
/-- the reference's object: its fields, the cells behind it -/
def moFl (o : Nat) : List (Option Value) := [none, some (.ref (o + 1)), some (.ref (o + 2)), some (.ref (o + 3)), none, none, some (.ref (o + 4)), some (.ref (o + 5)), some (.ref (o + 6)), some (.ref (o + 7)), some (.ref (o + 8)), some (.ref (o + 9)), some (.ref (o + 10)), none, none, none, none, none, none, none, none, none, none, some (.ref (o + 11)), some (.ref (o + 12)), none, some (.ref (o + 13)), some (.ref (o + 14)), some (.ref (o + 15)), none, none, none, none, none, none, some (.ref (o + 16)), some (.ref (o + 17)), some (.ref (o + 18)), some (.ref (o + 19)), some (.ref (o + 20)), none, some (.ref (o + 21))]
def moLen : List (Nat × Nat) := [(0, 11700), (0, 144), (0, 144), (0, 6), (0, 60), (0, 60), (0, 60), (0, 2), (0, 4), (0, 700), (0, 5), (0, 5), (0, 6), (0, 6), (0, 6), (0, 12), (0, 12), (0, 12), (2, 4), (0, 4), (0, 4)]
/-- the world holds the reference's object at o -/
def MO (Sh : Nat → SE) (N o : Nat) : Prop := At Sh N o (.inr (12, moFl o)) ∧ ∀ i t n, moLen[i]? = some (t, n) → At Sh N (o + (i + 1)) (arE t n)
theorem MO.ar {Sh : Nat → SE} {N o : Nat} (h : MO Sh N o) (i : Nat) {t n : Nat} (hi : moLen[i]? = some (t, n)) : At Sh N (o + (i + 1)) (arE t n) := h.2 i t n hi
/-- the row r of the reference -/
def mrow (M : MM) (o r : Nat) : Row := fun j => M (o + 1) (325 * r + j)
def grn (M : MM) (o : Nat) : Int32 := nI 10 + nI 2 * M (o + 4) 2
def ful (M : MM) (o : Nat) : Int32 := nI 40 + nI 4 * M (o + 4) 0 + nI 6 * M (o + 4) 2
def shr (M : MM) (o : Nat) : Int32 := nI 3 * M (o + 4) 0 - M (o + 4) 1 - nI 2 * M (o + 4) 2
variable {E : VE} {Sh : Nat → SE} {N : Nat} {G : Bool} {M : MM} {o : Nat}
theorem c_X12_at {x y : Int32} (l c : Nat) (hx : x = nI l) (hy : y = nI c) : Con E mX12_at 1 0 0 [.int x, .int y] Sh N G M (P1 (some (.int (nI (6 * l + c)))) Sh N M) nox := by
  subst hx; subst hy
  refine Con.of (by decide +kernel) (by simp [Value.category]) (Nat.le_of_ble_eq_true rfl) (fun k C0 => ?_)
  have C : CK k E mX12_at kdX12_at 1 0 0 := ⟨C0, kdX12_at_ok⟩
  refine r_bi (v := nI 6) C rfl (by decide) ?_
  refine r_iload_n C 0 rfl rfl rfl ?_
  refine r_imul C rfl ?_
  refine r_iload_n C 1 rfl rfl rfl ?_
  refine r_iadd C rfl ?_
  refine r_iret C rfl rfl rfl ⟨?_, rfl, rfl, rfl⟩
  rw [pk_mul, nI_add]
theorem c_X12_of (hM : MO Sh N o) {x y : Int32} (r w : Nat) (hx : x = nI r) (hy : y = nI w) (hr : r < 36) (hw : w < 325) : Con E mX12_of 1 0 0 [.ref o, .int x, .int y] Sh N G M (P1 (some (.int (mrow M o r w))) Sh N M) nox := by
  subst hx; subst hy
  have h0 := hM.1
  have h1 := hM.ar 0 rfl
  refine Con.of (by decide +kernel) (by simp [Value.category]) (Nat.le_of_ble_eq_true rfl) (fun k C0 => ?_)
  have C : CK k E mX12_of kdX12_of 1 0 0 := ⟨C0, kdX12_of_ok⟩
  refine r_aload_n C 0 rfl rfl rfl rfl ?_
  refine r_getv C rfl f_X12_9 (by assumption) rfl ?_
  refine r_si (v := nI 325) C rfl (by decide) ?_
  refine r_iload_n C 1 rfl rfl rfl ?_
  refine r_imul C rfl ?_
  refine r_iload_n C 2 rfl rfl rfl ?_
  refine r_iadd C rfl ?_
  refine r_iald C rfl (by assumption) (325 * r + w) (by simp only [nI_add, pk_mul]) (by omega) (by decide) ?_
  exact r_iret C rfl rfl rfl ⟨rfl, rfl, rfl, rfl⟩
theorem c_X12_put (hM : MO Sh N o) {x y v : Int32} (r w : Nat) (hx : x = nI r) (hy : y = nI w) (hr : r < 36) (hw : w < 325) : Con E mX12_put 1 0 0 [.ref o, .int x, .int y, .int v] Sh N G M (P1 none Sh N (up M (o + 1) (325 * r + w) v)) nox := by
  subst hx; subst hy
  have h0 := hM.1
  have h1 := hM.ar 0 rfl
  refine Con.of (by decide +kernel) (by simp [Value.category]) (Nat.le_of_ble_eq_true rfl) (fun k C0 => ?_)
  have C : CK k E mX12_put kdX12_put 1 0 0 := ⟨C0, kdX12_put_ok⟩
  refine r_aload_n C 0 rfl rfl rfl rfl ?_
  refine r_getv C rfl f_X12_9 (by assumption) rfl ?_
  refine r_si (v := nI 325) C rfl (by decide) ?_
  refine r_iload_n C 1 rfl rfl rfl ?_
  refine r_imul C rfl ?_
  refine r_iload_n C 2 rfl rfl rfl ?_
  refine r_iadd C rfl ?_
  refine r_iload_n C 3 rfl rfl rfl ?_
  refine r_iast C rfl (by assumption) (325 * r + w) (by simp only [nI_add, pk_mul]) (by omega) (by decide) ?_
  exact r_vret C rfl rfl ⟨rfl, rfl, rfl, rfl⟩
theorem c_X12_full (hM : MO Sh N o) : Con E mX12_full 1 0 0 [.ref o] Sh N G M (P1 (some (.int (ful M o))) Sh N M) nox := by
  have h0 := hM.1
  have h1 := hM.ar 3 rfl
  refine Con.of (by decide +kernel) (by simp [Value.category]) (Nat.le_of_ble_eq_true rfl) (fun k C0 => ?_)
  have C : CK k E mX12_full kdX12_full 1 0 0 := ⟨C0, kdX12_full_ok⟩
  refine r_bi (v := nI 40) C rfl (by decide) ?_
  refine r_ic (v := nI 4) C rfl (by decide) ?_
  refine r_aload_n C 0 rfl rfl rfl rfl ?_
  refine r_getv C rfl f_X12_19 (by assumption) rfl ?_
  refine r_ic (v := nI 0) C rfl (by decide) ?_
  refine r_iald C rfl (by assumption) (0) rfl (by decide) (by decide) ?_
  refine r_imul C rfl ?_
  refine r_iadd C rfl ?_
  refine r_bi (v := nI 6) C rfl (by decide) ?_
  refine r_aload_n C 0 rfl rfl rfl rfl ?_
  refine r_getv C rfl f_X12_19 (by assumption) rfl ?_
  refine r_ic (v := nI 2) C rfl (by decide) ?_
  refine r_iald C rfl (by assumption) (2) rfl (by decide) (by decide) ?_
  refine r_imul C rfl ?_
  refine r_iadd C rfl ?_
  exact r_iret C rfl rfl rfl ⟨rfl, rfl, rfl, rfl⟩
theorem c_X12_green (hM : MO Sh N o) : Con E mX12_green 1 0 0 [.ref o] Sh N G M (P1 (some (.int (grn M o))) Sh N M) nox := by
  have h0 := hM.1
  have h1 := hM.ar 3 rfl
  refine Con.of (by decide +kernel) (by simp [Value.category]) (Nat.le_of_ble_eq_true rfl) (fun k C0 => ?_)
  have C : CK k E mX12_green kdX12_green 1 0 0 := ⟨C0, kdX12_green_ok⟩
  refine r_bi (v := nI 10) C rfl (by decide) ?_
  refine r_ic (v := nI 2) C rfl (by decide) ?_
  refine r_aload_n C 0 rfl rfl rfl rfl ?_
  refine r_getv C rfl f_X12_19 (by assumption) rfl ?_
  refine r_ic (v := nI 2) C rfl (by decide) ?_
  refine r_iald C rfl (by assumption) (2) rfl (by decide) (by decide) ?_
  refine r_imul C rfl ?_
  refine r_iadd C rfl ?_
  exact r_iret C rfl rfl rfl ⟨rfl, rfl, rfl, rfl⟩
theorem c_X12_shrink (hM : MO Sh N o) : Con E mX12_shrink 1 0 0 [.ref o] Sh N G M (P1 (some (.int (shr M o))) Sh N M) nox := by
  have h0 := hM.1
  have h1 := hM.ar 3 rfl
  refine Con.of (by decide +kernel) (by simp [Value.category]) (Nat.le_of_ble_eq_true rfl) (fun k C0 => ?_)
  have C : CK k E mX12_shrink kdX12_shrink 1 0 0 := ⟨C0, kdX12_shrink_ok⟩
  refine r_ic (v := nI 3) C rfl (by decide) ?_
  refine r_aload_n C 0 rfl rfl rfl rfl ?_
  refine r_getv C rfl f_X12_19 (by assumption) rfl ?_
  refine r_ic (v := nI 0) C rfl (by decide) ?_
  refine r_iald C rfl (by assumption) (0) rfl (by decide) (by decide) ?_
  refine r_imul C rfl ?_
  refine r_aload_n C 0 rfl rfl rfl rfl ?_
  refine r_getv C rfl f_X12_19 (by assumption) rfl ?_
  refine r_ic (v := nI 1) C rfl (by decide) ?_
  refine r_iald C rfl (by assumption) (1) rfl (by decide) (by decide) ?_
  refine r_isub C rfl ?_
  refine r_ic (v := nI 2) C rfl (by decide) ?_
  refine r_aload_n C 0 rfl rfl rfl rfl ?_
  refine r_getv C rfl f_X12_19 (by assumption) rfl ?_
  refine r_ic (v := nI 2) C rfl (by decide) ?_
  refine r_iald C rfl (by assumption) (2) rfl (by decide) (by decide) ?_
  refine r_imul C rfl ?_
  refine r_isub C rfl ?_
  exact r_iret C rfl rfl rfl ⟨rfl, rfl, rfl, rfl⟩
theorem c_X12_isIn (v a b : Int32) : Con E mX12_isIn 1 0 0 [.int v, .int a, .int b] Sh N G M (P1 (some (.int (if a ≤ v ∧ v ≤ b then 1 else 0))) Sh N M) nox := by
  refine Con.of (by decide +kernel) (by simp [Value.category]) (Nat.le_of_ble_eq_true rfl) (fun k C0 => ?_)
  have C : CK k E mX12_isIn kdX12_isIn 1 0 0 := ⟨C0, kdX12_isIn_ok⟩
  refine r_iload_n C 0 rfl rfl rfl ?_
  refine r_iload_n C 1 rfl rfl rfl ?_
  refine r_icmp_lt C 14 rfl (by decide) (fun h => ?_) (fun h => ?_)
  · refine r_ic (v := nI 0) C rfl (by decide) ?_
    exact r_iret C rfl rfl rfl ⟨by rw [if_neg (fun q => absurd h (Int32.not_lt.mpr q.1))]; rfl, rfl, rfl, rfl⟩
  refine r_iload_n C 0 rfl rfl rfl ?_
  refine r_iload_n C 2 rfl rfl rfl ?_
  refine r_icmp_gt C 14 rfl (by decide) (fun h2 => ?_) (fun h2 => ?_)
  · refine r_ic (v := nI 0) C rfl (by decide) ?_
    exact r_iret C rfl rfl rfl ⟨by rw [if_neg (fun q => absurd h2 (Int32.not_lt.mpr q.2))]; rfl, rfl, rfl, rfl⟩
  refine r_ic (v := nI 1) C rfl (by decide) ?_
  refine r_goto C 15 rfl (by decide) ?_
  exact r_iret C rfl rfl rfl ⟨by rw [if_pos ⟨Int32.not_lt.mp h, Int32.not_lt.mp h2⟩]; rfl, rfl, rfl, rfl⟩
theorem c_X12_isHollow (hM : MO Sh N o) {x y z : Int32} (r l c : Nat) (hx : x = nI r) (hy : y = nI l) (hz : z = nI c) (hr : r < 36) (hl : 6 * l + c < 144) : Con E mX12_isHollow 2 0 0 [.ref o, .int x, .int y, .int z] Sh N G M (P1 (some (.int (if mrow M o r (181 + (6 * l + c)) &&& nI 2 = nI 2 then 1 else 0))) Sh N M) nox := by
  subst hx; subst hy; subst hz
  have h0 := hM.1
  refine Con.of (by decide +kernel) (by simp [Value.category]) (Nat.le_of_ble_eq_true rfl) (fun k C0 => ?_)
  have C : CK k E mX12_isHollow kdX12_isHollow 2 0 0 := ⟨C0, kdX12_isHollow_ok⟩
  refine r_aload_n C 0 rfl rfl rfl rfl ?_
  refine r_iload_n C 1 rfl rfl rfl ?_
  refine r_si (v := nI 181) C rfl (by decide) ?_
  refine r_iload_n C 2 rfl rfl rfl ?_
  refine r_iload_n C 3 rfl rfl rfl ?_
  refine s2_r C rfl mfX12_at lk_X12_241 (c_X12_at l c rfl rfl) ?_
  refine r_iadd C rfl ?_
  refine v2_r C rfl mfX12_of lk_X12_238 (by assumption) (c_X12_of hM r (181 + (6 * l + c)) rfl (by rw [nI_add]) hr (by omega)) ?_
  refine r_ic (v := nI 2) C rfl (by decide) ?_
  refine r_iand C rfl ?_
  refine r_ic (v := nI 2) C rfl (by decide) ?_
  refine r_icmp_ne C 24 rfl (by decide) (fun h => ?_) (fun h => ?_)
  · refine r_ic (v := nI 0) C rfl (by decide) ?_
    exact r_iret C rfl rfl rfl ⟨by rw [if_neg h]; rfl, rfl, rfl, rfl⟩
  · refine r_ic (v := nI 1) C rfl (by decide) ?_
    refine r_goto C 25 rfl (by decide) ?_
    exact r_iret C rfl rfl rfl ⟨by rw [if_pos h]; rfl, rfl, rfl, rfl⟩
theorem c_X12_isCracked (hM : MO Sh N o) {x y z : Int32} (r l c : Nat) (hx : x = nI r) (hy : y = nI l) (hz : z = nI c) (hr : r < 36) (hl : 6 * l + c < 144) : Con E mX12_isCracked 2 0 0 [.ref o, .int x, .int y, .int z] Sh N G M (P1 (some (.int (if mrow M o r (181 + (6 * l + c)) &&& nI 1 = nI 1 then 1 else 0))) Sh N M) nox := by
  subst hx; subst hy; subst hz
  have h0 := hM.1
  refine Con.of (by decide +kernel) (by simp [Value.category]) (Nat.le_of_ble_eq_true rfl) (fun k C0 => ?_)
  have C : CK k E mX12_isCracked kdX12_isCracked 2 0 0 := ⟨C0, kdX12_isCracked_ok⟩
  refine r_aload_n C 0 rfl rfl rfl rfl ?_
  refine r_iload_n C 1 rfl rfl rfl ?_
  refine r_si (v := nI 181) C rfl (by decide) ?_
  refine r_iload_n C 2 rfl rfl rfl ?_
  refine r_iload_n C 3 rfl rfl rfl ?_
  refine s2_r C rfl mfX12_at lk_X12_241 (c_X12_at l c rfl rfl) ?_
  refine r_iadd C rfl ?_
  refine v2_r C rfl mfX12_of lk_X12_238 (by assumption) (c_X12_of hM r (181 + (6 * l + c)) rfl (by rw [nI_add]) hr (by omega)) ?_
  refine r_ic (v := nI 1) C rfl (by decide) ?_
  refine r_iand C rfl ?_
  refine r_ic (v := nI 1) C rfl (by decide) ?_
  refine r_icmp_ne C 24 rfl (by decide) (fun h => ?_) (fun h => ?_)
  · refine r_ic (v := nI 0) C rfl (by decide) ?_
    exact r_iret C rfl rfl rfl ⟨by rw [if_neg h]; rfl, rfl, rfl, rfl⟩
  · refine r_ic (v := nI 1) C rfl (by decide) ?_
    refine r_goto C 25 rfl (by decide) ?_
    exact r_iret C rfl rfl rfl ⟨by rw [if_pos h]; rfl, rfl, rfl, rfl⟩
end MODEL1
