section MODEL4
variable {E : VE} {Sh : Nat → SE} {N : Nat} {G : Bool} {M : MM} {o r : Nat} {R : Row}
theorem c_X12_copy (hM : MO Sh N o) {x y : Int32} (f t : Nat) (hx : x = nI f) (hy : y = nI t) (hf : f < 36) (ht : t < 36) : Con E mX12_copy 1 0 0 [.ref o, .int x, .int y] Sh N G M (P1 none Sh N (mset M o t (mrow M o f))) nox := by
  subst hx; subst hy
  have h0 := hM.1
  have h1 := hM.ar 0 rfl
  refine Con.of (by decide +kernel) (by simp [Value.category]) (Nat.le_of_ble_eq_true rfl) (fun k C0 => ?_)
  have C : CK k E mX12_copy kdX12_copy 1 0 0 := ⟨C0, kdX12_copy_ok⟩
  have loop : ∀ n i : Nat, i ≤ 325 → 325 - i < n → PT k E (Q1 k E Sh N G M none (mset M o t (mrow M o f))) 0 0 Sh N G (mset M o t (fun j => if j < i then mrow M o f j else mrow M o t j)) 2 [some (.ref o), some (.int (nI f)), some (.int (nI t)), some (.int (nI i))] [] := by
    intro n
    induction n with
    | zero => intro i _ h; omega
    | succ n ih =>
      intro i hi hn
      refine r_iload_n C 3 rfl rfl rfl ?_
      refine r_si (v := nI 325) C rfl (by decide) ?_
      refine r_icmp_ge C 39 rfl (by decide) (fun h => ?_) (fun h => ?_)
      · have h := le_nI (by omega) (by omega) h
        refine r_vret C rfl rfl ⟨rfl, rfl, rfl, mset_cong (fun w hw => ?_)⟩
        rw [if_pos (by omega)]
      · have h := nle_nI (by omega) (by omega) h
        refine r_aload_n C 0 rfl rfl rfl rfl ?_
        refine r_getv C rfl f_X12_9 (by assumption) rfl ?_
        refine r_si (v := nI 325) C rfl (by decide) ?_
        refine r_iload_n C 2 rfl rfl rfl ?_
        refine r_imul C rfl ?_
        refine r_iload_n C 3 rfl rfl rfl ?_
        refine r_iadd C rfl ?_
        refine r_aload_n C 0 rfl rfl rfl rfl ?_
        refine r_getv C rfl f_X12_9 (by assumption) rfl ?_
        refine r_si (v := nI 325) C rfl (by decide) ?_
        refine r_iload_n C 1 rfl rfl rfl ?_
        refine r_imul C rfl ?_
        refine r_iload_n C 3 rfl rfl rfl ?_
        refine r_iadd C rfl ?_
        refine r_iald C rfl (by assumption) (325 * f + i) (by simp only [nI_add, pk_mul]) (by omega) (by decide) ?_
        refine r_iast C rfl (by assumption) (325 * t + i) (by simp only [nI_add, pk_mul]) (by omega) (by decide) ?_
        refine r_iinc (c := nI 1) C rfl rfl (by decide) ?_
        refine r_goto C 2 rfl (by decide) ?_
        have e : mset M o t (fun j => if j < i then mrow M o f j else mrow M o t j) (o + 1) (325 * f + i) = mrow M o f i := by
          by_cases q : f = t
          · subst q
            exact (mset_row (M := M) (o := o) (r := f) h).trans (by rw [if_neg (Nat.lt_irrefl i)])
          · exact mset_else (M := M) (o := o) h q
        rw [e, mset_up _ _ _ _ _ _ h]
        refine r_eqM (mset_cong (fun w hw => ?_)) (r_eqL ?_ (ih (i + 1) (by omega) (by omega)))
        · simp only [upd]
          by_cases q : w = i
          · rw [if_pos q, if_pos (by omega), q]
          · rw [if_neg q]
            by_cases q2 : w < i
            · rw [if_pos q2, if_pos (by omega)]
            · rw [if_neg q2, if_neg (by omega)]
        · first | rfl | (simp only [sm, add3, nI_add, Int32.add_zero, Int32.zero_add]; rfl)
  refine r_ic (v := nI 0) C rfl (by decide) ?_
  refine r_istore_n C 3 rfl rfl (by exact Nat.le_of_ble_eq_true rfl) ?_
  refine r_eqM ?_ (loop 326 0 (by omega) (by omega))
  conv => lhs; rw [← mset_self M o t]
  exact mset_cong (fun w _ => by rw [if_neg (Nat.not_lt_zero w)])
theorem s_waterIn (hM : MO Sh N o) {x : Int32} (dp mn : Nat) (hW : WF R dp mn) (hx : x = nI r) (hr : r < 36) : Con E mX12_waterIn 2 0 0 [.ref o, .int x] Sh N G (mset M o r R) (P1 (some (.int (wat R dp 0 mn))) Sh N (mset M o r R)) nox := by
  subst hx
  obtain ⟨w0, w1, w2, w3, w4⟩ := hW
  have h0 := hM.1
  refine Con.of (by decide +kernel) (by simp [Value.category]) (Nat.le_of_ble_eq_true rfl) (fun k C0 => ?_)
  have C : CK k E mX12_waterIn kdX12_waterIn 2 0 0 := ⟨C0, kdX12_waterIn_ok⟩
  have inner : ∀ (i : Nat), i < mn → (∀ z : Int32, z = wat R dp 0 (i + 1) → PT k E (Q1 k E Sh N G (mset M o r R) (some (.int (wat R dp 0 mn))) (mset M o r R)) 0 0 Sh N G (mset M o r R) 51 [some (.ref o), some (.int (nI r)), some (.int z), some (.int (nI i)), some (.int (nI dp))] []) → ∀ n c : Nat, c ≤ dp → dp - c < n → PT k E (Q1 k E Sh N G (mset M o r R) (some (.int (wat R dp 0 mn))) (mset M o r R)) 0 0 Sh N G (mset M o r R) 17 [some (.ref o), some (.int (nI r)), some (.int (wat R dp 0 i + sm (fun c => R (37 + (6 * i + c))) c)), some (.int (nI i)), some (.int (nI c))] [] := by
    intro i hi kk n
    induction n with
    | zero => intro c _ h; omega
    | succ n ih =>
      intro c hc hn
      refine r_iload C rfl rfl ?_
      refine r_aload_n C 0 rfl rfl rfl rfl ?_
      refine r_iload_n C 1 rfl rfl rfl ?_
      refine r_ic (v := nI 0) C rfl (by decide) ?_
      refine v2_r C rfl mfX12_of lk_X12_238 (by assumption) (s_of hM 0 rfl rfl hr (by decide)) ?_
      refine r_top (nI dp) w0 ?_
      refine r_icmp_ge C 51 rfl (by decide) (fun h => ?_) (fun h => ?_)
      · have h := le_nI (by omega) (by omega) h
        have e : c = dp := by omega
        subst e
        exact kk _ (by simp only [wat, sm, Nat.zero_add])
      · have h := nle_nI (by omega) (by omega) h
        refine r_iload_n C 2 rfl rfl rfl ?_
        refine r_aload_n C 0 rfl rfl rfl rfl ?_
        refine r_iload_n C 1 rfl rfl rfl ?_
        refine r_bi (v := nI 37) C rfl (by decide) ?_
        refine r_iload_n C 3 rfl rfl rfl ?_
        refine r_iload C rfl rfl ?_
        refine s2_r C rfl mfX12_at lk_X12_241 (c_X12_at i c rfl rfl) ?_
        refine r_iadd C rfl ?_
        refine v2_r C rfl mfX12_of lk_X12_238 (by assumption) (s_of hM (37 + (6 * i + c)) rfl (by rw [nI_add]) hr (by omega)) ?_
        refine r_iadd C rfl ?_
        refine r_istore_n C 2 rfl rfl (by exact Nat.le_of_ble_eq_true rfl) ?_
        refine r_iinc (c := nI 1) C rfl rfl (by decide) ?_
        refine r_goto C 17 rfl (by decide) ?_
        refine r_eqL ?_ (ih (c + 1) (by omega) (by omega))
        first | rfl | (simp only [sm, add3, nI_add, Int32.add_zero, Int32.zero_add]; rfl)
  have loop : ∀ n i : Nat, i ≤ mn → mn - i < n → ∀ v : Option Value, PT k E (Q1 k E Sh N G (mset M o r R) (some (.int (wat R dp 0 mn))) (mset M o r R)) 0 0 Sh N G (mset M o r R) 4 [some (.ref o), some (.int (nI r)), some (.int (wat R dp 0 i)), some (.int (nI i)), v] [] := by
    intro n
    induction n with
    | zero => intro i _ h; omega
    | succ n ih =>
      intro i hi hn v
      refine r_iload_n C 3 rfl rfl rfl ?_
      refine r_aload_n C 0 rfl rfl rfl rfl ?_
      refine r_iload_n C 1 rfl rfl rfl ?_
      refine r_ic (v := nI 1) C rfl (by decide) ?_
      refine v2_r C rfl mfX12_of lk_X12_238 (by assumption) (s_of hM 1 rfl rfl hr (by decide)) ?_
      refine r_top (nI mn) w3 ?_
      refine r_icmp_ge C 57 rfl (by decide) (fun h => ?_) (fun h => ?_)
      · have h := le_nI (by omega) (by omega) h
        have e : i = mn := by omega
        subst e
        refine r_iload_n C 2 rfl rfl rfl ?_
        exact r_iret C rfl rfl rfl ⟨rfl, rfl, rfl, rfl⟩
      · have h := nle_nI (by omega) (by omega) h
        refine r_ic (v := nI 0) C rfl (by decide) ?_
        refine r_istore C rfl (by exact Nat.le_of_ble_eq_true rfl) ?_
        refine r_eqL ?_ (inner i h (fun z hz => ?_) (dp + 1) 0 (by omega) (by omega))
        · first | rfl | (simp only [sm, add3, nI_add, Int32.add_zero, Int32.zero_add]; rfl)
        · subst hz
          refine r_iinc (c := nI 1) C rfl rfl (by decide) ?_
          refine r_goto C 4 rfl (by decide) ?_
          refine r_eqL ?_ (ih (i + 1) (by omega) (by omega) (some (.int (nI dp))))
          first | rfl | (simp only [sm, add3, nI_add, Int32.add_zero, Int32.zero_add]; rfl)
  refine r_ic (v := nI 0) C rfl (by decide) ?_
  refine r_istore_n C 2 rfl rfl (by exact Nat.le_of_ble_eq_true rfl) ?_
  refine r_ic (v := nI 0) C rfl (by decide) ?_
  refine r_istore_n C 3 rfl rfl (by exact Nat.le_of_ble_eq_true rfl) ?_
  exact loop (mn + 1) 0 (by omega) (by omega) none
theorem s_wet (hM : MO Sh N o) {x y z v : Int32} (l c : Nat) (hx : x = nI r) (hy : y = nI l) (hz : z = nI c) (hr : r < 36) (hl : 6 * l + c < 144) : Con E mX12_wet 2 0 0 [.ref o, .int x, .int y, .int z, .int v] Sh N G (mset M o r R) (P1 none Sh N (mset M o r (wetS (6 * l + c) v R))) nox := by
  subst hx; subst hy; subst hz
  have h0 := hM.1
  refine Con.of (by decide +kernel) (by simp [Value.category]) (Nat.le_of_ble_eq_true rfl) (fun k C0 => ?_)
  have C : CK k E mX12_wet kdX12_wet 2 0 0 := ⟨C0, kdX12_wet_ok⟩
  refine r_bi (v := nI 37) C rfl (by decide) ?_
  refine r_iload_n C 2 rfl rfl rfl ?_
  refine r_iload_n C 3 rfl rfl rfl ?_
  refine s2_r C rfl mfX12_at lk_X12_241 (c_X12_at l c rfl rfl) ?_
  refine r_iadd C rfl ?_
  refine r_top (nI (37 + (6 * l + c))) (by rw [nI_add]) ?_
  refine r_istore C rfl (by exact Nat.le_of_ble_eq_true rfl) ?_
  refine r_iload C rfl rfl ?_
  refine r_si (v := nI 400) C rfl (by decide) ?_
  refine r_aload_n C 0 rfl rfl rfl rfl ?_
  refine r_iload_n C 1 rfl rfl rfl ?_
  refine r_iload C rfl rfl ?_
  refine v2_r C rfl mfX12_of lk_X12_238 (by assumption) (s_of hM (37 + (6 * l + c)) rfl rfl hr (by omega)) ?_
  refine r_isub C rfl ?_
  refine r_min C rfl lk_X12_130 ?_
  refine r_istore C rfl (by exact Nat.le_of_ble_eq_true rfl) ?_
  refine r_aload_n C 0 rfl rfl rfl rfl ?_
  refine r_iload_n C 1 rfl rfl rfl ?_
  refine r_iload C rfl rfl ?_
  refine r_aload_n C 0 rfl rfl rfl rfl ?_
  refine r_iload_n C 1 rfl rfl rfl ?_
  refine r_iload C rfl rfl ?_
  refine v2_r C rfl mfX12_of lk_X12_238 (by assumption) (s_of hM (37 + (6 * l + c)) rfl rfl hr (by omega)) ?_
  refine r_iload C rfl rfl ?_
  refine r_iadd C rfl ?_
  refine v3_v C rfl mfX12_put lk_X12_175 (by assumption) (s_put hM (37 + (6 * l + c)) rfl rfl hr (by omega)) ?_
  refine r_aload_n C 0 rfl rfl rfl rfl ?_
  refine r_iload_n C 1 rfl rfl rfl ?_
  refine r_bi (v := nI 11) C rfl (by decide) ?_
  refine r_aload_n C 0 rfl rfl rfl rfl ?_
  refine r_iload_n C 1 rfl rfl rfl ?_
  refine r_bi (v := nI 11) C rfl (by decide) ?_
  refine v2_r C rfl mfX12_of lk_X12_238 (by assumption) (s_of hM 11 rfl rfl hr (by decide)) ?_
  refine r_iload C rfl rfl ?_
  refine r_iadd C rfl ?_
  refine v3_v C rfl mfX12_put lk_X12_175 (by assumption) (s_put hM 11 rfl rfl hr (by decide)) ?_
  refine r_vret C rfl rfl ⟨rfl, rfl, rfl, ?_⟩
  rw [wetS]
  congr 2
  simp only [upd]
  rw [if_neg (by omega)]
theorem s_flow (hM : MO Sh N o) {x y z q : Int32} (a b : Nat) (hx : x = nI r) (hy : y = nI a) (hz : z = nI b) (hr : r < 36) (ha : a < 144) (hb : b < 144) (hq : ¬ q = 0) : Con E mX12_flow 2 0 0 [.ref o, .int x, .int y, .int z, .int q] Sh N G (mset M o r R) (P1 none Sh N (mset M o r (flowS (M (o + 3)) a b q R))) nox := by
  subst hx; subst hy; subst hz
  have h0 := hM.1
  have h1 := hM.ar 2 rfl
  refine Con.of (by decide +kernel) (by simp [Value.category]) (Nat.le_of_ble_eq_true rfl) (fun k C0 => ?_)
  have C : CK k E mX12_flow kdX12_flow 2 0 0 := ⟨C0, kdX12_flow_ok⟩
  refine r_aload_n C 0 rfl rfl rfl rfl ?_
  refine r_getv C rfl f_X12_16 (by assumption) rfl ?_
  refine r_iload_n C 2 rfl rfl rfl ?_
  refine r_iald C rfl (by assumption) (a) rfl (by omega) (by decide) ?_
  refine r_aload_n C 0 rfl rfl rfl rfl ?_
  refine r_getv C rfl f_X12_16 (by assumption) rfl ?_
  refine r_iload_n C 3 rfl rfl rfl ?_
  refine r_iald C rfl (by assumption) (b) rfl (by omega) (by decide) ?_
  refine r_isub C rfl ?_
  refine r_iload C rfl rfl ?_
  refine r_idiv C rfl hq ?_
  refine r_istore C rfl (by exact Nat.le_of_ble_eq_true rfl) ?_
  refine r_aload_n C 0 rfl rfl rfl rfl ?_
  refine r_iload_n C 1 rfl rfl rfl ?_
  refine r_bi (v := nI 37) C rfl (by decide) ?_
  refine r_iload_n C 2 rfl rfl rfl ?_
  refine r_iadd C rfl ?_
  refine r_aload_n C 0 rfl rfl rfl rfl ?_
  refine r_iload_n C 1 rfl rfl rfl ?_
  refine r_bi (v := nI 37) C rfl (by decide) ?_
  refine r_iload_n C 2 rfl rfl rfl ?_
  refine r_iadd C rfl ?_
  refine v2_r C rfl mfX12_of lk_X12_238 (by assumption) (s_of hM (37 + a) rfl (by rw [nI_add]) hr (by omega)) ?_
  refine r_iload C rfl rfl ?_
  refine r_isub C rfl ?_
  refine v3_v C rfl mfX12_put lk_X12_175 (by assumption) (s_put hM (37 + a) rfl (by rw [nI_add]) hr (by omega)) ?_
  refine r_aload_n C 0 rfl rfl rfl rfl ?_
  refine r_iload_n C 1 rfl rfl rfl ?_
  refine r_bi (v := nI 37) C rfl (by decide) ?_
  refine r_iload_n C 3 rfl rfl rfl ?_
  refine r_iadd C rfl ?_
  refine r_aload_n C 0 rfl rfl rfl rfl ?_
  refine r_iload_n C 1 rfl rfl rfl ?_
  refine r_bi (v := nI 37) C rfl (by decide) ?_
  refine r_iload_n C 3 rfl rfl rfl ?_
  refine r_iadd C rfl ?_
  refine v2_r C rfl mfX12_of lk_X12_238 (by assumption) (s_of hM (37 + b) rfl (by rw [nI_add]) hr (by omega)) ?_
  refine r_iload C rfl rfl ?_
  refine r_iadd C rfl ?_
  refine v3_v C rfl mfX12_put lk_X12_175 (by assumption) (s_put hM (37 + b) rfl (by rw [nI_add]) hr (by omega)) ?_
  refine r_vret C rfl rfl ⟨rfl, rfl, rfl, ?_⟩
  rw [mset_cell (by omega)]
  rfl
end MODEL4
