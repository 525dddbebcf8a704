section MODEL5
theorem rIn_lo (R : Row) (mn c : Nat) {j : Nat} (h : j < 13) : rIn R mn c j = R j := by
  simp only [rIn]
  rw [if_neg (by omega), if_neg (by omega), if_neg (by omega)]
theorem rIn_0 (R : Row) (mn : Nat) : upd R (13 + mn) 0 = rIn R mn 0 := by
  funext j
  simp only [upd, rIn]
  by_cases h : j = 13 + mn
  · rw [if_pos h, if_pos h]
  · rw [if_neg h, if_neg h, if_neg (by omega), if_neg (by omega)]
theorem rIn_step (R : Row) (mn c : Nat) (h : 6 * mn + c < 144) (hc : mn < 24) : upd (upd (rIn R mn c) (37 + (6 * mn + c)) (nI 200)) (181 + (6 * mn + c)) 0 = rIn R mn (c + 1) := by
  funext j
  simp only [upd, rIn]
  grind
theorem rais1_eq (R : Row) (dp mn : Nat) : upd (upd (rIn R mn dp) 11 (R 11 + nI 200 * nI dp)) 1 (nI (mn + 1)) = rais1 dp mn R := by
  funext j
  simp only [upd, rais1]
  grind
theorem wf_rais1 {R : Row} {dp mn : Nat} (h : WF R dp mn) (hm : mn < 24) : WF (rais1 dp mn R) dp (mn + 1) := by
  obtain ⟨h1, h2, h3, h4, h5⟩ := h
  refine ⟨?_, h2, h3, ?_, by omega⟩
  · simp only [rais1]; rw [if_neg (by decide), if_neg (by decide), rIn_lo _ _ _ (by decide)]; exact h1
  · simp [rais1]
theorem wf_raisR {R : Row} {dp mn : Nat} (h : WF R dp mn) : ∀ {n : Nat}, mn + n ≤ 24 → WF (raisR dp mn n R) dp (mn + n)
  | 0, _ => h
  | n + 1, hn => wf_rais1 (wf_raisR h (n := n) (by omega)) (by omega)
variable {E : VE} {Sh : Nat → SE} {N : Nat} {G : Bool} {M : MM} {o r : Nat} {R : Row}
theorem s_raise (hM : MO Sh N o) {x y : Int32} (dp mn n : Nat) (hW : WF R dp mn) (hx : x = nI r) (hy : y = nI n) (hr : r < 36) (hn : mn + n ≤ 24) : Con E mX12_raise 2 0 0 [.ref o, .int x, .int y] Sh N G (mset M o r R) (P1 none Sh N (mset M o r (raisR dp mn n R))) nox := by
  subst hx; subst hy
  have h0 := hM.1
  refine Con.ofQ (by decide +kernel) (by simp [Value.category]) (Nat.le_of_ble_eq_true rfl) (fun k C0 Q hQ => ?_)
  have C : CK k E mX12_raise kdX12_raise 2 0 0 := ⟨C0, kdX12_raise_ok⟩
  have inner : ∀ (R' : Row) (l i : Nat) , WF R' dp l → l < 24 → (PT k E Q 0 0 Sh N G (mset M o r (rIn R' l dp)) 81 [some (.ref o), some (.int (nI r)), some (.int (nI n)), some (.int (nI i)), some (.int (nI l)), some (.int (nI dp))] []) → ∀ m c : Nat, c ≤ dp → dp - c < m → PT k E Q 0 0 Sh N G (mset M o r (rIn R' l c)) 29 [some (.ref o), some (.int (nI r)), some (.int (nI n)), some (.int (nI i)), some (.int (nI l)), some (.int (nI c))] [] := by
    intro R' l i hW' hl kk m
    obtain ⟨w0, w1, w2, w3, w4⟩ := hW'
    induction m with
    | zero => intro c _ h; omega
    | succ m ih =>
      intro c hc hm
      refine r_iload C rfl rfl ?_
      refine r_aload_n C 0 rfl rfl rfl rfl ?_
      refine r_iload_n C 1 rfl rfl rfl ?_
      refine r_ic (v := nI 0) C rfl (by decide) ?_
      refine v2_r C rfl mfX12_of lk_X12_238 (by assumption) (s_of hM 0 rfl rfl hr (by decide)) ?_
      refine r_top (nI dp) (by rw [rIn_lo _ _ _ (by decide), w0]) ?_
      refine r_icmp_ge C 81 rfl (by decide) (fun h => ?_) (fun h => ?_)
      · have h := le_nI (by omega) (by omega) h
        have e : c = dp := by omega
        subst e
        exact kk
      · have h := nle_nI (by omega) (by omega) h
        refine r_aload_n C 0 rfl rfl rfl rfl ?_
        refine r_iload_n C 1 rfl rfl rfl ?_
        refine r_bi (v := nI 37) C rfl (by decide) ?_
        refine r_iload C rfl rfl ?_
        refine r_iload C rfl rfl ?_
        refine s2_r C rfl mfX12_at lk_X12_241 (c_X12_at l c rfl rfl) ?_
        refine r_iadd C rfl ?_
        refine r_si (v := nI 200) C rfl (by decide) ?_
        refine v3_v C rfl mfX12_put lk_X12_175 (by assumption) (s_put hM (37 + (6 * l + c)) rfl (by rw [nI_add]) hr (by omega)) ?_
        refine r_aload_n C 0 rfl rfl rfl rfl ?_
        refine r_iload_n C 1 rfl rfl rfl ?_
        refine r_si (v := nI 181) C rfl (by decide) ?_
        refine r_iload C rfl rfl ?_
        refine r_iload C rfl rfl ?_
        refine s2_r C rfl mfX12_at lk_X12_241 (c_X12_at l c rfl rfl) ?_
        refine r_iadd C rfl ?_
        refine r_ic (v := nI 0) C rfl (by decide) ?_
        refine v3_v C rfl mfX12_put lk_X12_175 (by assumption) (s_put hM (181 + (6 * l + c)) rfl (by rw [nI_add]) hr (by omega)) ?_
        refine r_iinc (c := nI 1) C rfl rfl (by decide) ?_
        refine r_goto C 29 rfl (by decide) ?_
        refine r_eqM ?_ (r_eqL ?_ (ih (c + 1) (by omega) (by omega)))
        · rw [← rIn_step R' l c (by omega) hl]; rfl
        · first | rfl | (simp only [sm, add3, nI_add, Int32.add_zero, Int32.zero_add]; rfl)
  have loop : ∀ m i : Nat, i ≤ n → n - i < m → ∀ v4 v5 : Option Value, PT k E Q 0 0 Sh N G (mset M o r (raisR dp mn i R)) 2 [some (.ref o), some (.int (nI r)), some (.int (nI n)), some (.int (nI i)), v4, v5] [] := by
    intro m
    induction m with
    | zero => intro i _ h; omega
    | succ m ih =>
      intro i hi hm v4 v5
      refine r_iload_n C 3 rfl rfl rfl ?_
      refine r_iload_n C 2 rfl rfl rfl ?_
      refine r_icmp_ge C 122 rfl (by decide) (fun h => ?_) (fun h => ?_)
      · have h := le_nI (by omega) (by omega) h
        have e : i = n := by omega
        subst e
        exact q_vret C hQ rfl rfl ⟨rfl, rfl, rfl, rfl⟩
      · have h := nle_nI (by omega) (by omega) h
        have hW' := wf_raisR hW (n := i) (by omega)
        generalize hR' : raisR dp mn i R = R' at hW' ⊢
        refine r_aload_n C 0 rfl rfl rfl rfl ?_
        refine r_iload_n C 1 rfl rfl rfl ?_
        refine r_ic (v := nI 1) C rfl (by decide) ?_
        refine v2_r C rfl mfX12_of lk_X12_238 (by assumption) (s_of hM 1 rfl rfl hr (by decide)) ?_
        refine r_top (nI (mn + i)) hW'.2.2.2.1 ?_
        refine r_istore C rfl (by exact Nat.le_of_ble_eq_true rfl) ?_
        refine r_aload_n C 0 rfl rfl rfl rfl ?_
        refine r_iload_n C 1 rfl rfl rfl ?_
        refine r_bi (v := nI 13) C rfl (by decide) ?_
        refine r_iload C rfl rfl ?_
        refine r_iadd C rfl ?_
        refine r_ic (v := nI 0) C rfl (by decide) ?_
        refine v3_v C rfl mfX12_put lk_X12_175 (by assumption) (s_put hM (13 + (mn + i)) rfl (by rw [nI_add]) hr (by omega)) ?_
        refine r_ic (v := nI 0) C rfl (by decide) ?_
        refine r_istore C rfl (by exact Nat.le_of_ble_eq_true rfl) ?_
        refine r_eqM (congrArg (mset M o r) (rIn_0 R' (mn + i))) ?_
        refine r_eqL ?_ (inner R' (mn + i) i hW' (by omega) ?_ (dp + 1) 0 (by omega) (by omega))
        · first | rfl | (simp only [sm, add3, nI_add, Int32.add_zero, Int32.zero_add]; rfl)
        refine r_aload_n C 0 rfl rfl rfl rfl ?_
        refine r_iload_n C 1 rfl rfl rfl ?_
        refine r_bi (v := nI 11) C rfl (by decide) ?_
        refine r_aload_n C 0 rfl rfl rfl rfl ?_
        refine r_iload_n C 1 rfl rfl rfl ?_
        refine r_bi (v := nI 11) C rfl (by decide) ?_
        refine v2_r C rfl mfX12_of lk_X12_238 (by assumption) (s_of hM 11 rfl rfl hr (by decide)) ?_
        refine r_top (R' 11) (rIn_lo _ _ _ (by decide)) ?_
        refine r_si (v := nI 200) C rfl (by decide) ?_
        refine r_aload_n C 0 rfl rfl rfl rfl ?_
        refine r_iload_n C 1 rfl rfl rfl ?_
        refine r_ic (v := nI 0) C rfl (by decide) ?_
        refine v2_r C rfl mfX12_of lk_X12_238 (by assumption) (s_of hM 0 rfl rfl hr (by decide)) ?_
        refine r_top (nI dp) (by rw [rIn_lo _ _ _ (by decide)]; exact hW'.1) ?_
        refine r_imul C rfl ?_
        refine r_iadd C rfl ?_
        refine v3_v C rfl mfX12_put lk_X12_175 (by assumption) (s_put hM 11 rfl rfl hr (by decide)) ?_
        refine r_aload_n C 0 rfl rfl rfl rfl ?_
        refine r_iload_n C 1 rfl rfl rfl ?_
        refine r_ic (v := nI 1) C rfl (by decide) ?_
        refine r_iload C rfl rfl ?_
        refine r_ic (v := nI 1) C rfl (by decide) ?_
        refine r_iadd C rfl ?_
        refine v3_v C rfl mfX12_put lk_X12_175 (by assumption) (s_put hM 1 rfl rfl hr (by decide)) ?_
        refine r_iinc (c := nI 1) C rfl rfl (by decide) ?_
        refine r_goto C 2 rfl (by decide) ?_
        refine r_eqM ?_ (r_eqL ?_ (ih (i + 1) (by omega) (by omega) (some (.int (nI (mn + i)))) (some (.int (nI dp)))))
        · rw [nI_add, rais1_eq]
          show _ = mset M o r (rais1 dp (mn + i) (raisR dp mn i R))
          rw [hR']
        · first | rfl | (simp only [sm, add3, nI_add, Int32.add_zero, Int32.zero_add]; rfl)
  refine r_ic (v := nI 0) C rfl (by decide) ?_
  refine r_istore_n C 3 rfl rfl (by exact Nat.le_of_ble_eq_true rfl) ?_
  exact loop (n + 1) 0 (by omega) (by omega) none none
theorem s_cut (hM : MO Sh N o) {x y : Int32} (dp mn l : Nat) (hW : WF R dp mn) (hx : x = nI r) (hy : y = nI l) (hr : r < 36) (hl : l ≤ mn) : Con E mX12_cut 2 0 0 [.ref o, .int x, .int y] Sh N G (mset M o r R) (P1 none Sh N (mset M o r (cutR dp mn l R))) nox := by
  subst hx; subst hy
  obtain ⟨w0, w1, w2, w3, w4⟩ := hW
  have h0 := hM.1
  refine Con.ofQ (by decide +kernel) (by simp [Value.category]) (Nat.le_of_ble_eq_true rfl) (fun k C0 Q hQ => ?_)
  have C : CK k E mX12_cut kdX12_cut 2 0 0 := ⟨C0, kdX12_cut_ok⟩
  have inner : ∀ (i : Nat), l + i < mn → (∀ z : Int32, z = wat R dp l (i + 1) → PT k E Q 0 0 Sh N G (mset M o r R) 54 [some (.ref o), some (.int (nI r)), some (.int (nI l)), some (.int z), some (.int (nI (l + i))), some (.int (nI dp))] []) → ∀ n c : Nat, c ≤ dp → dp - c < n → PT k E Q 0 0 Sh N G (mset M o r R) 19 [some (.ref o), some (.int (nI r)), some (.int (nI l)), some (.int (wat R dp l i + sm (fun c => R (37 + (6 * (l + i) + c))) c)), some (.int (nI (l + i))), some (.int (nI c))] [] := by
    intro i hi kk n
    induction n with
    | zero => intro c _ h; omega
    | succ n ih =>
      intro c hc hn
      refine r_iload C rfl rfl ?_
      refine r_aload_n C 0 rfl rfl rfl rfl ?_
      refine r_iload_n C 1 rfl rfl rfl ?_
      refine r_ic (v := nI 0) C rfl (by decide) ?_
      refine v2_r C rfl mfX12_of lk_X12_238 (by assumption) (s_of hM 0 rfl rfl hr (by decide)) ?_
      refine r_top (nI dp) w0 ?_
      refine r_icmp_ge C 54 rfl (by decide) (fun h => ?_) (fun h => ?_)
      · have h := le_nI (by omega) (by omega) h
        have e : c = dp := by omega
        subst e
        exact kk _ rfl
      · have h := nle_nI (by omega) (by omega) h
        refine r_iload_n C 3 rfl rfl rfl ?_
        refine r_aload_n C 0 rfl rfl rfl rfl ?_
        refine r_iload_n C 1 rfl rfl rfl ?_
        refine r_bi (v := nI 37) C rfl (by decide) ?_
        refine r_iload C rfl rfl ?_
        refine r_iload C rfl rfl ?_
        refine s2_r C rfl mfX12_at lk_X12_241 (c_X12_at (l + i) c rfl rfl) ?_
        refine r_iadd C rfl ?_
        refine v2_r C rfl mfX12_of lk_X12_238 (by assumption) (s_of hM (37 + (6 * (l + i) + c)) rfl (by rw [nI_add]) hr (by omega)) ?_
        refine r_iadd C rfl ?_
        refine r_istore_n C 3 rfl rfl (by exact Nat.le_of_ble_eq_true rfl) ?_
        refine r_iinc (c := nI 1) C rfl rfl (by decide) ?_
        refine r_goto C 19 rfl (by decide) ?_
        refine r_eqL ?_ (ih (c + 1) (by omega) (by omega))
        first | rfl | (simp only [sm, add3, nI_add, Int32.add_zero, Int32.zero_add]; rfl)
  have loop : ∀ n i : Nat, l + i ≤ mn → mn - (l + i) < n → ∀ v : Option Value, PT k E Q 0 0 Sh N G (mset M o r R) 5 [some (.ref o), some (.int (nI r)), some (.int (nI l)), some (.int (wat R dp l i)), some (.int (nI (l + i))), v] [] := by
    intro n
    induction n with
    | zero => intro i _ h; omega
    | succ n ih =>
      intro i hi hn v
      refine r_iload C rfl rfl ?_
      refine r_aload_n C 0 rfl rfl rfl rfl ?_
      refine r_iload_n C 1 rfl rfl rfl ?_
      refine r_ic (v := nI 1) C rfl (by decide) ?_
      refine v2_r C rfl mfX12_of lk_X12_238 (by assumption) (s_of hM 1 rfl rfl hr (by decide)) ?_
      refine r_top (nI mn) w3 ?_
      refine r_icmp_ge C 60 rfl (by decide) (fun h => ?_) (fun h => ?_)
      · have h := le_nI (by omega) (by omega) h
        refine r_aload_n C 0 rfl rfl rfl rfl ?_
        refine r_iload_n C 1 rfl rfl rfl ?_
        refine r_bi (v := nI 12) C rfl (by decide) ?_
        refine r_aload_n C 0 rfl rfl rfl rfl ?_
        refine r_iload_n C 1 rfl rfl rfl ?_
        refine r_bi (v := nI 12) C rfl (by decide) ?_
        refine v2_r C rfl mfX12_of lk_X12_238 (by assumption) (s_of hM 12 rfl rfl hr (by decide)) ?_
        refine r_iload_n C 3 rfl rfl rfl ?_
        refine r_iadd C rfl ?_
        refine v3_v C rfl mfX12_put lk_X12_175 (by assumption) (s_put hM 12 rfl rfl hr (by decide)) ?_
        refine r_aload_n C 0 rfl rfl rfl rfl ?_
        refine r_iload_n C 1 rfl rfl rfl ?_
        refine r_ic (v := nI 1) C rfl (by decide) ?_
        refine r_iload_n C 2 rfl rfl rfl ?_
        refine v3_v C rfl mfX12_put lk_X12_175 (by assumption) (s_put hM 1 rfl rfl hr (by decide)) ?_
        refine q_vret C hQ rfl rfl ⟨rfl, rfl, rfl, ?_⟩
        congr 1
        funext j
        simp only [upd, cutR]
        rw [show mn - l = i by omega]
        grind
      · have h := nle_nI (by omega) (by omega) h
        refine r_ic (v := nI 0) C rfl (by decide) ?_
        refine r_istore C rfl (by exact Nat.le_of_ble_eq_true rfl) ?_
        refine r_eqL ?_ (inner i h (fun z hz => ?_) (dp + 1) 0 (by omega) (by omega))
        · first | rfl | (simp only [sm, add3, nI_add, Int32.add_zero, Int32.zero_add]; rfl)
        · subst hz
          refine r_iinc (c := nI 1) C rfl rfl (by decide) ?_
          refine r_goto C 5 rfl (by decide) ?_
          refine r_eqL ?_ (ih (i + 1) (by omega) (by omega) (some (.int (nI dp))))
          rw [show l + (i + 1) = l + i + 1 by omega]
          first | rfl | (simp only [sm, add3, nI_add, Int32.add_zero, Int32.zero_add]; rfl)
  refine r_ic (v := nI 0) C rfl (by decide) ?_
  refine r_istore_n C 3 rfl rfl (by exact Nat.le_of_ble_eq_true rfl) ?_
  refine r_iload_n C 2 rfl rfl rfl ?_
  refine r_istore C rfl (by exact Nat.le_of_ble_eq_true rfl) ?_
  exact loop (mn + 1) 0 (by omega) (by omega) none
end MODEL5
