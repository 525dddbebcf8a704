section MODEL3
variable {E : VE} {Sh : Nat → SE} {N : Nat} {G : Bool} {M : MM} {o r : Nat} {R : Row}
theorem s_presses (hM : MO Sh N o) {x y : Int32} (dp mn l : Nat) (hW : WF R dp mn) (hx : x = nI r) (hy : y = nI l) (hr : r < 36) (hl : l < mn) : Con E mX12_presses 4 0 0 [.ref o, .int x, .int y] Sh N G (mset M o r R) (P1 (some (.int (prs R dp l (mn - 1 - l)))) Sh N (mset M o r R)) nox := by
  subst hx; subst hy
  obtain ⟨w0, w1, w2, w3, w4⟩ := hW
  have h0 := hM.1
  refine Con.of (by decide +kernel) (by simp [Value.category]) (Nat.le_of_ble_eq_true rfl) (fun k C0 => ?_)
  have C : CK k E mX12_presses kdX12_presses 4 0 0 := ⟨C0, kdX12_presses_ok⟩
  have inner : ∀ (i : Nat), l + 1 + i < mn → (∀ z : Int32, z = prs R dp l (i + 1) → PT k E (Q1 k E Sh N G (mset M o r R) (some (.int (prs R dp l (mn - 1 - l)))) (mset M o r R)) 0 0 Sh N G (mset M o r R) 50 [some (.ref o), some (.int (nI r)), some (.int (nI l)), some (.int z), some (.int (nI (l + 1 + i))), some (.int (nI dp))] []) → ∀ n c : Nat, c ≤ dp → dp - c < n → PT k E (Q1 k E Sh N G (mset M o r R) (some (.int (prs R dp l (mn - 1 - l)))) (mset M o r R)) 0 0 Sh N G (mset M o r R) 21 [some (.ref o), some (.int (nI r)), some (.int (nI l)), some (.int (prs R dp l i + sm (fun c => lod R (6 * (l + 1 + i) + c)) c)), some (.int (nI (l + 1 + i))), some (.int (nI c))] [] := by
    intro i hi kk n
    induction n with
    | zero => intro c _ h; omega
    | succ n ih =>
      intro c hc hn
      refine r_iload C rfl rfl ?_
      refine r_aload_n C 0 rfl rfl rfl rfl ?_
      refine r_iload_n C 1 rfl rfl rfl ?_
      refine r_ic (v := nI 0) C rfl (by decide) ?_
      refine v2_r C rfl mfX12_of lk_X12_238 (by assumption) (s_of hM 0 rfl rfl hr (by decide)) ?_
      refine r_top (nI dp) w0 ?_
      refine r_icmp_ge C 50 rfl (by decide) (fun h => ?_) (fun h => ?_)
      · have h := le_nI (by omega) (by omega) h
        have e : c = dp := by omega
        subst e
        exact kk _ rfl
      · have h := nle_nI (by omega) (by omega) h
        refine r_iload_n C 3 rfl rfl rfl ?_
        refine r_aload_n C 0 rfl rfl rfl rfl ?_
        refine r_iload_n C 1 rfl rfl rfl ?_
        refine r_iload C rfl rfl ?_
        refine r_iload C rfl rfl ?_
        refine v3_r C rfl mfX12_load lk_X12_267 (by assumption) (s_load hM (l + 1 + i) c rfl rfl rfl hr (by omega)) ?_
        refine r_iadd C rfl ?_
        refine r_istore_n C 3 rfl rfl (by exact Nat.le_of_ble_eq_true rfl) ?_
        refine r_iinc (c := nI 1) C rfl rfl (by decide) ?_
        refine r_goto C 21 rfl (by decide) ?_
        refine r_eqL ?_ (ih (c + 1) (by omega) (by omega))
        first | rfl | (simp only [sm, add3, nI_add, Int32.add_zero, Int32.zero_add]; rfl)
  have loop : ∀ n i : Nat, l + 1 + i ≤ mn → mn - (l + 1 + i) < n → ∀ v : Option Value, PT k E (Q1 k E Sh N G (mset M o r R) (some (.int (prs R dp l (mn - 1 - l)))) (mset M o r R)) 0 0 Sh N G (mset M o r R) 7 [some (.ref o), some (.int (nI r)), some (.int (nI l)), some (.int (prs R dp l i)), some (.int (nI (l + 1 + i))), v] [] := by
    intro n
    induction n with
    | zero => intro i _ h; omega
    | succ n ih =>
      intro i hi hn v
      refine r_iload C rfl rfl ?_
      refine r_aload_n C 0 rfl rfl rfl rfl ?_
      refine r_iload_n C 1 rfl rfl rfl ?_
      refine r_ic (v := nI 1) C rfl (by decide) ?_
      refine v2_r C rfl mfX12_of lk_X12_238 (by assumption) (s_of hM 1 rfl rfl hr (by decide)) ?_
      refine r_top (nI mn) w3 ?_
      refine r_icmp_ge C 56 rfl (by decide) (fun h => ?_) (fun h => ?_)
      · have h := le_nI (by omega) (by omega) h
        refine r_iload_n C 3 rfl rfl rfl ?_
        exact r_iret C rfl rfl rfl ⟨by rw [show mn - 1 - l = i by omega], rfl, rfl, rfl⟩
      · have h := nle_nI (by omega) (by omega) h
        refine r_ic (v := nI 0) C rfl (by decide) ?_
        refine r_istore C rfl (by exact Nat.le_of_ble_eq_true rfl) ?_
        refine r_eqL ?_ (inner i h (fun z hz => ?_) (dp + 1) 0 (by omega) (by omega))
        · first | rfl | (simp only [sm, add3, nI_add, Int32.add_zero, Int32.zero_add]; rfl)
        · subst hz
          refine r_iinc (c := nI 1) C rfl rfl (by decide) ?_
          refine r_goto C 7 rfl (by decide) ?_
          refine r_eqL ?_ (ih (i + 1) (by omega) (by omega) (some (.int (nI dp))))
          rw [show l + 1 + (i + 1) = l + 1 + i + 1 by omega]
          first | rfl | (simp only [sm, add3, nI_add, Int32.add_zero, Int32.zero_add]; rfl)
  refine r_ic (v := nI 0) C rfl (by decide) ?_
  refine r_istore_n C 3 rfl rfl (by exact Nat.le_of_ble_eq_true rfl) ?_
  refine r_iload_n C 2 rfl rfl rfl ?_
  refine r_ic (v := nI 1) C rfl (by decide) ?_
  refine r_iadd C rfl ?_
  refine r_istore C rfl (by exact Nat.le_of_ble_eq_true rfl) ?_
  refine r_eqL ?_ (loop (mn + 1) 0 (by omega) (by omega) none)
  simp only [nI_add]
  rfl
theorem s_sits (hM : MO Sh N o) {x y : Int32} (dp mn l : Nat) (hW : WF R dp mn) (hx : x = nI r) (hy : y = nI l) (hr : r < 36) (hl : l < mn) : Con E mX12_sits 5 0 0 [.ref o, .int x, .int y] Sh N G (mset M o r R) (P1 (some (.int (if bear (grn M o) (ful M o) R dp l < prs R dp l (mn - 1 - l) then 1 else 0))) Sh N (mset M o r R)) nox := by
  subst hx; subst hy
  have h0 := hM.1
  refine Con.of (by decide +kernel) (by simp [Value.category]) (Nat.le_of_ble_eq_true rfl) (fun k C0 => ?_)
  have C : CK k E mX12_sits kdX12_sits 5 0 0 := ⟨C0, kdX12_sits_ok⟩
  refine r_aload_n C 0 rfl rfl rfl rfl ?_
  refine r_iload_n C 1 rfl rfl rfl ?_
  refine r_iload_n C 2 rfl rfl rfl ?_
  refine v2_r C rfl mfX12_presses lk_X12_270 (by assumption) (s_presses hM dp mn l hW rfl rfl hr hl) ?_
  refine r_aload_n C 0 rfl rfl rfl rfl ?_
  refine r_iload_n C 1 rfl rfl rfl ?_
  refine r_iload_n C 2 rfl rfl rfl ?_
  refine v2_r C rfl mfX12_bears lk_X12_273 (by assumption) (s_bears hM dp mn l hW rfl rfl hr (by have := hW.2.2.2.2; omega)) ?_
  refine r_icmp_le C 19 rfl (by decide) (fun h => ?_) (fun h => ?_)
  · refine r_ic (v := nI 0) C rfl (by decide) ?_
    exact r_iret C rfl rfl rfl ⟨by rw [if_neg (Int32.not_lt.mpr h)]; rfl, rfl, rfl, rfl⟩
  · refine r_ic (v := nI 1) C rfl (by decide) ?_
    refine r_goto C 20 rfl (by decide) ?_
    exact r_iret C rfl rfl rfl ⟨by rw [if_pos (Int32.not_le.mp h)]; rfl, rfl, rfl, rfl⟩
theorem s_someSits (hM : MO Sh N o) {x : Int32} (dp mn : Nat) (hW : WF R dp mn) (hx : x = nI r) (hr : r < 36) : Con E mX12_someSits 6 0 0 [.ref o, .int x] Sh N G (mset M o r R) (P1 (some (.int (if anyB (fun l => decide (bear (grn M o) (ful M o) R dp l < prs R dp l (mn - 1 - l))) mn = true then 1 else 0))) Sh N (mset M o r R)) nox := by
  subst hx
  have hW' := hW
  obtain ⟨w0, w1, w2, w3, w4⟩ := hW
  have h0 := hM.1
  refine Con.of (by decide +kernel) (by simp [Value.category]) (Nat.le_of_ble_eq_true rfl) (fun k C0 => ?_)
  have C : CK k E mX12_someSits kdX12_someSits 6 0 0 := ⟨C0, kdX12_someSits_ok⟩
  have loop : ∀ n l : Nat, l ≤ mn → mn - l < n → anyB (fun l => decide (bear (grn M o) (ful M o) R dp l < prs R dp l (mn - 1 - l))) l = false → PT k E (Q1 k E Sh N G (mset M o r R) (some (.int (if anyB (fun l => decide (bear (grn M o) (ful M o) R dp l < prs R dp l (mn - 1 - l))) mn = true then 1 else 0))) (mset M o r R)) 0 0 Sh N G (mset M o r R) 2 [some (.ref o), some (.int (nI r)), some (.int (nI l))] [] := by
    intro n
    induction n with
    | zero => intro i _ h; omega
    | succ n ih =>
      intro l hl hn ha
      refine r_iload_n C 2 rfl rfl rfl ?_
      refine r_aload_n C 0 rfl rfl rfl rfl ?_
      refine r_iload_n C 1 rfl rfl rfl ?_
      refine r_ic (v := nI 1) C rfl (by decide) ?_
      refine v2_r C rfl mfX12_of lk_X12_238 (by assumption) (s_of hM 1 rfl rfl hr (by decide)) ?_
      refine r_top (nI mn) w3 ?_
      refine r_icmp_ge C 29 rfl (by decide) (fun h => ?_) (fun h => ?_)
      · have h := le_nI (by omega) (by omega) h
        have e : l = mn := by omega
        subst e
        refine r_ic (v := nI 0) C rfl (by decide) ?_
        exact r_iret C rfl rfl rfl ⟨by rw [ha]; rfl, rfl, rfl, rfl⟩
      · have h := nle_nI (by omega) (by omega) h
        refine r_aload_n C 0 rfl rfl rfl rfl ?_
        refine r_iload_n C 1 rfl rfl rfl ?_
        refine r_iload_n C 2 rfl rfl rfl ?_
        refine v2_r C rfl mfX12_sits lk_X12_276 (by assumption) (s_sits hM dp mn l hW' rfl rfl hr h) ?_
        refine r_if_eq C 23 rfl (by decide) (fun h2 => ?_) (fun h2 => ?_)
        · have h2 := if10 h2
          refine r_iinc (c := nI 1) C rfl rfl (by decide) ?_
          refine r_goto C 2 rfl (by decide) ?_
          refine r_eqL ?_ (ih (l + 1) (by omega) (by omega) (by rw [anyB, ha, decide_eq_false h2]; rfl))
          first | rfl | (simp only [sm, add3, nI_add, Int32.add_zero, Int32.zero_add]; rfl)
        · have h2 := if11 h2
          refine r_ic (v := nI 1) C rfl (by decide) ?_
          exact r_iret C rfl rfl rfl ⟨by rw [if_pos (anyB_of h (decide_eq_true h2))]; rfl, rfl, rfl, rfl⟩
  refine r_ic (v := nI 0) C rfl (by decide) ?_
  refine r_istore_n C 2 rfl rfl (by exact Nat.le_of_ble_eq_true rfl) ?_
  exact loop (mn + 1) 0 (by omega) (by omega) rfl
end MODEL3
