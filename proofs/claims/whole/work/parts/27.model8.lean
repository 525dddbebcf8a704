section MODEL8
variable {E : VE} {Sh : Nat → SE} {N : Nat} {G : Bool} {M : MM} {o r : Nat} {R : Row}
theorem lt0_nI {m : Nat} (hm : m < 1000) : (nI m - nI 1 < 0) ↔ m = 0 := by
  rw [Int32.lt_iff_toInt_lt, pk_sub_toInt (by omega) (by omega)]
  show (m : Int) - (1 : Nat) < 0 ↔ _
  omega
theorem s_sit (hM : MO Sh N o) {x : Int32} (dp mn : Nat) (hW : WF R dp mn) (hx : x = nI r) (hr : r < 36) : Con E mX12_sit 5 0 0 [.ref o, .int x] Sh N G (mset M o r R) (P1 none Sh N (mset M o r (fallR dp mn (sitR (grn M o) (ful M o) dp mn 0 R)))) nox := by
  subst hx
  have hW' := hW
  obtain ⟨w0, w1, w2, w3, w4⟩ := hW
  have h0 := hM.1
  refine Con.ofQ (by decide +kernel) (by simp [Value.category]) (Nat.le_of_ble_eq_true rfl) (fun k C0 Q hQ => ?_)
  have C : CK k E mX12_sit kdX12_sit 5 0 0 := ⟨C0, kdX12_sit_ok⟩
  have hWs : ∀ l, WF (sitR (grn M o) (ful M o) dp mn l R) dp mn := fun l => ⟨by rw [sit_keep _ _ _ _ _ _ w4 (by omega)]; exact w0, w1, w2, by rw [sit_keep _ _ _ _ _ _ w4 (by omega)]; exact w3, w4⟩
  have loop : ∀ n m : Nat, m ≤ mn → m < n → ∀ v4 v5 v6 : Option Value, PT k E Q 0 0 Sh N G (mset M o r (sitR (grn M o) (ful M o) dp mn m R)) 11 [some (.ref o), some (.int (nI r)), some (.int (fI (lowN (sitR (grn M o) (ful M o) dp mn 0 R) m (mn - m)))), some (.int (nI m - nI 1)), v4, v5, v6] [] := by
    intro n
    induction n with
    | zero => intro m _ h; omega
    | succ n ih =>
      intro m hm hn v4 v5 v6
      refine r_iload_n C 3 rfl rfl rfl ?_
      refine r_if_lt C 110 rfl (by decide) (fun h => ?_) (fun h => ?_)
      · have h := (lt0_nI (by omega)).mp h
        subst h
        refine r_iload_n C 2 rfl rfl rfl ?_
        refine r_ic (v := (-1)) C rfl (by decide) ?_
        have hWf := hWs 0
        generalize sitR (grn M o) (ful M o) dp mn 0 R = S at hQ hWf ⊢
        rw [Nat.sub_zero]
        cases hlow : lowN S 0 mn with
        | none =>
          refine r_icmp_ne C 116 rfl (by decide) (fun h => absurd rfl h) (fun h => ?_)
          exact q_vret C hQ rfl rfl ⟨rfl, rfl, rfl, by simp only [fallR, hlow]⟩
        | some fl =>
          have hfl := lowN_lt hlow
          refine r_icmp_ne C 116 rfl (by decide) (fun h => ?_) (fun h => absurd h ?_)
          · show PT k E Q 0 0 Sh N G (mset M o r S) 116 [some (.ref o), some (.int (nI r)), some (.int (nI fl)), some (.int (nI 0 - nI 1)), v4, v5, v6] []
            refine r_aload_n C 0 rfl rfl rfl rfl ?_
            refine r_iload_n C 1 rfl rfl rfl ?_
            refine r_bi (v := nI 10) C rfl (by decide) ?_
            refine r_aload_n C 0 rfl rfl rfl rfl ?_
            refine r_iload_n C 1 rfl rfl rfl ?_
            refine r_iload_n C 2 rfl rfl rfl ?_
            refine v2_r C rfl mfX12_whyOf lk_X12_298 (by assumption) (s_whyOf hM dp mn fl hWf rfl rfl hr (by omega)) ?_
            refine v3_v C rfl mfX12_put lk_X12_175 (by assumption) (s_put hM 10 rfl rfl hr (by decide)) ?_
            refine r_aload_n C 0 rfl rfl rfl rfl ?_
            refine r_iload_n C 1 rfl rfl rfl ?_
            refine r_bi (v := nI 9) C rfl (by decide) ?_
            refine r_aload_n C 0 rfl rfl rfl rfl ?_
            refine r_iload_n C 1 rfl rfl rfl ?_
            refine r_bi (v := nI 9) C rfl (by decide) ?_
            refine v2_r C rfl mfX12_of lk_X12_238 (by assumption) (s_of hM 9 rfl rfl hr (by decide)) ?_
            refine r_ic (v := nI 1) C rfl (by decide) ?_
            refine r_iadd C rfl ?_
            refine v3_v C rfl mfX12_put lk_X12_175 (by assumption) (s_put hM 9 rfl rfl hr (by decide)) ?_
            have hW2 : WF (upd (upd S 10 (whyR S dp fl)) 9 (upd S 10 (whyR S dp fl) 9 + nI 1)) dp mn := ⟨by simpa [upd] using hWf.1, w1, w2, by simpa [upd] using hWf.2.2.2.1, w4⟩
            refine r_aload_n C 0 rfl rfl rfl rfl ?_
            refine r_iload_n C 1 rfl rfl rfl ?_
            refine r_iload_n C 2 rfl rfl rfl ?_
            refine v2_v C rfl mfX12_cut lk_X12_285 (by assumption) (s_cut hM dp mn fl hW2 rfl rfl hr (by omega)) ?_
            refine q_vret C hQ rfl rfl ⟨rfl, rfl, rfl, ?_⟩
            simp only [fallR, hlow]
            rfl
          · show ¬ nI fl = -1
            intro q
            have q2 := congrArg Int32.toInt q
            rw [nI_toInt (by omega)] at q2
            have : (-1 : Int32).toInt = -1 := by decide
            omega
      · have hm0 : m ≠ 0 := fun q => h ((lt0_nI (by omega)).mpr q)
        obtain ⟨l, rfl⟩ : ∃ l, m = l + 1 := ⟨m - 1, by omega⟩
        have hcong : ∀ j, j < 13 ∨ 37 ≤ j → sitR (grn M o) (ful M o) dp mn (l + 1) R j = R j := fun j hj => sit_keep _ _ _ _ _ _ w4 hj
        refine r_eqL (L' := [some (.ref o), some (.int (nI r)), some (.int (fI (lowN (sitR (grn M o) (ful M o) dp mn 0 R) (l + 1) (mn - (l + 1))))), some (.int (nI l)), v4, v5, v6]) (by rw [pk_sub (by omega)]; rfl) ?_
        refine r_aload_n C 0 rfl rfl rfl rfl ?_
        refine r_iload_n C 1 rfl rfl rfl ?_
        refine r_iload_n C 3 rfl rfl rfl ?_
        refine v2_r C rfl mfX12_bears lk_X12_273 (by assumption) (s_bears hM dp mn l (hWs (l + 1)) rfl rfl hr (by omega)) ?_
        refine r_istore C rfl (by exact Nat.le_of_ble_eq_true rfl) ?_
        refine r_aload_n C 0 rfl rfl rfl rfl ?_
        refine r_iload_n C 1 rfl rfl rfl ?_
        refine r_iload_n C 3 rfl rfl rfl ?_
        refine v2_r C rfl mfX12_presses lk_X12_270 (by assumption) (s_presses hM dp mn l (hWs (l + 1)) rfl rfl hr (by omega)) ?_
        refine r_istore C rfl (by exact Nat.le_of_ble_eq_true rfl) ?_
        rw [bear_cong hcong, prs_cong hcong]
        have k104 : ∀ z : Int32, ∀ v4 v5 v6 : Option Value, z = fI (lowN (sitR (grn M o) (ful M o) dp mn 0 R) l (mn - l)) → PT k E Q 0 0 Sh N G (mset M o r (sitR (grn M o) (ful M o) dp mn l R)) 104 [some (.ref o), some (.int (nI r)), some (.int z), some (.int (nI l)), v4, v5, v6] [] := by
          intro z v4 v5 v6 hz
          subst hz
          refine r_iinc (c := (-1)) C rfl rfl (by decide) ?_
          refine r_goto C 11 rfl (by decide) ?_
          refine r_eqL ?_ (ih l (by omega) (by omega) v4 v5 v6)
          rw [show nI l + (-1) = nI l - nI 1 from by rw [Int32.sub_eq_add_neg]; rfl]
          rfl
        have k64 : ∀ z1 z2 : Int32, z1 = (if bear (grn M o) (ful M o) R dp l < prs R dp l (mn - 1 - l) then 1 else 0) → z2 = (if bear (grn M o) (ful M o) R dp l < prs R dp l (mn - 1 - l) ∧ nI 2 * bear (grn M o) (ful M o) R dp l ≤ prs R dp l (mn - 1 - l) then 1 else 0) → PT k E Q 0 0 Sh N G (mset M o r (sitR (grn M o) (ful M o) dp mn (l + 1) R)) 64 [some (.ref o), some (.int (nI r)), some (.int (fI (lowN (sitR (grn M o) (ful M o) dp mn 0 R) (l + 1) (mn - (l + 1))))), some (.int (nI l)), some (.int (bear (grn M o) (ful M o) R dp l)), some (.int (prs R dp l (mn - 1 - l))), v6] [.int z2, .int z1] := by
          intro z1 z2 hz1 hz2
          refine r_iadd C rfl ?_
          refine r_top (more (bear (grn M o) (ful M o) R dp l) (prs R dp l (mn - 1 - l))) (by rw [hz1, hz2]; rfl) ?_
          refine r_istore C rfl (by exact Nat.le_of_ble_eq_true rfl) ?_
          refine r_aload_n C 0 rfl rfl rfl rfl ?_
          refine r_iload_n C 1 rfl rfl rfl ?_
          refine r_bi (v := nI 13) C rfl (by decide) ?_
          refine r_iload_n C 3 rfl rfl rfl ?_
          refine r_iadd C rfl ?_
          refine r_aload_n C 0 rfl rfl rfl rfl ?_
          refine r_iload_n C 1 rfl rfl rfl ?_
          refine r_bi (v := nI 13) C rfl (by decide) ?_
          refine r_iload_n C 3 rfl rfl rfl ?_
          refine r_iadd C rfl ?_
          refine v2_r C rfl mfX12_of lk_X12_238 (by assumption) (s_of hM (13 + l) rfl (by rw [nI_add]) hr (by omega)) ?_
          refine r_top (R (13 + l)) (sit_below _ _ _ _ _ _ (by omega)) ?_
          refine r_iload C rfl rfl ?_
          refine r_iadd C rfl ?_
          refine v3_v C rfl mfX12_put lk_X12_175 (by assumption) (s_put hM (13 + l) rfl (by rw [nI_add]) hr (by omega)) ?_
          rw [sit_step _ _ _ _ _ _ (by omega)]
          refine r_aload_n C 0 rfl rfl rfl rfl ?_
          refine r_iload_n C 1 rfl rfl rfl ?_
          refine r_bi (v := nI 13) C rfl (by decide) ?_
          refine r_iload_n C 3 rfl rfl rfl ?_
          refine r_iadd C rfl ?_
          refine v2_r C rfl mfX12_of lk_X12_238 (by assumption) (s_of hM (13 + l) rfl (by rw [nI_add]) hr (by omega)) ?_
          refine r_bi (v := nI 6) C rfl (by decide) ?_
          have hlow : lowN (sitR (grn M o) (ful M o) dp mn 0 R) l (mn - l) = if nI 6 ≤ sitR (grn M o) (ful M o) dp mn l R (13 + l) then some l else lowN (sitR (grn M o) (ful M o) dp mn 0 R) (l + 1) (mn - (l + 1)) := by
            rw [show mn - l = (mn - (l + 1)) + 1 by omega, lowN, sit_same _ _ _ _ l _ (Nat.le_refl l)]
          refine r_icmp_lt C 104 rfl (by decide) (fun h2 => ?_) (fun h2 => ?_)
          · exact k104 _ _ _ _ (by rw [hlow, if_neg (Int32.not_le.mpr h2)])
          · refine r_iload_n C 3 rfl rfl rfl ?_
            refine r_istore_n C 2 rfl rfl (by exact Nat.le_of_ble_eq_true rfl) ?_
            exact k104 (nI l) _ _ _ (by rw [hlow, if_pos (Int32.not_lt.mp h2)]; rfl)
        have k43 : ∀ z1 : Int32, z1 = (if bear (grn M o) (ful M o) R dp l < prs R dp l (mn - 1 - l) then 1 else 0) → PT k E Q 0 0 Sh N G (mset M o r (sitR (grn M o) (ful M o) dp mn (l + 1) R)) 43 [some (.ref o), some (.int (nI r)), some (.int (fI (lowN (sitR (grn M o) (ful M o) dp mn 0 R) (l + 1) (mn - (l + 1))))), some (.int (nI l)), some (.int (bear (grn M o) (ful M o) R dp l)), some (.int (prs R dp l (mn - 1 - l))), v6] [.int z1] := by
          intro z1 hz1
          refine r_iload C rfl rfl ?_
          refine r_iload C rfl rfl ?_
          refine r_icmp_le C 63 rfl (by decide) (fun h2 => ?_) (fun h2 => ?_)
          · refine r_ic (v := nI 0) C rfl (by decide) ?_
            exact k64 _ _ hz1 (by rw [if_neg (fun q => absurd q.1 (Int32.not_lt.mpr h2))]; rfl)
          refine r_iload C rfl rfl ?_
          refine r_ic (v := nI 2) C rfl (by decide) ?_
          refine r_iload C rfl rfl ?_
          refine r_imul C rfl ?_
          refine r_icmp_lt C 63 rfl (by decide) (fun h3 => ?_) (fun h3 => ?_)
          · refine r_ic (v := nI 0) C rfl (by decide) ?_
            exact k64 _ _ hz1 (by rw [if_neg (fun q => absurd q.2 (Int32.not_le.mpr h3))]; rfl)
          · refine r_ic (v := nI 1) C rfl (by decide) ?_
            refine r_goto C 64 rfl (by decide) ?_
            exact k64 _ _ hz1 (by rw [if_pos ⟨Int32.not_le.mp h2, Int32.not_lt.mp h3⟩]; rfl)
        refine r_iload C rfl rfl ?_
        refine r_iload C rfl rfl ?_
        refine r_icmp_le C 42 rfl (by decide) (fun h2 => ?_) (fun h2 => ?_)
        · refine r_ic (v := nI 0) C rfl (by decide) ?_
          exact k43 _ (by rw [if_neg (Int32.not_lt.mpr h2)]; rfl)
        · refine r_ic (v := nI 1) C rfl (by decide) ?_
          refine r_goto C 43 rfl (by decide) ?_
          exact k43 _ (by rw [if_pos (Int32.not_le.mp h2)]; rfl)
  refine r_ic (v := (-1)) C rfl (by decide) ?_
  refine r_istore_n C 2 rfl rfl (by exact Nat.le_of_ble_eq_true rfl) ?_
  refine r_aload_n C 0 rfl rfl rfl rfl ?_
  refine r_iload_n C 1 rfl rfl rfl ?_
  refine r_ic (v := nI 1) C rfl (by decide) ?_
  refine v2_r C rfl mfX12_of lk_X12_238 (by assumption) (s_of hM 1 rfl rfl hr (by decide)) ?_
  refine r_top (nI mn) w3 ?_
  refine r_ic (v := nI 1) C rfl (by decide) ?_
  refine r_isub C rfl ?_
  refine r_istore_n C 3 rfl rfl (by exact Nat.le_of_ble_eq_true rfl) ?_
  refine r_eqM ?_ (r_eqL ?_ (loop (mn + 1) mn (Nat.le_refl _) (by omega) none none none))
  · rw [sit_end]
  · rw [Nat.sub_self]
    rfl
theorem s_comeIn (hM : MO Sh N o) {x dr : Int32} (dp mn sh : Nat) (hW : WF R dp mn) (hm : 1 ≤ mn) (hsh : R 3 = nI sh) (hs9 : sh ≤ 9) (hx : x = nI r) (hr : r < 36) : Con E mX12_comeIn 3 0 0 [.ref o, .int x, .int dr] Sh N G (mset M o r R) (P1 none Sh N (mset M o r (comeR dp mn dr R))) nox := by
  subst hx
  obtain ⟨w0, w1, w2, w3, w4⟩ := hW
  have h0 := hM.1
  refine Con.ofQ (by decide +kernel) (by simp [Value.category]) (Nat.le_of_ble_eq_true rfl) (fun k C0 Q hQ => ?_)
  have C : CK k E mX12_comeIn kdX12_comeIn 3 0 0 := ⟨C0, kdX12_comeIn_ok⟩
  have hbare : bare R mn = min (3 - sh) mn := by rw [bare, hsh, nI_clamp (by omega)]
  have loop3 : ∀ R2 : Row, R2 2 = R 2 → (PT k E Q 0 0 Sh N G (mset M o r (it (fun c => wetS c (R 2 * mx 0 (nI 3 - R 3) / nI 3)) dp R2)) 142 [some (.ref o), some (.int (nI r)), some (.int dr), some (.int (nI mn)), some (.int (nI dp)), some (.int (nI 3 - R 3)), some (.int (nI dp))] []) → ∀ n c : Nat, c ≤ dp → dp - c < n → PT k E Q 0 0 Sh N G (mset M o r (it (fun c => wetS c (R 2 * mx 0 (nI 3 - R 3) / nI 3)) c R2)) 106 [some (.ref o), some (.int (nI r)), some (.int dr), some (.int (nI mn)), some (.int (nI dp)), some (.int (nI 3 - R 3)), some (.int (nI c))] [] := by
    intro R2 h2 kk
    intro n
    induction n with
    | zero => intro i _ h; omega
    | succ n ih =>
      intro c hc hn
      have hk2 := (it_keep (fun i R' => wetS_keep i (R 2 * mx 0 (nI 3 - R 3) / nI 3) R' (j := 2) (by decide) (by decide)) c R2).trans h2
      refine r_iload C rfl rfl ?_
      refine r_iload C rfl rfl ?_
      refine r_icmp_ge C 142 rfl (by decide) (fun h => ?_) (fun h => ?_)
      · have h := le_nI (by omega) (by omega) h
        have e : c = dp := by omega
        subst e
        exact kk
      · have h := nle_nI (by omega) (by omega) h
        refine r_aload_n C 0 rfl rfl rfl rfl ?_
        refine r_iload_n C 1 rfl rfl rfl ?_
        refine r_ic (v := nI 0) C rfl (by decide) ?_
        refine r_iload C rfl rfl ?_
        refine r_aload_n C 0 rfl rfl rfl rfl ?_
        refine r_iload_n C 1 rfl rfl rfl ?_
        refine r_ic (v := nI 2) C rfl (by decide) ?_
        refine v2_r C rfl mfX12_of lk_X12_238 (by assumption) (s_of hM 2 rfl rfl hr (by decide)) ?_
        refine r_top (R 2) hk2 ?_
        refine r_ic (v := nI 0) C rfl (by decide) ?_
        refine r_iload C rfl rfl ?_
        refine r_max C rfl lk_X12_257 ?_
        refine r_imul C rfl ?_
        refine r_ic (v := nI 3) C rfl (by decide) ?_
        refine r_idiv C rfl (by decide) ?_
        refine v4_v C rfl mfX12_wet lk_X12_288 (by assumption) (s_wet hM 0 c rfl rfl rfl hr (by omega)) ?_
        refine r_iinc (c := nI 1) C rfl rfl (by decide) ?_
        refine r_goto C 106 rfl (by decide) ?_
        refine r_eqM ?_ (r_eqL ?_ (ih (c + 1) (by omega) (by omega)))
        · rw [it, show 6 * 0 + c = c by omega]; rfl
        · first | rfl | (simp only [sm, add3, nI_add, Int32.add_zero, Int32.zero_add]; rfl)
  have loop2 : ∀ R1 : Row, R1 5 = R 5 → (∀ v : Option Value, PT k E Q 0 0 Sh N G (mset M o r (it (fun l => wetS (6 * l) (dr * R 5 / nI 200)) (bare R mn) R1)) 103 [some (.ref o), some (.int (nI r)), some (.int dr), some (.int (nI mn)), some (.int (nI dp)), some (.int (nI 3 - R 3)), v] []) → ∀ n i : Nat, i ≤ bare R mn → bare R mn - i < n → PT k E Q 0 0 Sh N G (mset M o r (it (fun l => wetS (6 * l) (dr * R 5 / nI 200)) i R1)) 64 [some (.ref o), some (.int (nI r)), some (.int dr), some (.int (nI mn)), some (.int (nI dp)), some (.int (nI 3 - R 3)), some (.int (nI i))] [] := by
    intro R1 h5 kk
    rw [hbare] at kk ⊢
    intro n
    induction n with
    | zero => intro i _ h; omega
    | succ n ih =>
      intro c hc hn
      have hk5 := (it_keep (fun i R' => wetS_keep (6 * i) (dr * R 5 / nI 200) R' (j := 5) (by decide) (by decide)) c R1).trans h5
      refine r_iload C rfl rfl ?_
      refine r_iload C rfl rfl ?_
      refine r_icmp_ge C 103 rfl (by decide) (fun h => ?_) (fun h => ?_)
      · rw [hsh] at h
        have h := (bare_le hs9 (by omega)).mp h
        have e : c = min (3 - sh) mn := by omega
        rw [e]
        exact kk _
      rw [hsh] at h
      have h := mt (bare_le hs9 (l := c) (by omega)).mpr h
      refine r_iload C rfl rfl ?_
      refine r_iload_n C 3 rfl rfl rfl ?_
      refine r_icmp_ge C 103 rfl (by decide) (fun h2 => ?_) (fun h2 => ?_)
      · have h2 := le_nI (by omega) (by omega) h2
        have e : c = min (3 - sh) mn := by omega
        rw [e]
        exact kk _
      · have h2 := nle_nI (by omega) (by omega) h2
        refine r_aload_n C 0 rfl rfl rfl rfl ?_
        refine r_iload_n C 1 rfl rfl rfl ?_
        refine r_iload C rfl rfl ?_
        refine r_ic (v := nI 0) C rfl (by decide) ?_
        refine r_iload_n C 2 rfl rfl rfl ?_
        refine r_aload_n C 0 rfl rfl rfl rfl ?_
        refine r_iload_n C 1 rfl rfl rfl ?_
        refine r_ic (v := nI 5) C rfl (by decide) ?_
        refine v2_r C rfl mfX12_of lk_X12_238 (by assumption) (s_of hM 5 rfl rfl hr (by decide)) ?_
        refine r_top (R 5) hk5 ?_
        refine r_imul C rfl ?_
        refine r_si (v := nI 200) C rfl (by decide) ?_
        refine r_idiv C rfl (by decide) ?_
        refine v4_v C rfl mfX12_wet lk_X12_288 (by assumption) (s_wet hM c 0 rfl rfl rfl hr (by omega)) ?_
        refine r_iinc (c := nI 1) C rfl rfl (by decide) ?_
        refine r_goto C 64 rfl (by decide) ?_
        refine r_eqM ?_ (r_eqL ?_ (ih (c + 1) (by omega) (by omega)))
        · rw [it, show 6 * c + 0 = 6 * c by omega]
        · first | rfl | (simp only [sm, add3, nI_add, Int32.add_zero, Int32.zero_add]; rfl)
  have loop1 : R 4 = 0 → (∀ v : Option Value, PT k E Q 0 0 Sh N G (mset M o r (it (fun c => wetS (6 * (mn - 1) + c) dr) dp R)) 61 [some (.ref o), some (.int (nI r)), some (.int dr), some (.int (nI mn)), some (.int (nI dp)), some (.int (nI 3 - R 3)), v] []) → ∀ n c : Nat, c ≤ dp → dp - c < n → PT k E Q 0 0 Sh N G (mset M o r (it (fun c => wetS (6 * (mn - 1) + c) dr) c R)) 28 [some (.ref o), some (.int (nI r)), some (.int dr), some (.int (nI mn)), some (.int (nI dp)), some (.int (nI 3 - R 3)), some (.int (nI c))] [] := by
    intro h4 kk
    intro n
    induction n with
    | zero => intro i _ h; omega
    | succ n ih =>
      intro c hc hn
      have hk4 := (it_keep (fun i R' => wetS_keep (6 * (mn - 1) + i) dr R' (j := 4) (by decide) (by decide)) c R).trans h4
      refine r_iload C rfl rfl ?_
      refine r_iload C rfl rfl ?_
      refine r_icmp_ge C 61 rfl (by decide) (fun h => ?_) (fun h => ?_)
      · have h := le_nI (by omega) (by omega) h
        have e : c = dp := by omega
        subst e
        exact kk _
      have h := nle_nI (by omega) (by omega) h
      refine r_aload_n C 0 rfl rfl rfl rfl ?_
      refine r_iload_n C 1 rfl rfl rfl ?_
      refine r_ic (v := nI 4) C rfl (by decide) ?_
      refine v2_r C rfl mfX12_of lk_X12_238 (by assumption) (s_of hM 4 rfl rfl hr (by decide)) ?_
      refine r_top 0 hk4 ?_
      refine r_if_ne C 61 rfl (by decide) (fun h2 => absurd rfl h2) (fun h2 => ?_)
      refine r_aload_n C 0 rfl rfl rfl rfl ?_
      refine r_iload_n C 1 rfl rfl rfl ?_
      refine r_iload_n C 3 rfl rfl rfl ?_
      refine r_ic (v := nI 1) C rfl (by decide) ?_
      refine r_isub C rfl ?_
      refine r_iload C rfl rfl ?_
      refine r_iload_n C 2 rfl rfl rfl ?_
      refine v4_v C rfl mfX12_wet lk_X12_288 (by assumption) (s_wet hM (mn - 1) c rfl (pk_sub (by omega)) rfl hr (by omega)) ?_
      refine r_iinc (c := nI 1) C rfl rfl (by decide) ?_
      refine r_goto C 28 rfl (by decide) ?_
      refine r_eqM ?_ (r_eqL ?_ (ih (c + 1) (by omega) (by omega)))
      · rw [it]
      · first | rfl | (simp only [sm, add3, nI_add, Int32.add_zero, Int32.zero_add]; rfl)
  have k61 : ∀ R1 : Row, R1 = (if R 4 = 0 then it (fun c => wetS (6 * (mn - 1) + c) dr) dp R else R) → ∀ v : Option Value, PT k E Q 0 0 Sh N G (mset M o r R1) 61 [some (.ref o), some (.int (nI r)), some (.int dr), some (.int (nI mn)), some (.int (nI dp)), some (.int (nI 3 - R 3)), v] [] := by
    intro R1 hR1 v
    have hk : ∀ j, j < 37 → j ≠ 11 → R1 j = R j := by
      intro j h1 h2
      rw [hR1]
      split
      · exact it_keep (fun i R' => wetS_keep (6 * (mn - 1) + i) dr R' h1 h2) dp R
      · rfl
    refine r_ic (v := nI 0) C rfl (by decide) ?_
    refine r_istore C rfl (by exact Nat.le_of_ble_eq_true rfl) ?_
    refine r_eqL ?_ (loop2 R1 (hk 5 (by decide) (by decide)) (fun v => ?_) (bare R mn + 1) 0 (by omega) (by omega))
    · first | rfl | (simp only [sm, add3, nI_add, Int32.add_zero, Int32.zero_add]; rfl)
    have hX2 := (it_keep (fun i R' => wetS_keep (6 * i) (dr * R 5 / nI 200) R' (j := 2) (by decide) (by decide)) (bare R mn) R1).trans (hk 2 (by decide) (by decide))
    obtain ⟨X, hX⟩ : ∃ X, X = it (fun l => wetS (6 * l) (dr * R 5 / nI 200)) (bare R mn) R1 := ⟨_, rfl⟩
    rw [← hX] at hX2 ⊢
    refine r_ic (v := nI 0) C rfl (by decide) ?_
    refine r_istore C rfl (by exact Nat.le_of_ble_eq_true rfl) ?_
    refine r_eqL ?_ (loop3 X hX2 ?_ (dp + 1) 0 (by omega) (by omega))
    · first | rfl | (simp only [sm, add3, nI_add, Int32.add_zero, Int32.zero_add]; rfl)
    exact q_vret C hQ rfl rfl ⟨rfl, rfl, rfl, by rw [comeR, ← hR1, ← hX]⟩
  refine r_aload_n C 0 rfl rfl rfl rfl ?_
  refine r_iload_n C 1 rfl rfl rfl ?_
  refine r_ic (v := nI 1) C rfl (by decide) ?_
  refine v2_r C rfl mfX12_of lk_X12_238 (by assumption) (s_of hM 1 rfl rfl hr (by decide)) ?_
  refine r_top (nI mn) w3 ?_
  refine r_istore_n C 3 rfl rfl (by exact Nat.le_of_ble_eq_true rfl) ?_
  refine r_aload_n C 0 rfl rfl rfl rfl ?_
  refine r_iload_n C 1 rfl rfl rfl ?_
  refine r_ic (v := nI 0) C rfl (by decide) ?_
  refine v2_r C rfl mfX12_of lk_X12_238 (by assumption) (s_of hM 0 rfl rfl hr (by decide)) ?_
  refine r_top (nI dp) w0 ?_
  refine r_istore C rfl (by exact Nat.le_of_ble_eq_true rfl) ?_
  refine r_ic (v := nI 3) C rfl (by decide) ?_
  refine r_aload_n C 0 rfl rfl rfl rfl ?_
  refine r_iload_n C 1 rfl rfl rfl ?_
  refine r_ic (v := nI 3) C rfl (by decide) ?_
  refine v2_r C rfl mfX12_of lk_X12_238 (by assumption) (s_of hM 3 rfl rfl hr (by decide)) ?_
  refine r_isub C rfl ?_
  refine r_istore C rfl (by exact Nat.le_of_ble_eq_true rfl) ?_
  refine r_ic (v := nI 0) C rfl (by decide) ?_
  refine r_istore C rfl (by exact Nat.le_of_ble_eq_true rfl) ?_
  by_cases h4 : R 4 = 0
  · refine r_eqL ?_ (loop1 h4 (fun v => k61 _ (by rw [if_pos h4]) v) (dp + 1) 0 (by omega) (by omega))
    first | rfl | (simp only [sm, add3, nI_add, Int32.add_zero, Int32.zero_add]; rfl)
  · refine r_iload C rfl rfl ?_
    refine r_iload C rfl rfl ?_
    refine r_icmp_ge C 61 rfl (by decide) (fun h => ?_) (fun h => ?_)
    · have h := le_nI (a := dp) (b := 0) (by omega) (by omega) h
      omega
    refine r_aload_n C 0 rfl rfl rfl rfl ?_
    refine r_iload_n C 1 rfl rfl rfl ?_
    refine r_ic (v := nI 4) C rfl (by decide) ?_
    refine v2_r C rfl mfX12_of lk_X12_238 (by assumption) (s_of hM 4 rfl rfl hr (by decide)) ?_
    refine r_if_ne C 61 rfl (by decide) (fun h2 => ?_) (fun h2 => absurd h2 h4)
    refine r_eqL ?_ (k61 R (by rw [if_neg h4]) (some (.int (nI 0))))
    first | rfl | (simp only [sm, add3, nI_add, Int32.add_zero, Int32.zero_add]; rfl)
end MODEL8
