section HIGH
theorem r_ldc {k : MC} {E : VE} {md : MD} {kd : List (Nat × Instr × Nat)} {d mc ms : Nat} {Q : State → Prop} {cm sm : Nat} {Sh : Nat → SE} {N : Nat} {G : Bool} {M : MM} {pc : Nat} {L : List (Option Value)} {st : List Value} (C : CK k E md kd d mc ms) {idx : Nat} {v : Int32} (hd : cod kd pc = some (.ldc idx, 2)) (hc : Cond.constant md.1.cls idx v ∈ TB) (kk : PT k E Q cm sm Sh N G M (pc + 2) L (.int v :: st)) : PT k E Q cm sm Sh N G M pc L st := by
  intro ls H locs cells slots hL hH hS hcc hs
  exact lv_ldc C.x C.b C.own (C.ts _ hc) (C.dec hd) (kk ls H locs cells slots hL hH hS hcc hs)
theorem cs_X8_116 : Cond.constant "MudWalls$Wall" 116 1000000 ∈ TB := tb5 13 (by decide +kernel) (by decide +kernel)
theorem cs_X12_129 : Cond.constant "MudWallsModel" 129 100000 ∈ TB := tb6 158 (by decide +kernel) (by decide +kernel)
variable {E : VE} {Sh : Nat → SE} {N : Nat} {G : Bool} {M : MM} {o r w yd : Nat} {R : Row}
theorem w_spare (hA : WA Sh N w yd) (dp mn : Nat) (hW : WF R dp mn) (h7 : R 7 = 0 ∨ R 7 = 1) : Con E mX8_spare 3 0 0 [.ref w] Sh N G (wset M w R) (P1 (some (.int (spr (M yd 8) (M yd 6) R dp mn mn))) Sh N (wset M w R)) nox := by
  have hW' := hW
  obtain ⟨w0, w1, w2, w3, w4⟩ := hW
  have hA' := hA
  obtain ⟨a0, a1, a2, a3, a4, a5⟩ := hA
  refine Con.ofQ (by decide +kernel) (by simp [Value.category]) (Nat.le_of_ble_eq_true rfl) (fun k C0 Q hQ => ?_)
  have C : CK k E mX8_spare kdX8_spare 3 0 0 := ⟨C0, kdX8_spare_ok⟩
  have loop : ∀ n m : Nat, m ≤ mn → m < n → PT k E Q 0 0 Sh N G (wset M w R) 12 [some (.ref w), some (.int (spr (M yd 8) (M yd 6) R dp mn (mn - m))), some (.int (pab R dp mn m)), some (.int (nI m - nI 1))] [] := by
    intro n
    induction n with
    | zero => intro i _ h; omega
    | succ n ih =>
      intro m hm hn
      refine r_iload_n C 3 rfl rfl rfl ?_
      refine r_if_lt C 42 rfl (by decide) (fun h => ?_) (fun h => ?_)
      · have h := (lt0_nI (by omega)).mp h
        subst h
        refine r_iload_n C 1 rfl rfl rfl ?_
        exact q_iret C hQ rfl rfl rfl ⟨by rw [Nat.sub_zero], rfl, rfl, rfl⟩
      have hm0 : m ≠ 0 := fun q => h ((lt0_nI (by omega)).mpr q)
      obtain ⟨l, rfl⟩ : ∃ l, m = l + 1 := ⟨m - 1, by omega⟩
      refine r_eqL (L' := [some (.ref w), some (.int (spr (M yd 8) (M yd 6) R dp mn (mn - (l + 1)))), some (.int (pab R dp mn (l + 1))), some (.int (nI l))]) (by rw [pk_sub (by omega)]; rfl) ?_
      refine r_iload_n C 1 rfl rfl rfl ?_
      refine r_aload_n C 0 rfl rfl rfl rfl ?_
      refine r_iload_n C 3 rfl rfl rfl ?_
      refine v1_r C rfl mfX8_bears lk_X8_117 (by assumption) (w_bears hA' dp mn l hW' h7 rfl (by omega)) ?_
      refine r_iload_n C 2 rfl rfl rfl ?_
      refine r_isub C rfl ?_
      refine r_min C rfl lk_X8_34 ?_
      refine r_istore_n C 1 rfl rfl (by exact Nat.le_of_ble_eq_true rfl) ?_
      refine r_iload_n C 2 rfl rfl rfl ?_
      refine r_aload_n C 0 rfl rfl rfl rfl ?_
      refine r_iload_n C 3 rfl rfl rfl ?_
      refine v1_r C rfl mfX8_loads lk_X8_113 (by assumption) (w_loads hA' dp mn l hW' rfl (by omega)) ?_
      refine r_iadd C rfl ?_
      refine r_istore_n C 2 rfl rfl (by exact Nat.le_of_ble_eq_true rfl) ?_
      refine r_iinc (c := (-1)) C rfl rfl (by decide) ?_
      refine r_goto C 12 rfl (by decide) ?_
      refine r_eqL ?_ (ih l (by omega) (by omega))
      rw [pab_step R dp mn l (by omega), show nI l + (-1) = nI l - nI 1 from by rw [Int32.sub_eq_add_neg]; rfl]
      have e : spr (M yd 8) (M yd 6) R dp mn (mn - l) = mi (spr (M yd 8) (M yd 6) R dp mn (mn - (l + 1))) (bear (M yd 8) (M yd 6) R dp l - pab R dp mn (l + 1)) := by
        rw [show mn - l = (mn - (l + 1)) + 1 by omega, spr, show mn - 1 - (mn - (l + 1)) = l by omega, pab_prs, show mn - 1 - l = mn - (l + 1) by omega]
      rw [e]
      rfl
  refine r_ldc C rfl cs_X8_116 ?_
  refine r_istore_n C 1 rfl rfl (by exact Nat.le_of_ble_eq_true rfl) ?_
  refine r_ic (v := nI 0) C rfl (by decide) ?_
  refine r_istore_n C 2 rfl rfl (by exact Nat.le_of_ble_eq_true rfl) ?_
  refine r_aload_n C 0 rfl rfl rfl rfl ?_
  refine r_geti C rfl f_X8_62 (by assumption) rfl ?_
  refine r_top _ (wg_5 _ _ _) ?_
  refine r_top (nI mn) w3 ?_
  refine r_ic (v := nI 1) C rfl (by decide) ?_
  refine r_isub C rfl ?_
  refine r_istore_n C 3 rfl rfl (by exact Nat.le_of_ble_eq_true rfl) ?_
  refine r_eqL ?_ (loop (mn + 1) mn (Nat.le_refl _) (by omega))
  rw [Nat.sub_self, pab, Nat.sub_self]
  rfl
theorem w_anySits (hA : WA Sh N w yd) (dp mn : Nat) (hW : WF R dp mn) (h7 : R 7 = 0 ∨ R 7 = 1) (hG : GF (M yd 8) (M yd 6)) (hO : WOK R dp mn) : Con E mX8_anySits 4 0 0 [.ref w] Sh N G (wset M w R) (P1 (some (.int (bI (sitB (M yd 8) (M yd 6) R dp mn)))) Sh N (wset M w R)) nox := by
  have hA' := hA
  obtain ⟨a0, a1, a2, a3, a4, a5⟩ := hA
  have e := sit_spr hG hO hW.2.2.1 hW.2.2.2.2 h7
  refine Con.ofQ (by decide +kernel) (by simp [Value.category]) (Nat.le_of_ble_eq_true rfl) (fun k C0 Q hQ => ?_)
  have C : CK k E mX8_anySits kdX8_anySits 4 0 0 := ⟨C0, kdX8_anySits_ok⟩
  refine r_aload_n C 0 rfl rfl rfl rfl ?_
  refine v0_r C rfl mfX8_spare lk_X8_120 (by assumption) (w_spare hA' dp mn hW h7) ?_
  refine r_if_ge C 11 rfl (by decide) (fun h => ?_) (fun h => ?_)
  · refine r_ic (v := nI 0) C rfl (by decide) ?_
    exact q_iret C hQ rfl rfl rfl ⟨by rw [e, decide_eq_false (Int32.not_lt.mpr h)]; rfl, rfl, rfl, rfl⟩
  · refine r_ic (v := nI 1) C rfl (by decide) ?_
    refine r_goto C 12 rfl (by decide) ?_
    exact q_iret C hQ rfl rfl rfl ⟨by rw [e, decide_eq_true (Int32.not_le.mp h)]; rfl, rfl, rfl, rfl⟩
theorem w_roomAbove (hA : WA Sh N w yd) (dp mn : Nat) (hW : WF R dp mn) (h7 : R 7 = 0 ∨ R 7 = 1) (hG : GF (M yd 8) (M yd 6)) (hO : WOK R dp mn) : Con E mX8_roomAbove 4 0 0 [.ref w] Sh N G (wset M w R) (P1 (some (.int (nI (hiR (M yd 8) (M yd 6) R dp mn)))) Sh N (wset M w R)) nox := by
  have hA' := hA
  have hW' := hW
  obtain ⟨w0, w1, w2, w3, w4⟩ := hW
  obtain ⟨a0, a1, a2, a3, ⟨b0, b1, b2, b3⟩, a5⟩ := hA
  have key := fun (n : Nat) (hn : mn + n ≤ 24) => sit_rais (g := M yd 8) (f := M yd 6) hG hO w2 w4 h7 hn
  obtain ⟨s, hs⟩ : ∃ s : Nat → Bool, s = fun n => sitB (M yd 8) (M yd 6) (raisR dp mn n R) dp (mn + n) := ⟨_, rfl⟩
  obtain ⟨sp, hsp⟩ : ∃ sp, sp = spr (M yd 8) (M yd 6) R dp mn mn := ⟨_, rfl⟩
  obtain ⟨fb, hfb⟩ : ∃ fb, fb = R 7 * nI 50 + nI dp * M yd 8 := ⟨_, rfl⟩
  have key2 : ∀ n, mn + n ≤ 24 → (s n = false ↔ (((n * (dp * 14) : Nat) : Int) ≤ sp.toInt ∧ ∀ i, i < n → (((n - 1 - i) * (dp * 14) : Nat) : Int) ≤ fb.toInt)) := by
    intro n hn
    rw [hs, hsp, hfb]
    exact key n hn
  have mono : ∀ n m, n ≤ m → mn + m ≤ 24 → s m = false → s n = false := by
    intro n m h1 h2 h3
    obtain ⟨q1, q2⟩ := (key2 m h2).mp h3
    refine (key2 n (by omega)).mpr ⟨?_, fun i hi => ?_⟩
    · have : n * (dp * 14) ≤ m * (dp * 14) := Nat.mul_le_mul_right _ h1
      omega
    · have := q2 (m - n + i) (by omega)
      rw [show m - 1 - (m - n + i) = n - 1 - i by omega] at this
      exact this
  have e0 : hiR (M yd 8) (M yd 6) R dp mn = hiN s 0 (min 9 (24 - mn)) := by
    have hs0 : s 0 = sitB (M yd 8) (M yd 6) R dp mn := by rw [hs]; rfl
    rw [hiR, ← hs0, ← hs]
    by_cases q : s 0 = true
    · rw [if_pos q]
      rcases Nat.eq_zero_or_pos (min 9 (24 - mn)) with z | z
      · rw [z]; rfl
      · obtain ⟨t, ht⟩ : ∃ t, min 9 (24 - mn) = t + 1 := ⟨min 9 (24 - mn) - 1, by omega⟩
        rw [ht, hiN]
        have h1 : s (0 + 1) = true := by
          cases z2 : s (0 + 1) with
          | true => rfl
          | false => rw [mono 0 1 (by omega) (by omega) z2] at q; cases q
        rw [if_pos h1]
    · rw [if_neg q]
  refine Con.ofQ (by decide +kernel) (by simp [Value.category]) (Nat.le_of_ble_eq_true rfl) (fun k C0 Q hQ => ?_)
  have C : CK k E mX8_roomAbove kdX8_roomAbove 4 0 0 := ⟨C0, kdX8_roomAbove_ok⟩
  have loop : ∀ n i : Nat, 1 ≤ i → i ≤ min 9 (24 - mn) + 1 → 11 - i < n → PT k E Q 0 0 Sh N G (wset M w R) 37 [some (.ref w), some (.int sp), some (.int (nI (dp * 14))), some (.int fb), some (.int (nI (hiN s 0 (i - 1)))), some (.int (nI i))] [] := by
    intro n
    induction n with
    | zero => intro i _ _ h; omega
    | succ n ih =>
      intro i hi1 hi hn
      have hend : i = min 9 (24 - mn) + 1 → PT k E Q 0 0 Sh N G (wset M w R) 84 [some (.ref w), some (.int sp), some (.int (nI (dp * 14))), some (.int fb), some (.int (nI (hiN s 0 (i - 1)))), some (.int (nI i))] [] := by
        intro e
        refine r_iload C rfl rfl ?_
        exact q_iret C hQ rfl rfl rfl ⟨by rw [e0, e, Nat.add_sub_cancel], rfl, rfl, rfl⟩
      refine r_iload C rfl rfl ?_
      refine r_bi (v := nI 9) C rfl (by decide) ?_
      refine r_icmp_gt C 84 rfl (by decide) (fun h => ?_) (fun h => ?_)
      · have h := lt_nI (by omega) (by omega) h
        exact hend (by omega)
      have h := nlt_nI (by omega) (by omega) h
      refine r_aload_n C 0 rfl rfl rfl rfl ?_
      refine r_geti C rfl f_X8_62 (by assumption) rfl ?_
      refine r_top _ (wg_5 _ _ _) ?_
      refine r_top (nI mn) w3 ?_
      refine r_iload C rfl rfl ?_
      refine r_iadd C rfl ?_
      rw [nI_add]
      refine r_bi (v := nI 24) C rfl (by decide) ?_
      refine r_icmp_gt C 84 rfl (by decide) (fun h2 => ?_) (fun h2 => ?_)
      · have h2 := lt_nI (by omega) (by omega) h2
        exact hend (by omega)
      have h2 := nlt_nI (by omega) (by omega) h2
      have hb1 : i * (dp * 14) ≤ 9 * 84 := Nat.mul_le_mul (by omega) (by omega)
      have hb2 : (i - 1) * (dp * 14) ≤ 9 * 84 := Nat.mul_le_mul (by omega) (by omega)
      have hno : s i = true → PT k E Q 0 0 Sh N G (wset M w R) 78 [some (.ref w), some (.int sp), some (.int (nI (dp * 14))), some (.int fb), some (.int (nI (hiN s 0 (i - 1)))), some (.int (nI i))] [] := by
        intro hs1
        refine r_iinc (c := nI 1) C rfl rfl (by decide) ?_
        refine r_goto C 37 rfl (by decide) ?_
        refine r_eqL ?_ (ih (i + 1) (by omega) (by omega) (by omega))
        have e1 : hiN s 0 (i + 1 - 1) = hiN s 0 (i - 1) := by
          have := hiN_last s (i - 1) 0 (by rw [show 0 + 1 + (i - 1) = i by omega]; exact hs1)
          rw [show i - 1 + 1 = i by omega] at this
          rw [show i + 1 - 1 = i by omega, this]
        rw [e1, nI_add]
        rfl
      refine r_iload C rfl rfl ?_
      refine r_iload_n C 2 rfl rfl rfl ?_
      refine r_imul C rfl ?_
      rw [pk_mul]
      refine r_iload_n C 1 rfl rfl rfl ?_
      refine r_icmp_gt C 78 rfl (by decide) (fun h3 => ?_) (fun h3 => ?_)
      · refine hno ?_
        cases z : s i with
        | true => rfl
        | false =>
          have := ((key2 i (by omega)).mp z).1
          rw [Int32.lt_iff_toInt_lt, nI_toInt (by omega)] at h3
          omega
      rw [Int32.lt_iff_toInt_lt, nI_toInt (by omega)] at h3
      refine r_iload C rfl rfl ?_
      refine r_ic (v := nI 1) C rfl (by decide) ?_
      refine r_isub C rfl ?_
      rw [pk_sub (by omega)]
      refine r_iload_n C 2 rfl rfl rfl ?_
      refine r_imul C rfl ?_
      rw [pk_mul]
      refine r_iload_n C 3 rfl rfl rfl ?_
      refine r_icmp_gt C 78 rfl (by decide) (fun h4 => ?_) (fun h4 => ?_)
      · refine hno ?_
        cases z : s i with
        | true => rfl
        | false =>
          have := ((key2 i (by omega)).mp z).2 0 (by omega)
          rw [Nat.sub_zero] at this
          rw [Int32.lt_iff_toInt_lt, nI_toInt (by omega)] at h4
          omega
      rw [Int32.lt_iff_toInt_lt, nI_toInt (by omega)] at h4
      have hs1 : s i = false := (key2 i (by omega)).mpr ⟨by omega, fun j hj => by
        have : (i - 1 - j) * (dp * 14) ≤ (i - 1) * (dp * 14) := Nat.mul_le_mul_right _ (by omega)
        omega⟩
      refine r_iload C rfl rfl ?_
      refine r_istore C rfl (by exact Nat.le_of_ble_eq_true rfl) ?_
      refine r_iinc (c := nI 1) C rfl rfl (by decide) ?_
      refine r_goto C 37 rfl (by decide) ?_
      refine r_eqL ?_ (ih (i + 1) (by omega) (by omega) (by omega))
      have e1 : hiN s 0 (i + 1 - 1) = i := by
        rw [hiN_all s (i + 1 - 1) 0 (fun j hj => mono _ i (by omega) (by omega) hs1)]
        omega
      rw [e1, nI_add]
      rfl
  refine r_aload_n C 0 rfl rfl rfl rfl ?_
  refine v0_r C rfl mfX8_spare lk_X8_120 (by assumption) (w_spare hA' dp mn hW' h7) ?_
  refine r_istore_n C 1 rfl rfl (by exact Nat.le_of_ble_eq_true rfl) ?_
  refine r_aload_n C 0 rfl rfl rfl rfl ?_
  refine r_geti C rfl f_X8_21 (by assumption) rfl ?_
  refine r_top _ (wg_4 _ _ _) ?_
  refine r_top (nI dp) w0 ?_
  refine r_bi (v := nI 14) C rfl (by decide) ?_
  refine r_imul C rfl ?_
  rw [pk_mul]
  refine r_istore_n C 2 rfl rfl (by exact Nat.le_of_ble_eq_true rfl) ?_
  refine r_aload_n C 0 rfl rfl rfl rfl ?_
  refine r_geti C rfl f_X8_21 (by assumption) rfl ?_
  refine r_top _ (wg_4 _ _ _) ?_
  refine r_top (nI dp) w0 ?_
  refine r_aload_n C 0 rfl rfl rfl rfl ?_
  refine r_getv C rfl f_X8_25 (by assumption) rfl ?_
  refine r_geti C rfl f_X8_97 (by assumption) rfl ?_
  refine r_top _ (wset_lo _ _ (by omega)) ?_
  refine r_imul C rfl ?_
  refine r_aload_n C 0 rfl rfl rfl rfl ?_
  refine v0_r C rfl mfX8_propBears lk_X8_103 (by assumption) (w_propBears hA' h7) ?_
  refine r_iadd C rfl ?_
  refine r_istore_n C 3 rfl rfl (by exact Nat.le_of_ble_eq_true rfl) ?_
  refine r_ic (v := nI 0) C rfl (by decide) ?_
  refine r_istore C rfl (by exact Nat.le_of_ble_eq_true rfl) ?_
  refine r_ic (v := nI 1) C rfl (by decide) ?_
  refine r_istore C rfl (by exact Nat.le_of_ble_eq_true rfl) ?_
  refine r_eqL ?_ (loop 12 1 (by omega) (by omega) (by omega))
  rw [hfb, hsp, Int32.add_comm (R 7 * nI 50)]
  rfl
theorem s_highOf (hM : MO Sh N o) {x : Int32} (dp mn : Nat) (hW : WF (mrow M o r) dp mn) (hx : x = nI r) (hr : r < 36) : Con E mX12_highOf 7 0 0 [.ref o, .int x] Sh N G M (PR Sh N (fun v M' => v = some (.int (nI (hiR (grn M o) (ful M o) (mrow M o r) dp mn))) ∧ ∃ X, M' = mset M o 31 X)) nox := by
  subst hx
  have hW' := hW
  obtain ⟨w0, w1, w2, w3, w4⟩ := hW
  have h0 := hM.1
  obtain ⟨R, hR⟩ : ∃ R, R = mrow M o r := ⟨_, rfl⟩
  rw [← hR] at hW' ⊢
  obtain ⟨s, hs⟩ : ∃ s : Nat → Bool, s = fun n => sitB (grn M o) (ful M o) (raisR dp mn n R) dp (mn + n) := ⟨_, rfl⟩
  have hse : ∀ n, (if anyB (fun l => decide (bear (grn M o) (ful M o) (raisR dp mn n R) dp l < prs (raisR dp mn n R) dp l (mn + n - 1 - l))) (mn + n) = true then (1 : Int32) else 0) = bI (s n) := by
    intro n
    rw [hs]
    rfl
  have e0 : hiR (grn M o) (ful M o) R dp mn = if s 0 = true then 0 else hiN s 0 (min 9 (24 - mn)) := by rw [hiR, hs]; rfl
  refine Con.ofQ (by decide +kernel) (by simp [Value.category]) (Nat.le_of_ble_eq_true rfl) (fun k C0 Q hQ => ?_)
  have C : CK k E mX12_highOf kdX12_highOf 7 0 0 := ⟨C0, kdX12_highOf_ok⟩
  have loop : ∀ n i : Nat, 1 ≤ i → i ≤ min 9 (24 - mn) + 1 → 11 - i < n → hiR (grn M o) (ful M o) R dp mn = hiN s (i - 1) (min 9 (24 - mn) + 1 - i) → PT k E Q 0 0 Sh N G (mset M o 31 (raisR dp mn (i - 1) R)) 22 [some (.ref o), some (.int (nI r)), some (.int (nI (i - 1))), some (.int (nI i))] [] := by
    intro n
    induction n with
    | zero => intro i _ _ h; omega
    | succ n ih =>
      intro i hi1 hi hn he
      have hWi : WF (raisR dp mn (i - 1) R) dp (mn + (i - 1)) := wf_raisR hW' (by omega)
      have hend : i = min 9 (24 - mn) + 1 → PT k E Q 0 0 Sh N G (mset M o 31 (raisR dp mn (i - 1) R)) 66 [some (.ref o), some (.int (nI r)), some (.int (nI (i - 1))), some (.int (nI i))] [] := by
        intro e
        refine r_iload_n C 2 rfl rfl rfl ?_
        refine q_iret C hQ rfl rfl rfl ⟨rfl, rfl, ?_, _, rfl⟩
        rw [he, ← e, Nat.sub_self]
        rfl
      refine r_iload_n C 3 rfl rfl rfl ?_
      refine r_bi (v := nI 9) C rfl (by decide) ?_
      refine r_icmp_gt C 66 rfl (by decide) (fun h => ?_) (fun h => ?_)
      · have h := lt_nI (by omega) (by omega) h
        exact hend (by omega)
      have h := nlt_nI (by omega) (by omega) h
      refine r_aload_n C 0 rfl rfl rfl rfl ?_
      refine r_bi (v := nI 31) C rfl (by decide) ?_
      refine r_ic (v := nI 1) C rfl (by decide) ?_
      refine v2_r C rfl mfX12_of lk_X12_238 (by assumption) (s_of hM 1 rfl rfl (by decide) (by decide)) ?_
      refine r_top (nI (mn + (i - 1))) hWi.2.2.2.1 ?_
      refine r_bi (v := nI 24) C rfl (by decide) ?_
      refine r_icmp_ge C 66 rfl (by decide) (fun h2 => ?_) (fun h2 => ?_)
      · have h2 := le_nI (by omega) (by omega) h2
        exact hend (by omega)
      have h2 := nle_nI (by omega) (by omega) h2
      have hWn : WF (raisR dp mn i R) dp (mn + i) := wf_raisR hW' (by omega)
      have er : raisR dp (mn + (i - 1)) 1 (raisR dp mn (i - 1) R) = raisR dp mn i R := by
        obtain ⟨j, rfl⟩ : ∃ j, i = j + 1 := ⟨i - 1, by omega⟩
        rfl
      refine r_aload_n C 0 rfl rfl rfl rfl ?_
      refine r_bi (v := nI 31) C rfl (by decide) ?_
      refine r_ic (v := nI 1) C rfl (by decide) ?_
      refine v2_v C rfl mfX12_raise lk_X12_282 (by assumption) (s_raise hM dp (mn + (i - 1)) 1 hWi rfl rfl (by decide) (by omega)) ?_
      rw [er]
      refine r_aload_n C 0 rfl rfl rfl rfl ?_
      refine r_bi (v := nI 31) C rfl (by decide) ?_
      refine v1_r C rfl mfX12_someSits lk_X12_319 (by assumption) (s_someSits hM dp (mn + i) hWn rfl (by decide)) ?_
      rw [hse i]
      have hstep : hiN s (i - 1) (min 9 (24 - mn) + 1 - i) = if s i = true then i - 1 else hiN s i (min 9 (24 - mn) + 1 - (i + 1)) := by
        rw [show min 9 (24 - mn) + 1 - i = (min 9 (24 - mn) + 1 - (i + 1)) + 1 by omega, hiN, show i - 1 + 1 = i by omega]
      refine r_if_eq C 58 rfl (by decide) (fun h3 => ?_) (fun h3 => ?_)
      · have h3 := bI_0 h3
        rw [h3, if_neg (by decide)] at hstep
        refine r_iload_n C 3 rfl rfl rfl ?_
        refine r_istore_n C 2 rfl rfl (by exact Nat.le_of_ble_eq_true rfl) ?_
        refine r_iinc (c := nI 1) C rfl rfl (by decide) ?_
        refine r_goto C 22 rfl (by decide) ?_
        refine r_eqL ?_ (r_eqM ?_ (ih (i + 1) (by omega) (by omega) (by omega) (by rw [he, hstep]; rfl)))
        · rw [nI_add]; rfl
        · rfl
      · have h3 := bI_1 h3
        rw [h3, if_pos rfl] at hstep
        refine r_iload_n C 2 rfl rfl rfl ?_
        exact q_iret C hQ rfl rfl rfl ⟨rfl, rfl, by rw [he, hstep], _, rfl⟩
  refine r_ic (v := nI 0) C rfl (by decide) ?_
  refine r_istore_n C 2 rfl rfl (by exact Nat.le_of_ble_eq_true rfl) ?_
  refine r_aload_n C 0 rfl rfl rfl rfl ?_
  refine r_iload_n C 1 rfl rfl rfl ?_
  refine r_bi (v := nI 31) C rfl (by decide) ?_
  refine v2_v C rfl mfX12_copy lk_X12_215 (by assumption) (c_X12_copy hM r 31 rfl rfl hr (by decide)) ?_
  rw [← hR]
  refine r_aload_n C 0 rfl rfl rfl rfl ?_
  refine r_bi (v := nI 31) C rfl (by decide) ?_
  refine v1_r C rfl mfX12_someSits lk_X12_319 (by assumption) (s_someSits hM dp mn hW' rfl (by decide)) ?_
  have hs0 := hse 0
  rw [Nat.add_zero] at hs0
  refine r_top (bI (s 0)) hs0 ?_
  refine r_if_eq C 20 rfl (by decide) (fun h => ?_) (fun h => ?_)
  · have h := bI_0 h
    refine r_ic (v := nI 1) C rfl (by decide) ?_
    refine r_istore_n C 3 rfl rfl (by exact Nat.le_of_ble_eq_true rfl) ?_
    refine r_eqL ?_ (r_eqM ?_ (loop 12 1 (by omega) (by omega) (by omega) (by rw [e0, h, if_neg (by decide)]; rfl)))
    · rfl
    · rfl
  · have h := bI_1 h
    refine r_ic (v := nI 0) C rfl (by decide) ?_
    exact q_iret C hQ rfl rfl rfl ⟨rfl, rfl, by rw [e0, h, if_pos rfl], _, rfl⟩
end HIGH
