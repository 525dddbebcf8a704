section CPUBB
variable {E : VE} {Sh : Nat → SE} {N : Nat} {G : Bool} {M M' M'' : MM} {tx b w yd : Nat} {x : ST} {R : Row} {Y : YD}
theorem sm_tail {f : Nat → Int32} {n : Nat} : ∀ m, (∀ i, n ≤ i → i < n + m → f i = 0) → sm f (n + m) = sm f n
  | 0, _ => rfl
  | m + 1, h => by rw [show n + (m + 1) = (n + m) + 1 by omega, sm, sm_tail m (fun i h1 h2 => h i h1 (by omega)), h (n + m) (by omega) (by omega), Int32.add_zero]
theorem K_waterCome (hU : MU Sh N tx) (hV : VI b x) (hC : CI M x) : Con E mX11_waterCome 1 0 0 [.ref 0] Sh N G M (P1 (some (.int (sm (fun i => x.Rw i 11) x.wn))) Sh N M) nox := by
  obtain ⟨u0, u1, u2, u3, u4, u6, u10, u14, uw, u31, ui, u48, u51, u116, u117, u120, u121, u124, u125, u128⟩ := hU
  have hw4 := hV.1
  refine Con.ofQ (by decide +kernel) (by simp [Value.category]) (Nat.le_of_ble_eq_true rfl) (fun k C0 Q hQ => ?_)
  have C : CK k E mX11_waterCome kdX11_waterCome 1 0 0 := ⟨C0, kdX11_waterCome_ok⟩
  have loop : ∀ (m i : Nat), i + m = 4 → PT k E Q 0 0 Sh N G M 4 [some (.ref 0), some (.int (sm (fun i => x.Rw i 11) i)), some (.int (nI i))] [] := by
    intro m
    induction m with
    | zero =>
      intro i hi
      have e : i = 4 := by omega
      subst e
      refine r_iload_n C 2 rfl rfl rfl ?_
      refine r_aload_n C 0 rfl rfl rfl rfl ?_
      refine r_getv C rfl f_X11_45 (by assumption) rfl ?_
      refine r_alen4 C rfl (by assumption) ?_
      refine r_icmp_ge C 31 rfl (by decide) (fun _ => ?_) (fun z => absurd (by decide) z)
      refine r_iload_n C 1 rfl rfl rfl ?_
      refine q_iret C hQ rfl rfl rfl ⟨?_, rfl, rfl, rfl⟩
      have h := sm_tail (f := fun i => x.Rw i 11) (n := x.wn) (4 - x.wn) (fun i h1 h2 => (hV.2.2.2.1 i (by omega) h1).1)
      rw [show x.wn + (4 - x.wn) = 4 by omega] at h
      rw [h]
    | succ m ih =>
      intro i hi
      have hA := uw i (by omega)
      have a0 := hA.1
      refine r_iload_n C 2 rfl rfl rfl ?_
      refine r_aload_n C 0 rfl rfl rfl rfl ?_
      refine r_getv C rfl f_X11_45 (by assumption) rfl ?_
      refine r_alen4 C rfl (by assumption) ?_
      refine r_icmp_ge C 31 rfl (by decide) (fun z => absurd (le_nI (by omega) (by omega) z) (by omega)) (fun _ => ?_)
      refine r_iload_n C 1 rfl rfl rfl ?_
      refine r_aload_n C 0 rfl rfl rfl rfl ?_
      refine r_getv C rfl f_X11_45 (by assumption) rfl ?_
      refine r_iload_n C 2 rfl rfl rfl ?_
      refine r_aald C rfl u14 (i) rfl (by omega) (by decide) rfl ?_
      refine r_geti C rfl f_X11_189 (by assumption) rfl ?_
      rw [w_trait (hC.2.2.2.2.2.1 i (by omega)) (j := 11) (by decide)]
      refine r_iadd C rfl ?_
      refine r_istore_n C 1 rfl rfl (by exact Nat.le_of_ble_eq_true rfl) ?_
      refine r_iinc (c := nI 1) C rfl rfl (by decide) ?_
      refine r_goto C 4 rfl (by decide) ?_
      refine r_eqL ?_ (ih (i + 1) (by omega))
      first | rfl | (simp only [sm, add3, nI_add, Int32.add_zero, Int32.zero_add]; rfl)
  refine r_ic (v := nI 0) C rfl (by decide) ?_
  refine r_istore_n C 1 rfl rfl (by exact Nat.le_of_ble_eq_true rfl) ?_
  refine r_ic (v := nI 0) C rfl (by decide) ?_
  refine r_istore_n C 2 rfl rfl (by exact Nat.le_of_ble_eq_true rfl) ?_
  exact loop 4 0 (by omega)
theorem K_waterGone (hU : MU Sh N tx) (hV : VI b x) (hC : CI M x) : Con E mX11_waterGone 1 0 0 [.ref 0] Sh N G M (P1 (some (.int (sm (fun i => x.Rw i 12) x.wn))) Sh N M) nox := by
  obtain ⟨u0, u1, u2, u3, u4, u6, u10, u14, uw, u31, ui, u48, u51, u116, u117, u120, u121, u124, u125, u128⟩ := hU
  have hw4 := hV.1
  refine Con.ofQ (by decide +kernel) (by simp [Value.category]) (Nat.le_of_ble_eq_true rfl) (fun k C0 Q hQ => ?_)
  have C : CK k E mX11_waterGone kdX11_waterGone 1 0 0 := ⟨C0, kdX11_waterGone_ok⟩
  have loop : ∀ (m i : Nat), i + m = 4 → PT k E Q 0 0 Sh N G M 4 [some (.ref 0), some (.int (sm (fun i => x.Rw i 12) i)), some (.int (nI i))] [] := by
    intro m
    induction m with
    | zero =>
      intro i hi
      have e : i = 4 := by omega
      subst e
      refine r_iload_n C 2 rfl rfl rfl ?_
      refine r_aload_n C 0 rfl rfl rfl rfl ?_
      refine r_getv C rfl f_X11_45 (by assumption) rfl ?_
      refine r_alen4 C rfl (by assumption) ?_
      refine r_icmp_ge C 31 rfl (by decide) (fun _ => ?_) (fun z => absurd (by decide) z)
      refine r_iload_n C 1 rfl rfl rfl ?_
      refine q_iret C hQ rfl rfl rfl ⟨?_, rfl, rfl, rfl⟩
      have h := sm_tail (f := fun i => x.Rw i 12) (n := x.wn) (4 - x.wn) (fun i h1 h2 => (hV.2.2.2.1 i (by omega) h1).2)
      rw [show x.wn + (4 - x.wn) = 4 by omega] at h
      rw [h]
    | succ m ih =>
      intro i hi
      have hA := uw i (by omega)
      have a0 := hA.1
      refine r_iload_n C 2 rfl rfl rfl ?_
      refine r_aload_n C 0 rfl rfl rfl rfl ?_
      refine r_getv C rfl f_X11_45 (by assumption) rfl ?_
      refine r_alen4 C rfl (by assumption) ?_
      refine r_icmp_ge C 31 rfl (by decide) (fun z => absurd (le_nI (by omega) (by omega) z) (by omega)) (fun _ => ?_)
      refine r_iload_n C 1 rfl rfl rfl ?_
      refine r_aload_n C 0 rfl rfl rfl rfl ?_
      refine r_getv C rfl f_X11_45 (by assumption) rfl ?_
      refine r_iload_n C 2 rfl rfl rfl ?_
      refine r_aald C rfl u14 (i) rfl (by omega) (by decide) rfl ?_
      refine r_geti C rfl f_X11_192 (by assumption) rfl ?_
      rw [w_trait (hC.2.2.2.2.2.1 i (by omega)) (j := 12) (by decide)]
      refine r_iadd C rfl ?_
      refine r_istore_n C 1 rfl rfl (by exact Nat.le_of_ble_eq_true rfl) ?_
      refine r_iinc (c := nI 1) C rfl rfl (by decide) ?_
      refine r_goto C 4 rfl (by decide) ?_
      refine r_eqL ?_ (ih (i + 1) (by omega))
      first | rfl | (simp only [sm, add3, nI_add, Int32.add_zero, Int32.zero_add]; rfl)
  refine r_ic (v := nI 0) C rfl (by decide) ?_
  refine r_istore_n C 1 rfl rfl (by exact Nat.le_of_ble_eq_true rfl) ?_
  refine r_ic (v := nI 0) C rfl (by decide) ?_
  refine r_istore_n C 2 rfl rfl (by exact Nat.le_of_ble_eq_true rfl) ?_
  exact loop 4 0 (by omega)
theorem K_count (hU : MU Sh N tx) (hV : VI b x) (hC : CI M x) (z : Int32) : Con E mX11_count 20 8 48 [.ref 0, .int z] Sh N G M (PR Sh N (CQ M (countA x z).2 (countA x z).1 x)) (CX1 (countA x z).1) := by
  obtain ⟨u0, u1, u2, u3, u4, u6, u10, u14, uw, u31, ui, u48, u51, u116, u117, u120, u121, u124, u125, u128⟩ := id hU
  have y0 := u10.1
  have hY := hC.2.2.2.2.1.2
  refine Con.ofQ (by decide +kernel) (by simp [Value.category]) (Nat.le_of_ble_eq_true rfl) (fun k C0 Q hQ => ?_)
  have C : CK k E mX11_count kdX11_count 20 8 48 := ⟨C0, kdX11_count_ok⟩
  refine r_iload_n C 1 rfl rfl rfl ?_
  cases h8 : inI z (nI 8) (nI 11) with
  | true =>
    obtain ⟨n, hn8, hn, rfl⟩ := (inI_iff (by decide) (by decide)).mp h8
    have ea : countA x (nI n) = (0, x.st (n - 8)) := by rw [countA, if_pos h8, nI_clamp (by omega)]
    rw [ea] at hQ
    refine r_tabOut C 103 rfl (Or.inr (by rw [nI_toInt (by omega)]; omega)) (by decide) ?_
    refine r_iload_n C 1 rfl rfl rfl ?_
    refine r_bi (v := nI 8) C rfl (by decide) ?_
    refine r_icmp_lt C 121 rfl (by decide) (fun h => absurd (lt_nI (by omega) (by omega) h) (by omega)) (fun _ => ?_)
    refine r_iload_n C 1 rfl rfl rfl ?_
    refine r_bi (v := nI 8) C rfl (by decide) ?_
    refine r_isub C rfl ?_
    rw [pk_sub (by omega)]
    refine r_aload_n C 0 rfl rfl rfl rfl ?_
    refine r_getv C rfl f_X11_17 (by assumption) rfl ?_
    refine r_alen C rfl (by assumption) (by decide) ?_
    refine r_icmp_lt C 131 rfl (by decide) (fun _ => ?_) (fun h => absurd ((nI_ltI (by omega) (by omega)).mpr (by omega)) h)
    refine r_aload_n C 0 rfl rfl rfl rfl ?_
    refine r_getv C rfl f_X11_17 (by assumption) rfl ?_
    refine r_iload_n C 1 rfl rfl rfl ?_
    refine r_bi (v := nI 8) C rfl (by decide) ?_
    refine r_isub C rfl ?_
    rw [pk_sub (by omega)]
    refine r_iald C rfl (by assumption) (n - 8) rfl (by omega) (by decide) ?_
    rw [hC.2.1 (n - 8) (by omega)]
    exact q_iret C hQ rfl rfl rfl ⟨rfl, rfl, rfl, rfl, hC, fun _ _ => rfl⟩
  | false =>
    by_cases e0 : z = nI 0
    · subst e0
      refine r_tabIn C 48 rfl (by decide) (by decide) rfl (by decide) ?_
      refine r_aload_n C 0 rfl rfl rfl rfl ?_
      refine r_getv C rfl f_X11_38 (by assumption) rfl ?_
      refine r_geti C rfl f_X11_162 (by assumption) rfl ?_
      rw [hC.2.2.2.2.1.1]
      exact q_iret C hQ rfl rfl rfl ⟨rfl, rfl, rfl, rfl, hC, fun _ _ => rfl⟩
    by_cases e1 : z = nI 1
    · subst e1
      refine r_tabIn C 56 rfl (by decide) (by decide) rfl (by decide) ?_
      refine r_aload_n C 0 rfl rfl rfl rfl ?_
      refine r_getv C rfl f_X11_38 (by assumption) rfl ?_
      refine r_geti C rfl f_X11_165 (by assumption) rfl ?_
      rw [hY.2.2.2.1]
      exact q_iret C hQ rfl rfl rfl ⟨rfl, rfl, rfl, rfl, hC, fun _ _ => rfl⟩
    by_cases e2 : z = nI 2
    · subst e2
      refine r_tabIn C 64 rfl (by decide) (by decide) rfl (by decide) ?_
      refine r_aload_n C 0 rfl rfl rfl rfl ?_
      refine r_getv C rfl f_X11_38 (by assumption) rfl ?_
      refine r_geti C rfl f_X11_168 (by assumption) rfl ?_
      rw [hY.2.1]
      exact q_iret C hQ rfl rfl rfl ⟨rfl, rfl, rfl, rfl, hC, fun _ _ => rfl⟩
    by_cases e3 : z = nI 3
    · subst e3
      refine r_tabIn C 72 rfl (by decide) (by decide) rfl (by decide) ?_
      refine r_aload_n C 0 rfl rfl rfl rfl ?_
      refine r_getv C rfl f_X11_38 (by assumption) rfl ?_
      refine r_geti C rfl f_X11_171 (by assumption) rfl ?_
      rw [hY.2.2.1]
      exact q_iret C hQ rfl rfl rfl ⟨rfl, rfl, rfl, rfl, hC, fun _ _ => rfl⟩
    by_cases e4 : z = nI 4
    · subst e4
      refine r_tabIn C 80 rfl (by decide) (by decide) rfl (by decide) ?_
      refine r_aload_n C 0 rfl rfl rfl rfl ?_
      refine r_getv C rfl f_X11_38 (by assumption) rfl ?_
      refine r_geti C rfl f_X11_174 (by assumption) rfl ?_
      rw [hY.1]
      exact q_iret C hQ rfl rfl rfl ⟨rfl, rfl, rfl, rfl, hC, fun _ _ => rfl⟩
    by_cases e5 : z = nI 5
    · subst e5
      refine r_tabIn C 88 rfl (by decide) (by decide) rfl (by decide) ?_
      refine r_aload_n C 0 rfl rfl rfl rfl ?_
      refine r_geti C rfl f_X11_123 (by assumption) rfl ?_
      rw [hC.1.1]
      exact q_iret C hQ rfl rfl rfl ⟨rfl, rfl, rfl, rfl, hC, fun _ _ => rfl⟩
    by_cases e6 : z = nI 6
    · subst e6
      refine r_tabIn C 93 rfl (by decide) (by decide) rfl (by decide) ?_
      refine r_aload_n C 0 rfl rfl rfl rfl ?_
      refine v0_r C rfl mfX11_waterCome lk_X11_177 (by assumption) (K_waterCome hU hV hC) ?_
      exact q_iret C hQ rfl rfl rfl ⟨rfl, rfl, rfl, rfl, hC, fun _ _ => rfl⟩
    by_cases e7 : z = nI 7
    · subst e7
      refine r_tabIn C 98 rfl (by decide) (by decide) rfl (by decide) ?_
      refine r_aload_n C 0 rfl rfl rfl rfl ?_
      refine v0_r C rfl mfX11_waterGone lk_X11_181 (by assumption) (K_waterGone hU hV hC) ?_
      exact q_iret C hQ rfl rfl rfl ⟨rfl, rfl, rfl, rfl, hC, fun _ _ => rfl⟩
    have ea : countA x z = (1, 0) := by rw [countA, if_neg (by rw [h8]; decide), if_neg e0, if_neg e1, if_neg e2, if_neg e3, if_neg e4, if_neg e5, if_neg e6, if_neg e7]
    have out : z.toInt < 0 ∨ 7 < z.toInt := by
      by_cases q : z.toInt < 0
      · exact Or.inl q
      · right
        refine Int.not_le.mp (fun q2 => ?_)
        rcases (show z.toInt = (0 : Nat) ∨ z.toInt = (1 : Nat) ∨ z.toInt = (2 : Nat) ∨ z.toInt = (3 : Nat) ∨ z.toInt = (4 : Nat) ∨ z.toInt = (5 : Nat) ∨ z.toInt = (6 : Nat) ∨ z.toInt = (7 : Nat) by omega) with y | y | y | y | y | y | y | y
        · exact e0 (z_is (by omega) y)
        · exact e1 (z_is (by omega) y)
        · exact e2 (z_is (by omega) y)
        · exact e3 (z_is (by omega) y)
        · exact e4 (z_is (by omega) y)
        · exact e5 (z_is (by omega) y)
        · exact e6 (z_is (by omega) y)
        · exact e7 (z_is (by omega) y)
    refine r_tabOut C 103 rfl out (by decide) ?_
    have no : PT k E Q 8 48 Sh N G M 121 [some (.ref 0), some (.int z)] [] := r_nse C hQ (Or.inl ⟨by rw [ea], rfl⟩) (text := "no such count") (n := 19) (by decide +kernel) rfl rfl rfl rfl rfl
    refine r_iload_n C 1 rfl rfl rfl ?_
    refine r_bi (v := nI 8) C rfl (by decide) ?_
    refine r_icmp_lt C 121 rfl (by decide) (fun _ => no) (fun h => ?_)
    have h := Int32.le_iff_toInt_le.mp (Int32.not_lt.mp h)
    rw [nI_toInt (by decide)] at h
    have e := nI_tn (x := z) (by omega)
    obtain ⟨n, hn⟩ : ∃ n, n = z.toInt.toNat := ⟨_, rfl⟩
    rw [← hn] at e
    have hzt := Int32.toInt_lt z
    have n8 : 8 ≤ n := by omega
    have n31 : n < 2 ^ 31 := by omega
    have n12 : 11 < n := by
      refine Nat.not_le.mp (fun q => ?_)
      have := (inI_iff (x := z) (a := 8) (n := 11) (by decide) (by decide)).mpr ⟨n, n8, q, e.symm⟩
      rw [h8] at this
      cases this
    rw [← e]
    rw [← e] at no
    refine r_iload_n C 1 rfl rfl rfl ?_
    refine r_bi (v := nI 8) C rfl (by decide) ?_
    refine r_isub C rfl ?_
    rw [pk_sub (by omega)]
    refine r_aload_n C 0 rfl rfl rfl rfl ?_
    refine r_getv C rfl f_X11_17 (by assumption) rfl ?_
    refine r_alen C rfl (by assumption) (by decide) ?_
    refine r_icmp_lt C 131 rfl (by decide) (fun q => absurd (lt_nI (by omega) (by omega) q) (by omega)) (fun _ => no)
theorem K_lift (hU : MU Sh N tx) (hV : VI b x) (hC : CI M x) (p q : Int32) : Con E mX11_lift 20 8 48 [.ref 0, .int p, .int q] Sh N G M (PR Sh N (CQ M (liftA x p q).2.1 (liftA x p q).1 (liftA x p q).2.2)) (CX1 (liftA x p q).1) := by
  have u0 := hU.1
  have u2 := hU.2.2.1
  have hw4 := hV.1
  refine Con.ofQ (by decide +kernel) (by simp [Value.category]) (Nat.le_of_ble_eq_true rfl) (fun k C0 Q hQ => ?_)
  have C : CK k E mX11_lift kdX11_lift 20 8 48 := ⟨C0, kdX11_lift_ok⟩
  refine r_aload_n C 0 rfl rfl rfl rfl ?_
  refine r_iload_n C 1 rfl rfl rfl ?_
  refine v1_x C rfl mfX11_wallAt lk_X11_197 (by assumption) (K_wallAt hU hV hC p) (by omega) (by omega) (fun X h => q_thr C hQ (Or.inl ⟨by rw [liftA, if_pos h.2], h.1⟩)) ?_
  rintro z M1 ⟨rfl, w, hw, rfl, rfl⟩
  have hA := hU.2.2.2.2.2.2.2.2.1 w (by omega)
  have a0 := hA.1
  have ow := hV.ow hw
  have aw := hC.2.2.2.2.2.1 w (by omega)
  have hm := ow.mn
  have hW := isW_nI (n := x.wn) (by omega) hw
  have no : (inI q (nI 1) (nI 9) = false ∨ 24 < mno (x.Rw w) + q.toNatClampNeg) → PT k E Q (8 - 1) (48 - 6) Sh N G M1 28 [some (.ref 0), some (.int (nI w)), some (.int q), some (.ref (15 + 4 * w))] [] := by
    intro h
    have ea : liftA x (nI w) q = (0, -1, x.ups 1) := by rw [liftA, if_neg (by rw [hW]; decide), nI_clamp (by omega), if_pos h]
    refine r_aload_n C 0 rfl rfl rfl rfl ?_
    refine r_getv C rfl f_X11_17 (by assumption) rfl ?_
    refine r_ic (v := nI 1) C rfl (by decide) ?_
    refine r_dup2 C rfl rfl rfl ?_
    refine r_iald C rfl (by assumption) (1) rfl (by omega) (by decide) ?_
    rw [hC.2.1 1 (by decide)]
    refine r_ic (v := nI 1) C rfl (by decide) ?_
    refine r_iadd C rfl ?_
    refine r_iast C rfl (by assumption) (1) rfl (by omega) (by decide) ?_
    refine r_ic (v := (-1)) C rfl (by decide) ?_
    exact q_iret C hQ rfl rfl rfl ⟨rfl, rfl, by rw [ea], by rw [ea], by rw [ea]; exact hC.ups 1 rfl, fun c hc => up_row _ _ (by omega)⟩
  refine r_astore_n C 3 rfl rfl (by exact Nat.le_of_ble_eq_true rfl) rfl ?_
  refine r_iload_n C 2 rfl rfl rfl ?_
  refine r_ic (v := nI 1) C rfl (by decide) ?_
  refine r_icmp_lt C 28 rfl (by decide) (fun h => no (Or.inl (inI_lo h))) (fun h1 => ?_)
  refine r_iload_n C 2 rfl rfl rfl ?_
  refine r_bi (v := nI 9) C rfl (by decide) ?_
  refine r_icmp_gt C 28 rfl (by decide) (fun h => no (Or.inl (inI_hi h))) (fun h2 => ?_)
  have hin : inI q (nI 1) (nI 9) = true := decide_eq_true ⟨Int32.not_lt.mp h1, Int32.not_lt.mp h2⟩
  obtain ⟨n, hn1, hn9, rfl⟩ := (inI_iff (by decide) (by decide)).mp hin
  refine r_aload_n C 3 rfl rfl rfl rfl ?_
  refine r_geti C rfl f_X11_201 (by assumption) rfl ?_
  rw [w_mn aw ow]
  refine r_iload_n C 2 rfl rfl rfl ?_
  refine r_iadd C rfl ?_
  rw [nI_add]
  refine r_bi (v := nI 24) C rfl (by decide) ?_
  refine r_icmp_le C 40 rfl (by decide) (fun h3 => ?_) (fun h3 => no (Or.inr ?_))
  rotate_left
  · rw [nI_clamp (by omega)]
    exact nle_nI (by omega) (by omega) h3
  have h3 := le_nI (by omega) (by omega) h3
  have ea : liftA x (nI w) (nI n) = (0, nI (mno (x.Rw w) + n), x.row w (rsR n (x.Rw w))) := by rw [liftA, if_neg (by rw [hW]; decide), nI_clamp (by omega), nI_clamp (by omega), if_neg (by rintro (z | z); rw [hin] at z; cases z; omega)]
  rw [ea] at hQ
  refine r_aload_n C 3 rfl rfl rfl rfl ?_
  refine r_iload_n C 2 rfl rfl rfl ?_
  refine v1_g C rfl mfX8_raise lk_X11_283 (by assumption) (p_raise hA n rfl ow h3 aw) ?_
  rintro z M2 ⟨rfl, a2, hF2⟩
  refine r_aload_n C 3 rfl rfl rfl rfl ?_
  refine r_geti C rfl f_X11_201 (by assumption) rfl ?_
  rw [w_mn a2 (ok_rs ow h3), rs_mn ow h3]
  exact q_iret C hQ rfl rfl rfl ⟨rfl, rfl, rfl, rfl, hC.row hF2 (by omega) (fun c q => Or.inr q) a2, fun c hc => hF2 c (by omega)⟩
theorem K_down (hU : MU Sh N tx) (hV : VI b x) (hC : CI M x) (p : Int32) : Con E mX11_down 20 8 48 [.ref 0, .int p] Sh N G M (PR Sh N (CQ M (downA x p).2.1 (downA x p).1 (downA x p).2.2)) (CX1 (downA x p).1) := by
  have u0 := hU.1
  have hw4 := hV.1
  refine Con.ofQ (by decide +kernel) (by simp [Value.category]) (Nat.le_of_ble_eq_true rfl) (fun k C0 Q hQ => ?_)
  have C : CK k E mX11_down kdX11_down 20 8 48 := ⟨C0, kdX11_down_ok⟩
  refine r_aload_n C 0 rfl rfl rfl rfl ?_
  refine r_iload_n C 1 rfl rfl rfl ?_
  refine v1_x C rfl mfX11_wallAt lk_X11_197 (by assumption) (K_wallAt hU hV hC p) (by omega) (by omega) (fun X h => q_thr C hQ (Or.inl ⟨by rw [downA, if_pos h.2], h.1⟩)) ?_
  rintro z M1 ⟨rfl, w, hw, rfl, rfl⟩
  have hA := hU.2.2.2.2.2.2.2.2.1 w (by omega)
  have a0 := hA.1
  have ow := hV.ow hw
  have aw := hC.2.2.2.2.2.1 w (by omega)
  have hX := ow.ag aw.symm
  have hm := ow.mn
  have hW := isW_nI (n := x.wn) (by omega) hw
  refine r_astore_n C 2 rfl rfl (by exact Nat.le_of_ble_eq_true rfl) rfl ?_
  refine r_aload_n C 2 rfl rfl rfl rfl ?_
  refine r_geti C rfl f_X11_201 (by assumption) rfl ?_
  rw [w_mn aw ow]
  refine r_if_ne C 15 rfl (by decide) (fun h => ?_) (fun h => ?_)
  rotate_left
  · have h : mno (x.Rw w) = 0 := (nI_eq (b := 0) (by omega) (by omega)).mp h
    have ea : downA x (nI w) = (0, -1, x) := by rw [downA, if_neg (by rw [hW]; decide), nI_clamp (by omega), if_pos h]
    refine r_ic (v := (-1)) C rfl (by decide) ?_
    exact q_iret C hQ rfl rfl rfl ⟨rfl, rfl, by rw [ea], by rw [ea], by rw [ea]; exact hC, fun _ _ => rfl⟩
  have h : mno (x.Rw w) ≠ 0 := fun z => h (by rw [z]; rfl)
  have ea : downA x (nI w) = (0, nI (mno (x.Rw w) - 1), x.row w (cutR (dpo (x.Rw w)) (mno (x.Rw w)) (mno (x.Rw w) - 1) (x.Rw w))) := by rw [downA, if_neg (by rw [hW]; decide), nI_clamp (by omega), if_neg h]
  rw [ea] at hQ
  have em : mno (wrow M1 (15 + 4 * w)) = mno (x.Rw w) := aw.mn.symm
  have hd := w_dropFrom (E := E) (G := G) (Sh := Sh) (N := N) hA (M := M1) (R := wrow M1 (15 + 4 * w)) (x := nI (mno (x.Rw w) - 1)) (dpo (wrow M1 (15 + 4 * w))) (mno (wrow M1 (15 + 4 * w))) (mno (x.Rw w) - 1) hX.wf rfl (by omega)
  rw [wset_self] at hd
  refine r_aload_n C 2 rfl rfl rfl rfl ?_
  refine r_aload_n C 2 rfl rfl rfl rfl ?_
  refine r_geti C rfl f_X11_201 (by assumption) rfl ?_
  rw [w_mn aw ow]
  refine r_ic (v := nI 1) C rfl (by decide) ?_
  refine r_isub C rfl ?_
  rw [pk_sub (by omega)]
  refine v1_v C rfl mfX8_dropFrom lk_X11_286 (by assumption) (hd) ?_
  have a2 : Ag (wrow (wset M1 (15 + 4 * w) (cutR (dpo (wrow M1 (15 + 4 * w))) (mno (wrow M1 (15 + 4 * w))) (mno (x.Rw w) - 1) (wrow M1 (15 + 4 * w)))) (15 + 4 * w)) (cutR (dpo (x.Rw w)) (mno (x.Rw w)) (mno (x.Rw w) - 1) (x.Rw w)) := by
    rw [aw.dp, aw.mn]
    exact (wrow_ag _ _ _ (by rw [(ok_cut hX (by omega)).2.1]; omega)).trans (ag_cu aw hX (by omega))
  have oc := ok_cut ow (l := mno (x.Rw w) - 1) (by omega)
  refine r_aload_n C 2 rfl rfl rfl rfl ?_
  refine r_geti C rfl f_X11_201 (by assumption) rfl ?_
  rw [w_mn a2 oc.1, oc.2.1]
  exact q_iret C hQ rfl rfl rfl ⟨rfl, rfl, rfl, rfl, hC.row (wset_fr _ _ _) (by omega) (fun c q => Or.inr q) a2, fun c hc => wset_fr _ _ _ c (by omega)⟩
theorem K_hollow (hU : MU Sh N tx) (hV : VI b x) (hC : CI M x) (p q z : Int32) : Con E mX11_hollow 20 8 48 [.ref 0, .int p, .int q, .int z] Sh N G M (PR Sh N (CQv M (hollowA x p q z).1 (hollowA x p q z).2)) (CX1 (hollowA x p q z).1) := by
  have u0 := hU.1
  have hw4 := hV.1
  refine Con.ofQ (by decide +kernel) (by simp [Value.category]) (Nat.le_of_ble_eq_true rfl) (fun k C0 Q hQ => ?_)
  have C : CK k E mX11_hollow kdX11_hollow 20 8 48 := ⟨C0, kdX11_hollow_ok⟩
  refine r_aload_n C 0 rfl rfl rfl rfl ?_
  refine r_iload_n C 1 rfl rfl rfl ?_
  refine r_iload_n C 2 rfl rfl rfl ?_
  refine r_iload_n C 3 rfl rfl rfl ?_
  refine v3_x C rfl mfX11_wallWithCell lk_X11_247 (by assumption) (K_withCell hU hV hC p q z) (by omega) (by omega) (fun X h => q_thr C hQ (Or.inl ⟨by rw [hollowA, if_pos h.2], h.1⟩)) ?_
  rintro v M1 ⟨rfl, w, l, c, hw, hl, hc, rfl, rfl, rfl, rfl⟩
  have hA := hU.2.2.2.2.2.2.2.2.1 w (by omega)
  have a0 := hA.1
  have ow := hV.ow hw
  have aw := hC.2.2.2.2.2.1 w (by omega)
  have hm := ow.mn
  have hd := ow.dp
  have hcl := (p_cell2 ow aw (p := 6 * l + c) (by omega) (by omega)).2
  have ea : hollowA x (nI w) (nI l) (nI c) = (0, x.row w (upd (x.Rw w) (181 + (6 * l + c)) (x.Rw w (181 + (6 * l + c)) ||| nI 2))) := by
    rw [hollowA, if_neg (by rw [(isC_iff hV).mpr ⟨w, l, c, hw, hl, hc, rfl, rfl, rfl⟩]; decide), nI_clamp (by omega), nI_clamp (by omega), nI_clamp (by omega)]
  rw [ea] at hQ
  have hd := w_makeHollow (E := E) (G := G) (Sh := Sh) (N := N) hA (M := M1) (R := wrow M1 (15 + 4 * w)) (x := nI (6 * l + c)) (6 * l + c) rfl (by omega)
  rw [wset_self, hcl] at hd
  refine r_iload_n C 2 rfl rfl rfl ?_
  refine r_bi (v := nI 6) C rfl (by decide) ?_
  refine r_imul C rfl ?_
  rw [pk_mul]
  refine r_iload_n C 3 rfl rfl rfl ?_
  refine r_iadd C rfl ?_
  rw [nI_add, show l * 6 + c = 6 * l + c by omega]
  refine v1_v C rfl mfX8_makeHollow lk_X11_289 (by assumption) (hd) ?_
  refine q_vret C hQ rfl rfl ⟨rfl, rfl, rfl, rfl, hC.row (wset_fr _ _ _) (by omega) (fun c q => Or.inr q) ?_, fun c hc => wset_fr _ _ _ c (by omega)⟩
  exact (wrow_ag _ _ _ (by rw [upd_mn _ _ (by omega), ← aw.mn]; exact hm)).trans (ag_up aw _ (by omega) (by omega))
theorem K_weeks (hU : MU Sh N tx) (hV : VI b x) (hb : b < 2 ^ 26) (hC : CI M x) (p q : Int32) : Con E mX11_weeks 20 8 48 [.ref 0, .int p, .int q] Sh N G M (PR Sh N (CQ M (weeksA x p q).2.1 (weeksA x p q).1 (weeksA x p q).2.2)) (CX1 (weeksA x p q).1) := by
  have u0 := hU.1
  have hw4 := hV.1
  have hT := hU.2.2.2.2.2.2.2.2.2.2.2.1
  have t0 := hT.1
  have hF : x.ye.Fine := hV.2.1
  refine Con.ofQ (by decide +kernel) (by simp [Value.category]) (Nat.le_of_ble_eq_true rfl) (fun k C0 Q hQ => ?_)
  have C : CK k E mX11_weeks kdX11_weeks 20 8 48 := ⟨C0, kdX11_weeks_ok⟩
  refine r_aload_n C 0 rfl rfl rfl rfl ?_
  refine r_iload_n C 1 rfl rfl rfl ?_
  refine v1_x C rfl mfX11_wallAt lk_X11_197 (by assumption) (K_wallAt hU hV hC p) (by omega) (by omega) (fun X h => q_thr C hQ (Or.inl ⟨by rw [weeksA, if_pos h.2], h.1⟩)) ?_
  rintro z M1 ⟨rfl, w, hw, rfl, rfl⟩
  have hA := hU.2.2.2.2.2.2.2.2.1 w (by omega)
  have a0 := hA.1
  have ow := hV.ow hw
  have aw := hC.2.2.2.2.2.1 w (by omega)
  have hW := isW_nI (n := x.wn) (by omega) hw
  refine r_astore_n C 3 rfl rfl (by exact Nat.le_of_ble_eq_true rfl) rfl ?_
  refine r_iload_n C 2 rfl rfl rfl ?_
  refine r_ic (v := nI 0) C rfl (by decide) ?_
  refine r_si (v := nI 520) C rfl (by decide) ?_
  refine s3_x C rfl mfX11_checkRange lk_X11_292 (K_checkRange q (nI 0) (nI 520)) (by omega) (by omega) (fun X h => q_thr C hQ (Or.inr ⟨by rw [weeksA, if_neg (by rw [hW]; decide), if_pos (show inI q 0 (nI 520) = false from h.2)], h.1⟩)) ?_
  rintro z M2 ⟨rfl, rfl, h2⟩
  have h2 : inI q 0 (nI 520) = true := h2
  obtain ⟨n, -, hn, rfl⟩ := (inI_iff (a := 0) (by decide) (by decide)).mp h2
  have ea : weeksA x (nI w) (nI n) = (0, wkN x.ye n (x.Rw w) 9 - x.Rw w 9, x.row w (wkN x.ye n (x.Rw w))) := by rw [weeksA, if_neg (by rw [hW]; decide), if_neg (by rw [show inI (nI n) 0 (nI 520) = true from h2]; decide), nI_clamp (by omega), nI_clamp (by omega)]
  rw [ea] at hQ
  refine r_aload_n C 3 rfl rfl rfl rfl ?_
  refine r_geti C rfl f_X11_239 (by assumption) rfl ?_
  rw [w_trait aw (j := 9) (by decide)]
  refine r_istore C rfl (by exact Nat.le_of_ble_eq_true rfl) ?_
  refine r_ic (v := nI 0) C rfl (by decide) ?_
  refine r_istore C rfl (by exact Nat.le_of_ble_eq_true rfl) ?_
  have loop : ∀ (m i : Nat) (M3 : MM), i + m = n → Fr (fun c => WS (15 + 4 * w) c ∨ c = 48 + 1 ∨ c = 48 + 2) M2 M3 → Ag (wrow M3 (15 + 4 * w)) (wkN x.ye i (x.Rw w)) → PT k E Q (8 - 1 - 1) (48 - 6 - 6) Sh N G M3 23 [some (.ref 0), some (.int (nI w)), some (.int (nI n)), some (.ref (15 + 4 * w)), some (.int (x.Rw w 9)), some (.int (nI i))] [] := by
    intro m
    induction m with
    | zero =>
      intro i M3 hi hF3 a3
      rw [show i = n by omega] at a3
      refine r_iload C rfl rfl ?_
      refine r_iload_n C 2 rfl rfl rfl ?_
      refine r_icmp_ge C 44 rfl (by decide) (fun _ => ?_) (fun z => absurd ((nI_leI (by omega) (by omega)).mpr (by omega)) z)
      refine r_aload_n C 3 rfl rfl rfl rfl ?_
      refine r_geti C rfl f_X11_239 (by assumption) rfl ?_
      rw [w_trait a3 (j := 9) (by decide)]
      refine r_iload C rfl rfl ?_
      refine r_isub C rfl ?_
      exact q_iret C hQ rfl rfl rfl ⟨rfl, rfl, rfl, rfl, hC.row hF3 (by omega) (fun c q => by rcases q with q | q; exact Or.inr q; exact Or.inl (by simp only [SU]; omega)) a3, fun c hc => hF3 c (by omega)⟩
    | succ m ih =>
      intro i M3 hi hF3 a3
      have hY3 : YC M3 10 x.ye := hC.2.2.2.2.1.2.cong (hF3 _ (by omega)) (hF3 _ (by omega))
      refine r_iload C rfl rfl ?_
      refine r_iload_n C 2 rfl rfl rfl ?_
      refine r_icmp_ge C 44 rfl (by decide) (fun z => absurd (le_nI (by omega) (by omega) z) (by omega)) (fun _ => ?_)
      refine r_aload_n C 0 rfl rfl rfl rfl ?_
      refine r_getv C rfl f_X11_57 (by assumption) rfl ?_
      refine r_aload_n C 3 rfl rfl rfl rfl ?_
      refine v1_g C rfl mfX9_pass lk_X11_296 (by assumption) (p_pass hA hT (by omega) hY3 hF (ok_wkN hF ow (i := i) (by omega)) (by omega) a3) ?_
      rintro z M4 ⟨rfl, a4, hF4⟩
      refine r_pop C rfl rfl ?_
      refine r_iinc (c := nI 1) C rfl rfl (by decide) ?_
      refine r_goto C 23 rfl (by decide) ?_
      refine r_eqL ?_ (ih (i + 1) M4 (by omega) (hF3.trans hF4 (fun _ q => q) (fun _ q => q)) a4)
      first | rfl | (simp only [sm, add3, nI_add, Int32.add_zero, Int32.zero_add]; rfl)
  exact loop n 0 M2 (by omega) Fr.rfl aw
theorem K_high (hU : MU Sh N tx) (hV : VI b x) (hC : CI M x) (p : Int32) : Con E mX11_high 20 8 48 [.ref 0, .int p] Sh N G M (PR Sh N (CQ M (highA x p).2 (highA x p).1 x)) (CX1 (highA x p).1) := by
  have u0 := hU.1
  have hw4 := hV.1
  refine Con.ofQ (by decide +kernel) (by simp [Value.category]) (Nat.le_of_ble_eq_true rfl) (fun k C0 Q hQ => ?_)
  have C : CK k E mX11_high kdX11_high 20 8 48 := ⟨C0, kdX11_high_ok⟩
  refine r_aload_n C 0 rfl rfl rfl rfl ?_
  refine r_iload_n C 1 rfl rfl rfl ?_
  refine v1_x C rfl mfX11_wallAt lk_X11_197 (by assumption) (K_wallAt hU hV hC p) (by omega) (by omega) (fun X h => q_thr C hQ (Or.inl ⟨by rw [highA, if_pos h.2], h.1⟩)) ?_
  rintro z M1 ⟨rfl, w, hw, rfl, rfl⟩
  have hA := hU.2.2.2.2.2.2.2.2.1 w (by omega)
  have a0 := hA.1
  have hW := isW_nI (n := x.wn) (by omega) hw
  refine v0_r C rfl mfX8_roomAbove lk_X11_304 (by assumption) (p_room hA hC.2.2.2.2.1.2 hV.2.1 (hV.ow hw) (hC.2.2.2.2.2.1 w (by omega))) ?_
  have ea : highA x (nI w) = (0, nI (hiY x.ye (x.Rw w))) := by rw [highA, if_neg (by rw [hW]; decide), nI_clamp (by omega)]
  rw [ea] at hQ
  exact q_iret C hQ rfl rfl rfl ⟨rfl, rfl, rfl, rfl, hC, fun _ _ => rfl⟩
theorem K_when (hU : MU Sh N tx) (hV : VI b x) (hb : b < 2 ^ 26) (hC : CI M x) (p q : Int32) : Con E mX11_when 20 8 48 [.ref 0, .int p, .int q] Sh N G M (PR Sh N (CQ M (whenA x.ye x.wn x.Rw p q).2 (whenA x.ye x.wn x.Rw p q).1 x)) (CX1 (whenA x.ye x.wn x.Rw p q).1) := by
  obtain ⟨u0, u1, u2, u3, u4, u6, u10, u14, uw, u31, ui, u48, u51, u116, u117, u120, u121, u124, u125, u128⟩ := id hU
  have hw4 := hV.1
  have f0 : At Sh N 116 _ := u116
  refine Con.ofQ (by decide +kernel) (by simp [Value.category]) (Nat.le_of_ble_eq_true rfl) (fun k C0 Q hQ => ?_)
  have C : CK k E mX11_when kdX11_when 20 8 48 := ⟨C0, kdX11_when_ok⟩
  refine r_aload_n C 0 rfl rfl rfl rfl ?_
  refine r_iload_n C 1 rfl rfl rfl ?_
  refine v1_x C rfl mfX11_wallAt lk_X11_197 (by assumption) (K_wallAt hU hV hC p) (by omega) (by omega) (fun X h => q_thr C hQ (Or.inl ⟨by rw [whenA, if_pos h.2], h.1⟩)) ?_
  rintro z M1 ⟨rfl, w, hw, rfl, rfl⟩
  have hA := uw w (by omega)
  have hW := isW_nI (n := x.wn) (by omega) hw
  refine r_astore_n C 3 rfl rfl (by exact Nat.le_of_ble_eq_true rfl) rfl ?_
  refine r_iload_n C 2 rfl rfl rfl ?_
  refine r_ic (v := nI 1) C rfl (by decide) ?_
  refine r_bi (v := nI 9) C rfl (by decide) ?_
  refine s3_x C rfl mfX11_checkRange lk_X11_292 (K_checkRange q (nI 1) (nI 9)) (by omega) (by omega) (fun X h => q_thr C hQ (Or.inr ⟨by rw [whenA, if_neg (by rw [hW]; decide), if_pos h.2], h.1⟩)) ?_
  rintro z M2 ⟨rfl, rfl, h2⟩
  obtain ⟨n, hn1, hn, rfl⟩ := (inI_iff (by decide) (by decide)).mp h2
  have ea : whenA x.ye x.wn x.Rw (nI w) (nI n) = (0, whenS x.ye n 53 0 (x.Rw w)) := by rw [whenA, if_neg (by rw [hW]; decide), if_neg (by rw [h2]; decide), nI_clamp (by omega), nI_clamp (by omega)]
  rw [ea] at hQ
  refine r_aload_n C 0 rfl rfl rfl rfl ?_
  refine r_getv C rfl f_X11_66 (by assumption) rfl ?_
  refine r_aload_n C 3 rfl rfl rfl rfl ?_
  refine r_iload_n C 2 rfl rfl rfl ?_
  refine v2_g C rfl mfX1_weeksUntil lk_X11_307 (by assumption) (f_when u116 hA (u51.2 0 (by decide)) u48 (by omega) (by omega) hC.2.2.2.2.1.2 hV.2.1 (hV.ow hw) (by omega) (hC.2.2.2.2.2.1 w (by omega)) n rfl (by omega)) ?_
  rintro z M3 ⟨rfl, hF3⟩
  exact q_iret C hQ rfl rfl rfl ⟨rfl, rfl, rfl, rfl, hC.keep hF3 (fun c q => by simp only [SU]; omega), fun c hc => hF3 c (by omega)⟩
end CPUBB
