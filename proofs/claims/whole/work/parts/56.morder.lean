section MORDER
variable {E : VE} {Sh : Nat → SE} {N : Nat} {G : Bool} {M : MM} {o r w v yd yv t b w0 fo p bw q : Nat} {R : Row} {Y : YD} {A B : Row}
/-- the reference's best order so far -/
def ORS (M : MM) (o : Nat) (st : Nat × List Nat) : Prop := M o 30 = nI st.1 - nI 1 ∧ (st.1 ≠ 0 → ∀ i, i < st.2.length → M (o + 15) i = nI (st.2.getD i 0))
theorem ORS.cong {M' : MM} {st : Nat × List Nat} (h : ORS M o st) (h1 : M' o 30 = M o 30) (h2 : M' (o + 15) = M (o + 15)) : ORS M' o st := by
  unfold ORS
  rw [h1, h2]
  exact h
/-- cells and fields that an order writes -/
abbrev SO (o c : Nat) : Prop := SB o c ∨ c = o ∨ c = o + 14 ∨ c = o + 15
def FO (o k : Nat) (M M' : MM) : Prop := FrR o (SO o) (fun r => 12 + k < r ∧ r < 32) M M' ∧ ∀ j, j ≠ 30 → M' o j = M o j
theorem FO.rfl {k : Nat} : FO o k M M := ⟨FrR.rfl, fun _ _ => Eq.refl _⟩
theorem FO.trans {k k' : Nat} {M' M'' : MM} (h : FO o k M M') (h' : FO o k' M' M'') (hk : k ≤ k') : FO o k M M'' := ⟨h.1.trans h'.1 (fun _ q => q) (fun _ q => q) (fun _ q => q) (fun _ q => by omega), fun j hj => (h'.2 j hj).trans (h.2 j hj)⟩
theorem FO.of {k : Nat} {M' : MM} {S T : Nat → Prop} (h : FrR o S T M M') (hS : ∀ c, S c → SB o c) (hT : ∀ r, T r → 12 + k < r ∧ r < 32) (ho : ¬ S o) : FO o k M M' := ⟨h.mono (fun c q => Or.inl (hS c q)) hT, fun j _ => by rw [h.1 o (by omega) ho]⟩
theorem FO.YR {k : Nat} {M' : MM} (h : FO o k M M') (hY : YR M o Y) : YR M' o Y := hY.fr h.1 (fun k q z => by simp only [SO, SB] at z; omega)
theorem fell_ne (h : OK b R) (hb : b < 2 ^ 29) : R 9 + nI 1 ≠ R 9 := by
  have h1 := h.fel
  rw [h1.2, nI_add]
  intro z
  have := (nI_eq (by omega) (by omega)).mp z
  omega
theorem m_orderOn (hM : MO Sh N o) (hF : Y.Fine) {T : Nat} {l0 : List Nat} (hT6 : T ≤ 6) {R0 : Row} (hm0 : mno R0 ≤ 24) :
    ∀ (n k0 L : Nat) (M : MM) (R : Row) (b : Nat) (pre : List Nat) (st : Nat × List Nat), k0 + n = T → L < 64 → pcN L = n → pre.length = k0 → (∀ i, i < k0 → M (o + 14) i = nI (pre.getD i 0)) → ORS M o st → orP T l0 st → YR M o Y → OK b R → b + n < 2 ^ 28 → Ag (mrow M o (12 + k0)) R → Ag (mrow M o 12) R0 → R 9 = R0 9 →
    Con E mX12_orderOn (7 + n) 0 0 [.ref o, .int (nI k0), .int (nI L)] Sh N G M (PR Sh N (fun z M' => z = none ∧ FO o k0 M M' ∧ (∀ i, i < k0 → M' (o + 14) i = M (o + 14) i) ∧ ORS M' o (orF Y n L R pre st))) nox := by
  have h0 := hM.1
  have h14 : At Sh N (o + 14) (arE 0 6) := hM.ar 13 rfl
  have h15 : At Sh N (o + 15) (arE 0 6) := hM.ar 14 rfl
  intro n
  induction n with
  | zero =>
    intro k0 L M R b pre st hk hL hp hpl hrow hS hP hY hO hb a a12 h9
    have hL0 : L = 0 := (pc_0 hL).mp hp
    subst hL0
    obtain ⟨e1, e2, -⟩ := blN_eq hO
    have hP1 := hP.1
    refine Con.ofQ (by decide +kernel) (by simp [Value.category]) (Nat.le_of_ble_eq_true rfl) (fun k C0 Q hQ => ?_)
    have C : CK k E mX12_orderOn kdX12_orderOn 7 0 0 := ⟨C0, kdX12_orderOn_ok⟩
    refine r_iload_n C 2 rfl rfl rfl ?_
    refine r_if_ne C 65 rfl (by decide) (fun z => absurd rfl z) (fun _ => ?_)
    refine r_aload_n C 0 rfl rfl rfl rfl ?_
    refine r_bi (v := nI 12) C rfl (by decide) ?_
    refine r_iload_n C 1 rfl rfl rfl ?_
    refine r_iadd C rfl ?_
    rw [nI_add]
    refine v1_r C rfl mfX12_bulges lk_X12_334 (by assumption) (m_bulges hM rfl (by omega) hO a) ?_
    rw [e1]
    refine r_istore_n C 3 rfl rfl (by exact Nat.le_of_ble_eq_true rfl) ?_
    refine r_aload_n C 0 rfl rfl rfl rfl ?_
    refine r_geti C rfl f_X12_337 (by assumption) rfl ?_
    rw [hS.1]
    refine r_ic (v := (-1)) C rfl (by decide) ?_
    have leaf : (st.1 = 0 ∨ blN R + 1 < st.1) → PT k E Q 0 0 Sh N G M 30 [some (.ref o), some (.int (nI k0)), some (.int (nI 0)), some (.int (nI (blN R))), none] [] := by
      intro h
      have ef : orF Y 0 0 R pre st = (blN R + 1, pre) := by rw [orF, if_pos h]
      refine r_aload_n C 0 rfl rfl rfl rfl ?_
      refine r_iload_n C 3 rfl rfl rfl ?_
      refine r_puti C rfl f_X12_337 (by assumption) rfl rfl rfl ?_
      obtain ⟨M1, hM1⟩ : ∃ M1, M1 = up M o 30 (nI (blN R)) := ⟨_, rfl⟩
      rw [← hM1]
      have hF1 : FO o k0 M M1 := ⟨⟨fun c h3 h4 => by rw [hM1]; exact up_row M _ (fun z => h4 (Or.inr (Or.inl z))), fun s h3 h4 j hj => by rw [hM1, up_ne_row]⟩, fun j hj => by rw [hM1, up_ne _ _ (by omega)]⟩
      have e14 : M1 (o + 14) = M (o + 14) := by rw [hM1, up_row _ _ (by omega)]
      have l2 : ∀ (m j : Nat) (M3 : MM), j + m = k0 → FO o k0 M M3 → M3 o 30 = nI (blN R) → M3 (o + 14) = M (o + 14) → (∀ c, c < j → M3 (o + 15) c = M (o + 14) c) → PT k E Q 0 0 Sh N G M3 38 [some (.ref o), some (.int (nI k0)), some (.int (nI 0)), some (.int (nI (blN R))), some (.int (nI j))] [] := by
        intro m
        induction m with
        | zero =>
          intro j M3 hj hF3 e30 e14 h15c
          refine r_iload C rfl rfl ?_
          refine r_iload_n C 1 rfl rfl rfl ?_
          refine r_icmp_ge C 64 rfl (by decide) (fun _ => ?_) (fun q => absurd ((nI_leI (by omega) (by omega)).mpr (by omega)) q)
          refine q_vret C hQ rfl rfl ⟨rfl, rfl, rfl, hF3, fun i hi => by rw [e14], ?_⟩
          rw [ef]
          refine ⟨?_, fun _ i hi => ?_⟩
          · rw [e30]
            show nI (blN R) = nI (blN R + 1) - nI 1
            rw [pk_sub (by omega)]
            rfl
          · have hi : i < pre.length := hi
            rw [h15c i (by omega)]
            exact hrow i (by omega)
        | succ m ih2 =>
          intro j M3 hj hF3 e30 e14 h15c
          refine r_iload C rfl rfl ?_
          refine r_iload_n C 1 rfl rfl rfl ?_
          refine r_icmp_ge C 64 rfl (by decide) (fun q => absurd (le_nI (by omega) (by omega) q) (by omega)) (fun _ => ?_)
          refine r_aload_n C 0 rfl rfl rfl rfl ?_
          refine r_getv C rfl f_X12_59 (by assumption) rfl ?_
          refine r_iload C rfl rfl ?_
          refine r_aload_n C 0 rfl rfl rfl rfl ?_
          refine r_getv C rfl f_X12_56 (by assumption) rfl ?_
          refine r_iload C rfl rfl ?_
          refine r_iald C rfl (by assumption) (j) rfl (by omega) (by decide) ?_
          refine r_iast C rfl (by assumption) (j) rfl (by omega) (by decide) ?_
          refine r_iinc (c := nI 1) C rfl rfl (by decide) ?_
          refine r_goto C 38 rfl (by decide) ?_
          refine r_eqL ?_ (ih2 (j + 1) _ (by omega) ?_ ?_ ?_ ?_)
          · first | rfl | (simp only [sm, add3, nI_add, Int32.add_zero, Int32.zero_add]; rfl)
          · refine hF3.trans (k' := k0) ⟨⟨fun c h3 h4 => up_row M3 _ (fun z => h4 (by simp only [SO]; omega)), fun s h3 h4 d hd => by simp only [mrow]; rw [up_row M3 _ (by omega)]⟩, fun j hj => by rw [up_row M3 _ (by omega)]⟩ (by omega)
          · rw [up_row M3 _ (by omega), e30]
          · rw [up_row M3 _ (by omega), e14]
          · intro c hc
            by_cases ec : c = j
            · rw [ec, up_same, e14]
            · rw [up_ne _ _ (by omega), h15c c (by omega)]
      refine r_ic (v := nI 0) C rfl (by decide) ?_
      refine r_istore C rfl (by exact Nat.le_of_ble_eq_true rfl) ?_
      exact l2 k0 0 M1 (by omega) hF1 (by rw [hM1, up_same]) e14 (fun c hc => absurd hc (Nat.not_lt_zero c))
    refine r_icmp_eq C 30 rfl (by decide) (fun z => leaf (Or.inl ((m1_ne (by omega)).mp z))) (fun z => ?_)
    have z : st.1 ≠ 0 := fun e => z ((m1_ne (by omega)).mpr e)
    refine r_iload_n C 3 rfl rfl rfl ?_
    refine r_aload_n C 0 rfl rfl rfl rfl ?_
    refine r_geti C rfl f_X12_337 (by assumption) rfl ?_
    rw [hS.1]
    refine r_icmp_lt C 30 rfl (by decide) (fun y => leaf (Or.inr ((m1_lt' (by omega) (by omega)).mp y))) (fun y => ?_)
    have y : ¬ blN R + 1 < st.1 := fun e => y ((m1_lt' (by omega) (by omega)).mpr e)
    refine q_vret C hQ rfl rfl ⟨rfl, rfl, rfl, FO.rfl, fun _ _ => rfl, ?_⟩
    rw [orF, if_neg (by omega)]
    exact hS
  | succ n ih =>
    intro k0 L M R b pre st hk hL hp hpl hrow hS hP hY hO hb a a12 h9
    have hL0 : L ≠ 0 := fun z => by have := (pc_0 hL).mpr z; omega
    refine Con.ofQ (by decide +kernel) (by simp [Value.category]) (Nat.le_of_ble_eq_true rfl) (fun k C0 Q hQ => ?_)
    have C : CK k E mX12_orderOn kdX12_orderOn (7+(n+1)) 0 0 := ⟨C0, kdX12_orderOn_ok⟩
    refine r_iload_n C 2 rfl rfl rfl ?_
    refine r_if_ne C 65 rfl (by decide) (fun _ => ?_) (fun z => absurd ((nI_eq (b := 0) (by omega) (by decide)).mp z) hL0)
    obtain ⟨g, hg⟩ : ∃ g, g = fun x st => if L / 2 ^ x % 2 = 1 ∧ wkF Y (workR x R) = false then orF Y n (L - 2 ^ x) (orW Y x R) (pre ++ [x]) st else st := ⟨_, rfl⟩
    have hor : orF Y (n + 1) L R pre st = orL g 0 6 st := by rw [orF, hg]
    have gP : ∀ x s, orP T l0 s → orP T l0 (g x s) := fun x s hs => by
      rw [hg]
      show orP T l0 (if L / 2 ^ x % 2 = 1 ∧ wkF Y (workR x R) = false then orF Y n (L - 2 ^ x) (orW Y x R) (pre ++ [x]) s else s)
      split
      · exact orF_P hF (ok_orW hF hO (by omega) x) (by omega) (by rw [List.length_append, List.length_singleton]; omega) hs
      · exact hs
    have loop : ∀ (m i : Nat) (M1 : MM) (s1 : Nat × List Nat) (v4 : Option Value), i + m = 6 → FO o k0 M M1 → (∀ j, j < k0 → M1 (o + 14) j = M (o + 14) j) → ORS M1 o s1 → orP T l0 s1 → orF Y (n + 1) L R pre st = orL g i m s1 → PT k E Q 0 0 Sh N G M1 67 [some (.ref o), some (.int (nI k0)), some (.int (nI L)), some (.int (nI i)), v4] [] := by
      intro m
      induction m with
      | zero =>
        intro i M1 s1 v4 hi hFr hr1 hS1 hP1 he
        refine r_iload_n C 3 rfl rfl rfl ?_
        refine r_bi (v := nI 6) C rfl (by decide) ?_
        refine r_icmp_ge C 161 rfl (by decide) (fun _ => ?_) (fun z => absurd ((nI_leI (by omega) (by omega)).mpr (by omega)) z)
        exact q_vret C hQ rfl rfl ⟨rfl, rfl, rfl, hFr, hr1, by rw [he]; exact hS1⟩
      | succ m ihm =>
        intro i M1 s1 v4 hi hFr hr1 hS1 hP1 he
        rw [orL] at he
        have next : ∀ M2 v4, FO o k0 M M2 → (∀ j, j < k0 → M2 (o + 14) j = M (o + 14) j) → ORS M2 o (g i s1) → PT k E Q 0 0 Sh N G M2 155 [some (.ref o), some (.int (nI k0)), some (.int (nI L)), some (.int (nI i)), v4] [] := by
          intro M2 v4 hFr2 hr2 hS2
          refine r_iinc (c := nI 1) C rfl rfl (by decide) ?_
          refine r_goto C 67 rfl (by decide) ?_
          refine r_eqL ?_ (ihm (i + 1) M2 (g i s1) v4 (by omega) hFr2 hr2 hS2 (gP i s1 hP1) he)
          first | rfl | (simp only [sm, add3, nI_add, Int32.add_zero, Int32.zero_add]; rfl)
        refine r_iload_n C 3 rfl rfl rfl ?_
        refine r_bi (v := nI 6) C rfl (by decide) ?_
        refine r_icmp_ge C 161 rfl (by decide) (fun z => absurd (le_nI (by omega) (by omega) z) (by omega)) (fun _ => ?_)
        refine r_iload_n C 2 rfl rfl rfl ?_
        refine r_iload_n C 3 rfl rfl rfl ?_
        refine r_ishr C rfl ?_
        rw [nx_shr (by omega) (by omega)]
        refine r_ic (v := nI 1) C rfl (by decide) ?_
        refine r_iand C rfl ?_
        have hdl := Nat.div_le_self L (2 ^ i)
        rw [pk_andN (by omega) 1 (by decide)]
        have hmod : L / 2 ^ i % 2 ^ 1 < 2 := Nat.mod_lt _ (by decide)
        refine r_if_ne C 84 rfl (by decide) (fun z => ?_) (fun z => ?_)
        rotate_left
        · have z : L / 2 ^ i % 2 ^ 1 = 0 := (nI_eq (b := 0) (by omega) (by decide)).mp z
          rw [Nat.pow_one] at z
          refine r_goto C 155 rfl (by decide) ?_
          refine next M1 _ hFr hr1 ?_
          rw [hg]
          show ORS M1 o (if L / 2 ^ i % 2 = 1 ∧ wkF Y (workR i R) = false then _ else s1)
          rw [if_neg (fun y => by rw [z] at y; exact absurd y.1 (by decide))]
          exact hS1
        have z : L / 2 ^ i % 2 = 1 := by
          have z : L / 2 ^ i % 2 ^ 1 ≠ 0 := fun y => z (by rw [y]; rfl)
          rw [Nat.pow_one] at z hmod
          omega
        obtain ⟨z1, z2⟩ := pc_sub L hL i (by omega) z
        refine r_bi (v := nI 12) C rfl (by decide) ?_
        refine r_iload_n C 1 rfl rfl rfl ?_
        refine r_iadd C rfl ?_
        rw [nI_add]
        refine r_ic (v := nI 1) C rfl (by decide) ?_
        refine r_iadd C rfl ?_
        rw [nI_add]
        refine r_istore C rfl (by exact Nat.le_of_ble_eq_true rfl) ?_
        refine r_aload_n C 0 rfl rfl rfl rfl ?_
        refine r_bi (v := nI 12) C rfl (by decide) ?_
        refine r_iload_n C 1 rfl rfl rfl ?_
        refine r_iadd C rfl ?_
        rw [nI_add]
        have a1 : Ag (mrow M1 o (12 + k0)) R := hFr.1.row (by omega) (by omega) a hO.mn
        refine r_iload C rfl rfl ?_
        refine v2_g C rfl mfX12_copy lk_X12_215 (by assumption) (m_copy hM (12 + k0) (12 + k0 + 1) rfl rfl (by omega) (by omega) hO.mn a1) ?_
        rintro z9 M2 ⟨rfl, a2, hFr2⟩
        refine r_aload_n C 0 rfl rfl rfl rfl ?_
        refine r_iload C rfl rfl ?_
        refine r_iload_n C 3 rfl rfl rfl ?_
        refine v2_g C rfl mfX12_doWork lk_X12_331 (by assumption) (m_doWork hM i rfl rfl (by omega) (by omega) hO a2) ?_
        rintro z9 M3 ⟨rfl, a3, hFr3⟩
        have oW := ok_work hO i
        have hF3 : FO o k0 M M3 := (hFr.trans (FO.of (k := k0) hFr2 (fun _ q => q.elim) (fun _ q => by omega) (fun q => q)) (Nat.le_refl _)).trans (FO.of (k := k0) hFr3 (fun _ q => q.elim) (fun _ q => by omega) (fun q => q)) (Nat.le_refl _)
        have eq1 : M3 (o + 14) = M1 (o + 14) := (hFr3.1 _ (by omega) (fun q => q)).trans (hFr2.1 _ (by omega) (fun q => q))
        refine r_aload_n C 0 rfl rfl rfl rfl ?_
        refine r_getv C rfl f_X12_56 (by assumption) rfl ?_
        refine r_iload_n C 1 rfl rfl rfl ?_
        refine r_iload_n C 3 rfl rfl rfl ?_
        refine r_iast C rfl (by assumption) (k0) rfl (by omega) (by decide) ?_
        obtain ⟨M4, hM4⟩ : ∃ M4, M4 = up M3 (o + 14) k0 (nI i) := ⟨_, rfl⟩
        rw [← hM4]
        have hU4 : FrR o (fun c => c = o + 14) (fun _ => False) M3 M4 := ⟨fun c h3 h4 => by rw [hM4]; exact up_row M3 _ h4, fun s h3 h4 j hj => by simp only [mrow]; rw [hM4, up_row M3 _ (by omega)]⟩
        have hF4 : FO o k0 M M4 := hF3.trans (k' := k0) ⟨hU4.mono (fun c q => by simp only [SO]; omega) (fun _ q => q.elim), fun j hj => by rw [hU4.1 o (by omega) (by omega)]⟩ (Nat.le_refl _)
        have a4 : Ag (mrow M4 o (12 + k0 + 1)) (workR i R) := hU4.row (by omega) (fun q => q) a3 oW.mn
        have r4 : ∀ j, j < k0 → M4 (o + 14) j = M (o + 14) j := fun j hj => by rw [hM4, up_ne _ _ (by omega), eq1]; exact hr1 j hj
        have r4k : M4 (o + 14) k0 = nI i := by rw [hM4, up_same]
        have hS4 : ORS M4 o s1 := hS1.cong (by rw [hU4.1 o (by omega) (by omega), hFr3.1 o (by omega) (fun q => q), hFr2.1 o (by omega) (fun q => q)]) (by rw [hU4.1 _ (by omega) (by omega), hFr3.1 _ (by omega) (fun q => q), hFr2.1 _ (by omega) (fun q => q)])
        refine r_aload_n C 0 rfl rfl rfl rfl ?_
        refine r_iload C rfl rfl ?_
        refine v1_g C rfl mfX12_week lk_X12_317 (by assumption) (m_week hM rfl (by omega) (hF4.YR hY) hF oW (by omega) a4) ?_
        rintro z9 M5 ⟨rfl, a5, hFr6⟩
        have hF5 : FO o k0 M M5 := hF4.trans (k' := k0) (FO.of hFr6 (fun _ q => q) (fun _ q => by omega) (by simp only [SB]; omega)) (Nat.le_refl _)
        have eq5 : M5 (o + 14) = M4 (o + 14) := hFr6.1 _ (by omega) (by simp only [SB]; omega)
        have r5 : ∀ j, j < k0 → M5 (o + 14) j = M (o + 14) j := fun j hj => by rw [eq5]; exact r4 j hj
        have hS5 : ORS M5 o s1 := hS4.cong (by rw [hFr6.1 o (by omega) (by simp only [SB]; omega)]) (hFr6.1 _ (by omega) (by simp only [SB]; omega))
        have b12 : Ag (mrow M5 o 12) R0 := hF5.1.row (by decide) (by omega) a12 hm0
        have oW2 := ok_wk hF oW (by omega)
        refine r_aload_n C 0 rfl rfl rfl rfl ?_
        refine r_iload C rfl rfl ?_
        refine r_bi (v := nI 9) C rfl (by decide) ?_
        refine v2_r C rfl mfX12_of lk_X12_238 (by assumption) (m_of hM 9 rfl rfl (by omega) (by decide) a5) ?_
        refine r_aload_n C 0 rfl rfl rfl rfl ?_
        refine r_bi (v := nI 12) C rfl (by decide) ?_
        refine r_bi (v := nI 9) C rfl (by decide) ?_
        refine v2_r C rfl mfX12_of lk_X12_238 (by assumption) (m_of hM 9 rfl rfl (by decide) (by decide) b12) ?_
        have e9 := wk_9 oW hF
        rw [work_tr i R (by omega)] at e9
        refine r_icmp_ne C 155 rfl (by decide) (fun y => ?_) (fun y => ?_)
        · have y : wkF Y (workR i R) = true := by
            cases yy : wkF Y (workR i R) with
            | true => rfl
            | false => rw [yy, if_neg (by decide), h9] at e9; exact absurd e9 y
          refine next M5 _ hF5 r5 ?_
          rw [hg]
          show ORS M5 o (if L / 2 ^ i % 2 = 1 ∧ wkF Y (workR i R) = false then _ else s1)
          rw [if_neg (fun x => by rw [y] at x; exact absurd x.2 (by decide))]
          exact hS5
        have y : wkF Y (workR i R) = false := by
          cases yy : wkF Y (workR i R) with
          | false => rfl
          | true =>
            rw [yy, if_pos rfl] at e9
            rw [e9, ← h9] at y
            exact absurd y (fell_ne hO (by omega))
        rw [y, if_neg (by decide), h9] at e9
        have egi : g i s1 = orF Y n (L - 2 ^ i) (orW Y i R) (pre ++ [i]) s1 := by
          rw [hg]
          show (if L / 2 ^ i % 2 = 1 ∧ wkF Y (workR i R) = false then orF Y n (L - 2 ^ i) (orW Y i R) (pre ++ [i]) s1 else s1) = _
          rw [if_pos ⟨z, y⟩]
        refine r_aload_n C 0 rfl rfl rfl rfl ?_
        refine r_iload_n C 1 rfl rfl rfl ?_
        refine r_ic (v := nI 1) C rfl (by decide) ?_
        refine r_iadd C rfl ?_
        rw [nI_add]
        refine r_iload_n C 2 rfl rfl rfl ?_
        refine r_ic (v := nI 1) C rfl (by decide) ?_
        refine r_iload_n C 3 rfl rfl rfl ?_
        refine r_ishl C rfl ?_
        refine r_ic (v := (-1)) C rfl (by decide) ?_
        refine r_ixor C rfl ?_
        refine r_iand C rfl ?_
        rw [pc_clr L hL i (by omega) z]
        refine v2_g C rfl mfX12_orderOn lk_X12_340 (by assumption) (ih (k0 + 1) (L - 2 ^ i) M5 (orW Y i R) (b + 1) (pre ++ [i]) s1 (by omega) (Nat.lt_of_le_of_lt (Nat.sub_le _ _) hL) (by omega) (by rw [List.length_append, List.length_singleton]; omega) (by rw [eq5]; exact pre_at' hpl (fun j hj => by rw [r4 j hj]; exact hrow j hj) r4k) hS5 hP1 (hF5.YR hY) (ok_orW hF hO (by omega) i) (by omega) a5 b12 e9) ?_
        rintro z9 M6 ⟨rfl, hFr8, hr8, hS8⟩
        exact next M6 _ (hF5.trans hFr8 (by omega)) (fun j hj => by rw [hr8 j (by omega)]; exact r5 j hj) (by rw [egi]; exact hS8)
    refine r_ic (v := nI 0) C rfl (by decide) ?_
    refine r_istore_n C 3 rfl rfl (by exact Nat.le_of_ble_eq_true rfl) ?_
    exact loop 6 0 M st none (by omega) FO.rfl (fun _ _ => rfl) hS hP hor
def bsumP (L : Nat) : Nat → Nat → Nat
  | _, 0 => 0
  | j, m + 1 => L / 2 ^ j % 2 + bsumP L (j + 1) m
/-- the reference keeps this order -/
def OKR (M : MM) (o : Nat) (x : Option (List Nat)) : Prop := M o 29 = plI x ∧ ∀ l, x = some l → l.length ≤ 6 ∧ ∀ i, i < l.length → M (o + 13) i = nI (l.getD i 0)
theorem OKR.cong {M' : MM} {x : Option (List Nat)} (h : OKR M o x) (h1 : M' o 29 = M o 29) (h2 : M' (o + 13) = M (o + 13)) : OKR M' o x := by
  unfold OKR
  rw [h1, h2]
  exact h
/-- what 'order' answers -/
def orderA (Y : YD) (wn : Nat) (Rw : Nat → Row) (x0 : Option (List Nat)) (x y : Int32) : Nat × Option (Nat × List Nat) :=
  if isW x wn = false then (1, none) else if inI y 0 (nI 63) = false then (2, none) else (0, some (orF Y (pcN y.toNatClampNeg) y.toNatClampNeg (Rw x.toNatClampNeg) [] (0, x0.getD [])))
def orI (x : Option (Nat × List Nat)) : Int32 := match x with
  | some st => nI st.1 - nI 1
  | none => 0
def orK (x0 : Option (List Nat)) (x : Option (Nat × List Nat)) : Option (List Nat) := match x with
  | some st => if st.1 = 0 then x0 else some st.2
  | none => x0
abbrev SO2 (o c : Nat) : Prop := SB o c ∨ c = o ∨ c = o + 13 ∨ c = o + 14 ∨ c = o + 15
theorem m_order (hM : MO Sh N o) {wn : Nat} (hwn : M o 4 = nI wn) (hw4 : wn ≤ 4) (hY : YR M o Y) (hF : Y.Fine) {Rw : Nat → Row} (hO : ∀ i, i < wn → OK b (Rw i)) (hb : b < 2 ^ 27) (a : ∀ i, i < wn → Ag (mrow M o i) (Rw i)) {x0 : Option (List Nat)} (hk : OKR M o x0) (x y : Int32) :
    Con E mX12_order 14 0 0 [.ref o, .int x, .int y] Sh N G M (PR Sh N (fun v M' => v = some (.int (orI (orderA Y wn Rw x0 x y).2)) ∧ FrR o (SO2 o) (fun r => 12 ≤ r ∧ r < 32) M M' ∧ M' o 0 = nI (orderA Y wn Rw x0 x y).1 ∧ (∀ j, j ≠ 0 → j ≠ 29 → j ≠ 30 → M' o j = M o j) ∧ OKR M' o (orK x0 (orderA Y wn Rw x0 x y).2))) nox := by
  have h0 := hM.1
  have h13 : At Sh N (o + 13) (arE 0 6) := hM.ar 12 rfl
  have h15 : At Sh N (o + 15) (arE 0 6) := hM.ar 14 rfl
  have fr1 : ∀ (M : MM) (j : Nat) (z : Int32), FrR o (SO2 o) (fun r => 12 ≤ r ∧ r < 32) M (up M o j z) := fun M j z => ⟨fun c h1 h2 => up_row M _ (fun q => h2 (Or.inr (Or.inl q))), fun s h1 h2 i hi => by rw [up_ne_row]⟩
  refine Con.ofQ (by decide +kernel) (by simp [Value.category]) (Nat.le_of_ble_eq_true rfl) (fun k C0 Q hQ => ?_)
  have C : CK k E mX12_order kdX12_order 14 0 0 := ⟨C0, kdX12_order_ok⟩
  refine r_aload_n C 0 rfl rfl rfl rfl ?_
  refine r_ic (v := nI 0) C rfl (by decide) ?_
  refine r_puti C rfl f_X12_90 (by assumption) rfl rfl rfl ?_
  refine r_aload_n C 0 rfl rfl rfl rfl ?_
  refine r_iload_n C 1 rfl rfl rfl ?_
  refine v1_r C rfl mfX12_isWall lk_X12_244 (by assumption) (c_isWall hM (by rw [up_ne _ _ (by omega)]; exact hwn) x) ?_
  refine r_if_ne C 19 rfl (by decide) (fun h => ?_) (fun h => ?_)
  rotate_left
  · have h := bI_0 h
    have e : orderA Y wn Rw x0 x y = (1, none) := by rw [orderA, if_pos h]
    refine r_aload_n C 0 rfl rfl rfl rfl ?_
    refine r_ic (v := nI 1) C rfl (by decide) ?_
    refine v1_r C rfl mfX12_fail lk_X12_208 (by assumption) (c_fail hM (nI 1)) ?_
    rw [up_up]
    refine q_iret C hQ rfl rfl rfl ⟨rfl, rfl, by rw [e]; rfl, fr1 _ _ _, by rw [e, up_same], fun j j1 j2 j3 => up_ne _ _ (by omega), ?_⟩
    rw [e]
    exact hk.cong (up_ne _ _ (by omega)) (up_row _ _ (by omega))
  have h := bI_1 h
  obtain ⟨w, hw, rfl⟩ := (isW_iff (by omega)).mp h
  refine r_iload_n C 2 rfl rfl rfl ?_
  refine r_ic (v := nI 0) C rfl (by decide) ?_
  refine r_bi (v := nI 63) C rfl (by decide) ?_
  refine s3_r C rfl mfX12_isIn lk_X12_96 (c_X12_isIn y (nI 0) (nI 63)) ?_
  rw [inI_if]
  refine r_if_ne C 35 rfl (by decide) (fun h2 => ?_) (fun h2 => ?_)
  rotate_left
  · have h2 : inI y 0 (nI 63) = false := bI_0 h2
    have e : orderA Y wn Rw x0 (nI w) y = (2, none) := by rw [orderA, if_neg (by rw [h]; decide), if_pos h2]
    refine r_aload_n C 0 rfl rfl rfl rfl ?_
    refine r_ic (v := nI 2) C rfl (by decide) ?_
    refine v1_r C rfl mfX12_fail lk_X12_208 (by assumption) (c_fail hM (nI 2)) ?_
    rw [up_up]
    refine q_iret C hQ rfl rfl rfl ⟨rfl, rfl, by rw [e]; rfl, fr1 _ _ _, by rw [e, up_same], fun j j1 j2 j3 => up_ne _ _ (by omega), ?_⟩
    rw [e]
    exact hk.cong (up_ne _ _ (by omega)) (up_row _ _ (by omega))
  have h2 : inI y 0 (nI 63) = true := bI_1 h2
  obtain ⟨L, -, hn9, rfl⟩ := (inI_iff (a := 0) (by decide) (by decide)).mp h2
  obtain ⟨st, hst⟩ : ∃ st, st = orF Y (pcN L) L (Rw w) [] (0, x0.getD []) := ⟨_, rfl⟩
  have e : orderA Y wn Rw x0 (nI w) (nI L) = (0, some st) := by
    rw [orderA, if_neg (by rw [h]; decide), if_neg (by rw [h2]; decide), nI_clamp (by omega), nI_clamp (by omega), hst]
  rw [e] at hQ
  have p6 := pc_le (L := L)
  have hP : orP (pcN L) (x0.getD []) st := by
    rw [hst]
    exact orF_P hF (hO w hw) (by omega) (by show 0 + pcN L = pcN L; omega) ⟨by show 0 ≤ 121; omega, fun _ => rfl, fun z => absurd rfl z⟩
  have hP1 := hP.1
  obtain ⟨M0, hM0⟩ : ∃ M0, M0 = up M o 0 (nI 0) := ⟨_, rfl⟩
  rw [← hM0]
  have f0 : FrR o (SO2 o) (fun r => 12 ≤ r ∧ r < 32) M M0 := by rw [hM0]; exact fr1 _ _ _
  have g0 : M0 o 0 = nI 0 ∧ ∀ j, j ≠ 0 → j ≠ 29 → j ≠ 30 → M0 o j = M o j := ⟨by rw [hM0, up_same], fun j j1 j2 j3 => by rw [hM0, up_ne _ _ (by omega)]⟩
  have a0 : Ag (mrow M0 o w) (Rw w) := by rw [hM0, up_ne_row]; exact a w hw
  have hY0 : YR M0 o Y := by rw [hM0]; exact hY.up _ _
  have hk0 : OKR M0 o x0 := by rw [hM0]; exact hk.cong (up_ne _ _ (by omega)) (up_row _ _ (by omega))
  refine r_aload_n C 0 rfl rfl rfl rfl ?_
  refine r_iload_n C 1 rfl rfl rfl ?_
  refine r_bi (v := nI 12) C rfl (by decide) ?_
  refine v2_g C rfl mfX12_copy lk_X12_215 (by assumption) (m_copy hM w 12 rfl rfl (by omega) (by decide) (hO w hw).mn a0) ?_
  rintro z M1 ⟨rfl, a1, hFr1⟩
  have e1o : M1 o = M0 o := hFr1.1 o (by omega) (fun q => q)
  refine r_aload_n C 0 rfl rfl rfl rfl ?_
  refine r_ic (v := (-1)) C rfl (by decide) ?_
  refine r_puti C rfl f_X12_337 (by assumption) rfl rfl rfl ?_
  obtain ⟨M2, hM2⟩ : ∃ M2, M2 = up M1 o 30 (-1) := ⟨_, rfl⟩
  rw [← hM2]
  have f2 : FrR o (SO2 o) (fun r => 12 ≤ r ∧ r < 32) M M2 := (f0.trans hFr1 (U := SO2 o) (V := fun r => 12 ≤ r ∧ r < 32) (fun _ q => q) (fun _ q => q.elim) (fun _ q => q) (fun _ q => by omega)).trans (by rw [hM2]; exact fr1 _ _ _) (fun _ q => q) (fun _ q => q) (fun _ q => q) (fun _ q => q)
  have o2 : ∀ j, j ≠ 30 → M2 o j = M0 o j := fun j hj => by rw [hM2, up_ne _ _ (by omega), e1o]
  have a2 : Ag (mrow M2 o 12) (Rw w) := by rw [hM2, up_ne_row]; exact a1
  have hY2 : YR M2 o Y := hY.fr f2 (fun k q z => by simp only [SO2, SB] at z; omega)
  have k2 : OKR M2 o x0 := hk0.cong (o2 29 (by decide)) (by rw [hM2, up_row _ _ (by omega)]; exact hFr1.1 _ (by omega) (fun q => q))
  have hS2 : ORS M2 o (0, x0.getD []) := ⟨by rw [hM2, up_same]; rfl, fun z => absurd rfl z⟩
  refine r_aload_n C 0 rfl rfl rfl rfl ?_
  refine r_ic (v := nI 0) C rfl (by decide) ?_
  refine r_iload_n C 2 rfl rfl rfl ?_
  refine v2_g C rfl mfX12_orderOn lk_X12_340 (by assumption) (m_orderOn hM hF (T := pcN L) (l0 := x0.getD []) p6 (hO w hw).mn (pcN L) 0 L M2 (Rw w) b [] (0, x0.getD []) (by omega) (by omega) rfl rfl (fun i hi => absurd hi (Nat.not_lt_zero i)) hS2 ⟨by show 0 ≤ 121; omega, fun _ => rfl, fun z => absurd rfl z⟩ hY2 (hO w hw) (by omega) a2 a2 rfl) ?_
  rintro z M3 ⟨rfl, hFo, -, hS3⟩
  rw [← hst] at hS3
  have f3 : FrR o (SO2 o) (fun r => 12 ≤ r ∧ r < 32) M M3 := f2.trans hFo.1 (fun _ q => q) (fun c q => by simp only [SO, SO2] at q ⊢; omega) (fun _ q => q) (fun _ q => by omega)
  have o3 : ∀ j, j ≠ 30 → M3 o j = M0 o j := fun j hj => by rw [hFo.2 j hj]; exact o2 j hj
  have k3 : OKR M3 o x0 := k2.cong (hFo.2 29 (by decide)) (hFo.1.1 _ (by omega) (by simp only [SO, SB]; omega))
  refine r_aload_n C 0 rfl rfl rfl rfl ?_
  refine r_geti C rfl f_X12_337 (by assumption) rfl ?_
  rw [hS3.1]
  refine r_ic (v := (-1)) C rfl (by decide) ?_
  refine r_icmp_ne C 63 rfl (by decide) (fun z => ?_) (fun z => ?_)
  rotate_left
  · have z := (m1_ne (by omega)).mp z
    refine r_ic (v := (-1)) C rfl (by decide) ?_
    refine q_iret C hQ rfl rfl rfl ⟨rfl, rfl, by show _ = some (Value.int (nI st.1 - nI 1)); rw [z]; rfl, f3, by rw [o3 0 (by decide)]; exact g0.1, fun j j1 j2 j3 => by rw [o3 j j3]; exact g0.2 j j1 j2 j3, ?_⟩
    show OKR M3 o (if st.1 = 0 then x0 else some st.2)
    rw [if_pos z]
    exact k3
  have z : st.1 ≠ 0 := fun y => z ((m1_ne (by omega)).mpr y)
  have hlen := hP.2.2 z
  refine r_aload_n C 0 rfl rfl rfl rfl ?_
  refine r_ic (v := nI 0) C rfl (by decide) ?_
  refine r_puti C rfl f_X12_62 (by assumption) rfl rfl rfl ?_
  have cl : ∀ (m j : Nat) (M5 : MM), j + m = pcN L → FrR o (SO2 o) (fun r => 12 ≤ r ∧ r < 32) M M5 → (∀ c, c ≠ 29 → M5 o c = M3 o c) → M5 o 29 = nI (pcN L) → M5 (o + 15) = M3 (o + 15) → (∀ c, c < j → M5 (o + 13) c = M3 (o + 15) c) → PT k E Q 0 0 Sh N G M5 98 [some (.ref o), some (.int (nI w)), some (.int (nI L)), some (.int (nI j))] [] := by
    intro m
    induction m with
    | zero =>
      intro j M5 hj hF5 h5o h29 h15e h13c
      refine r_iload_n C 3 rfl rfl rfl ?_
      refine r_aload_n C 0 rfl rfl rfl rfl ?_
      refine r_geti C rfl f_X12_62 (by assumption) rfl ?_
      rw [h29]
      refine r_icmp_ge C 124 rfl (by decide) (fun _ => ?_) (fun q => absurd ((nI_leI (by omega) (by omega)).mpr (by omega)) q)
      refine r_aload_n C 0 rfl rfl rfl rfl ?_
      refine r_geti C rfl f_X12_337 (by assumption) rfl ?_
      refine q_iret C hQ rfl rfl rfl ⟨rfl, rfl, by show _ = some (Value.int (nI st.1 - nI 1)); rw [h5o 30 (by decide), hS3.1], hF5, by rw [h5o 0 (by decide), o3 0 (by decide)]; exact g0.1, fun j j1 j2 j3 => by rw [h5o j j2, o3 j j3]; exact g0.2 j j1 j2 j3, ?_⟩
      show OKR M5 o (if st.1 = 0 then x0 else some st.2)
      rw [if_neg z]
      refine ⟨by rw [h29]; show nI (pcN L) = nI st.2.length; rw [hlen], fun l el => ?_⟩
      have el := Option.some.inj el
      subst el
      refine ⟨by omega, fun i hi => ?_⟩
      rw [h13c i (by omega)]
      exact hS3.2 z i hi
    | succ m ih2 =>
      intro j M5 hj hF5 h5o h29 h15e h13c
      refine r_iload_n C 3 rfl rfl rfl ?_
      refine r_aload_n C 0 rfl rfl rfl rfl ?_
      refine r_geti C rfl f_X12_62 (by assumption) rfl ?_
      rw [h29]
      refine r_icmp_ge C 124 rfl (by decide) (fun q => absurd (le_nI (by omega) (by omega) q) (by omega)) (fun _ => ?_)
      refine r_aload_n C 0 rfl rfl rfl rfl ?_
      refine r_getv C rfl f_X12_53 (by assumption) rfl ?_
      refine r_iload_n C 3 rfl rfl rfl ?_
      refine r_aload_n C 0 rfl rfl rfl rfl ?_
      refine r_getv C rfl f_X12_59 (by assumption) rfl ?_
      refine r_iload_n C 3 rfl rfl rfl ?_
      refine r_iald C rfl (by assumption) (j) rfl (by omega) (by decide) ?_
      refine r_iast C rfl (by assumption) (j) rfl (by omega) (by decide) ?_
      refine r_iinc (c := nI 1) C rfl rfl (by decide) ?_
      refine r_goto C 98 rfl (by decide) ?_
      refine r_eqL ?_ (ih2 (j + 1) _ (by omega) ?_ ?_ ?_ ?_ ?_)
      · first | rfl | (simp only [sm, add3, nI_add, Int32.add_zero, Int32.zero_add]; rfl)
      · exact hF5.trans (S' := fun c => c = o + 13) (T' := fun _ => False) ⟨fun c h3 h4 => up_row M5 _ h4, fun s h3 h4 d hd => by simp only [mrow]; rw [up_row M5 _ (by omega)]⟩ (fun _ q => q) (fun c q => by simp only [SO2]; omega) (fun _ q => q) (fun _ q => q.elim)
      · intro c hc
        rw [up_row M5 _ (by omega)]; exact h5o c hc
      · rw [up_row M5 _ (by omega)]; exact h29
      · rw [up_row M5 _ (by omega)]; exact h15e
      · intro c hc
        by_cases ec : c = j
        · rw [ec, up_same, h15e]
        · rw [up_ne _ _ (by omega), h13c c (by omega)]
  have pl : ∀ (m j s : Nat) (M5 : MM), j + m = 6 → s + bsumP L j m = pcN L → FrR o (SO2 o) (fun r => 12 ≤ r ∧ r < 32) M M5 → (∀ c, c ≠ 29 → M5 o c = M3 o c) → M5 o 29 = nI s → M5 (o + 15) = M3 (o + 15) → PT k E Q 0 0 Sh N G M5 70 [some (.ref o), some (.int (nI w)), some (.int (nI L)), some (.int (nI j))] [] := by
    intro m
    induction m with
    | zero =>
      intro j s M5 hj hs hF5 h5o h29 h15e
      refine r_iload_n C 3 rfl rfl rfl ?_
      refine r_bi (v := nI 6) C rfl (by decide) ?_
      refine r_icmp_ge C 96 rfl (by decide) (fun _ => ?_) (fun q => absurd ((nI_leI (by omega) (by omega)).mpr (by omega)) q)
      refine r_ic (v := nI 0) C rfl (by decide) ?_
      refine r_istore_n C 3 rfl rfl (by exact Nat.le_of_ble_eq_true rfl) ?_
      have hs : s = pcN L := hs
      exact cl (pcN L) 0 M5 (by omega) hF5 h5o (by rw [h29, hs]) h15e (fun c hc => absurd hc (Nat.not_lt_zero c))
    | succ m ih2 =>
      intro j s M5 hj hs hF5 h5o h29 h15e
      refine r_iload_n C 3 rfl rfl rfl ?_
      refine r_bi (v := nI 6) C rfl (by decide) ?_
      refine r_icmp_ge C 96 rfl (by decide) (fun q => absurd (le_nI (by omega) (by omega) q) (by omega)) (fun _ => ?_)
      refine r_aload_n C 0 rfl rfl rfl rfl ?_
      refine r_dup C rfl rfl ?_
      refine r_geti C rfl f_X12_62 (by assumption) rfl ?_
      rw [h29]
      refine r_iload_n C 2 rfl rfl rfl ?_
      refine r_iload_n C 3 rfl rfl rfl ?_
      refine r_ishr C rfl ?_
      rw [nx_shr (by omega) (by omega)]
      refine r_ic (v := nI 1) C rfl (by decide) ?_
      refine r_iand C rfl ?_
      have hdl := Nat.div_le_self L (2 ^ j)
      rw [pk_andN (by omega) 1 (by decide)]
      refine r_iadd C rfl ?_
      rw [nI_add]
      refine r_puti C rfl f_X12_62 (by assumption) rfl rfl rfl ?_
      refine r_iinc (c := nI 1) C rfl rfl (by decide) ?_
      refine r_goto C 70 rfl (by decide) ?_
      refine r_eqL ?_ (ih2 (j + 1) (s + L / 2 ^ j % 2 ^ 1) _ (by omega) ?_ ?_ ?_ ?_ ?_)
      · first | rfl | (simp only [sm, add3, nI_add, Int32.add_zero, Int32.zero_add]; rfl)
      · rw [bsumP] at hs
        rw [Nat.pow_one]
        omega
      · exact hF5.trans (fr1 _ _ _) (fun _ q => q) (fun _ q => q) (fun _ q => q) (fun _ q => q)
      · intro c hc
        rw [up_ne _ _ (by omega)]; exact h5o c hc
      · exact up_same _ _ _ _
      · rw [up_row M5 _ (by omega)]; exact h15e
  refine r_ic (v := nI 0) C rfl (by decide) ?_
  refine r_istore_n C 3 rfl rfl (by exact Nat.le_of_ble_eq_true rfl) ?_
  refine pl 6 0 0 _ (by omega) ?_ ?_ ?_ ?_ ?_
  · simp only [bsumP, pcN]
    omega
  · exact f3.trans (fr1 _ _ _) (fun _ q => q) (fun _ q => q) (fun _ q => q) (fun _ q => q)
  · intro c hc
    rw [up_ne _ _ (by omega)]
  · exact up_same _ _ _ _
  · rw [up_row M3 _ (by omega)]
end MORDER
