section CPUBE
variable {E : VE} {Sh : Nat → SE} {N : Nat} {G : Bool} {M M' M'' : MM} {tx b w yd n : Nat} {x : ST} {R : Row} {Y : YD} {D : DR} {β : Nat → Int32}
/-- a byte of a number -/
def bV (v : Int32) (m : Nat) : Int32 := (v >>> (nI (24 - 8 * m) &&& 31)).toInt8.toInt32
def putM (M : MM) (t : Nat) (v : Int32) : Nat → MM
  | 0 => M
  | m + 1 => up (up (putM M t v m) 1 (t + m) (bV v m)) 0 1 (nI (t + m + 1))
theorem putM_row {t : Nat} {v : Int32} {c : Nat} (h0 : c ≠ 0) (h1 : c ≠ 1) : ∀ m, putM M t v m c = M c
  | 0 => rfl
  | m + 1 => by rw [putM, up_row _ _ h0, up_row _ _ h1]; exact putM_row h0 h1 m
theorem putM_z {t : Nat} {v : Int32} {j : Nat} (h : j ≠ 1) : ∀ m, putM M t v m 0 j = M 0 j
  | 0 => rfl
  | m + 1 => by rw [putM, up_ne _ _ (by omega), up_row _ _ (by decide)]; exact putM_z h m
theorem putM_l {t : Nat} {v : Int32} (h : M 0 1 = nI t) : ∀ m, putM M t v m 0 1 = nI (t + m)
  | 0 => h
  | m + 1 => by rw [putM, up_same]; rfl
theorem putM_t {t : Nat} {v : Int32} (i : Nat) : ∀ m, putM M t v m 1 i = if t ≤ i ∧ i < t + m then bV v (i - t) else M 1 i
  | 0 => by rw [if_neg (by omega)]; rfl
  | m + 1 => by
    rw [putM, up_row _ _ (by decide)]
    by_cases e : i = t + m
    · rw [e, up_same, if_pos (by omega), show t + m - t = m by omega]
    · rw [up_ne _ _ (by omega), putM_t i m]
      by_cases q : t ≤ i ∧ i < t + m
      · rw [if_pos q, if_pos (by omega)]
      · rw [if_neg q, if_neg (by omega)]
theorem K_put (hU : MU Sh N tx) (v : Int32) (t : Nat) (ht : M 0 1 = nI t) (hr : t + 4 ≤ 700) : Con E mX11_putNumber 3 0 0 [.ref 0, .int v] Sh N G M (PR Sh N (fun z M' => z = none ∧ M' = putM M t v 4)) nox := by
  obtain ⟨u0, u1, u2, u3, u4, u6, u10, u14, uw, u31, ui, u48, u51, u116, u117, u120, u121, u124, u125, u128⟩ := id hU
  refine Con.ofQ (by decide +kernel) (by simp [Value.category]) (Nat.le_of_ble_eq_true rfl) (fun k C0 Q hQ => ?_)
  have C : CK k E mX11_putNumber kdX11_putNumber 3 0 0 := ⟨C0, kdX11_putNumber_ok⟩
  have step : ∀ (m : Nat), m < 4 → PT k E Q 0 0 Sh N G (putM M t v (m + 1)) 3 [some (.ref 0), some (.int v), some (.int (nI (24 - 8 * m) + (-8)))] [] → PT k E Q 0 0 Sh N G (putM M t v m) 3 [some (.ref 0), some (.int v), some (.int (nI (24 - 8 * m)))] [] := by
    intro m hm kk
    have e1 := putM_l (v := v) ht m
    refine r_iload_n C 2 rfl rfl rfl ?_
    refine r_if_lt C 46 rfl (by decide) (fun h => absurd ((nI_leI (a := 0) (by decide) (by omega)).mpr (Nat.zero_le _)) (Int32.not_le.mpr h)) (fun _ => ?_)
    refine r_aload_n C 0 rfl rfl rfl rfl ?_
    refine r_geti C rfl f_X11_123 (by assumption) rfl ?_
    rw [e1]
    refine r_si (v := nI 700) C rfl (by decide) ?_
    refine r_icmp_ge C 46 rfl (by decide) (fun z => absurd (le_nI (by decide) (by omega) z) (by omega)) (fun _ => ?_)
    refine r_aload_n C 0 rfl rfl rfl rfl ?_
    refine r_getv C rfl f_X11_9 (by assumption) rfl ?_
    refine r_aload_n C 0 rfl rfl rfl rfl ?_
    refine r_geti C rfl f_X11_123 (by assumption) rfl ?_
    rw [e1]
    refine r_iload_n C 1 rfl rfl rfl ?_
    refine r_iload_n C 2 rfl rfl rfl ?_
    refine r_ishr C rfl ?_
    refine r_i2b C rfl ?_
    refine r_bast C rfl (by assumption) (t + m) rfl (by omega) (by decide) (congrArg Value.int (byt_of _)) ?_
    refine r_aload_n C 0 rfl rfl rfl rfl ?_
    refine r_dup C rfl rfl ?_
    refine r_geti C rfl f_X11_123 (by assumption) rfl ?_
    rw [up_row _ _ (by decide), e1]
    refine r_ic (v := nI 1) C rfl (by decide) ?_
    refine r_iadd C rfl ?_
    rw [nI_add]
    refine r_puti C rfl f_X11_123 (by assumption) rfl rfl rfl ?_
    refine r_iinc (c := (-8)) C rfl rfl (by decide) ?_
    refine r_goto C 3 rfl (by decide) ?_
    exact kk
  refine r_bi (v := nI 24) C rfl (by decide) ?_
  refine r_istore_n C 2 rfl rfl (by exact Nat.le_of_ble_eq_true rfl) ?_
  refine step 0 (by omega) ?_
  refine step 1 (by omega) ?_
  refine step 2 (by omega) ?_
  refine step 3 (by omega) ?_
  refine r_iload_n C 2 rfl rfl rfl ?_
  refine r_if_lt C 46 rfl (by decide) (fun _ => ?_) (fun h => absurd (by decide) h)
  exact q_vret C hQ rfl rfl ⟨rfl, rfl, rfl, rfl⟩
theorem fby_byt (p q z y w : Int32) (k : Nat) : byt (fby p q z y w k) := by
  unfold fby
  exact byt_of (fwd p q z y w k >>> (nI (24 - 8 * (k % 4)) &&& 31))
theorem K_feed (hU : MU Sh N tx) (hV : VI b x) (hC : CI M x) (p q z y w : Int32) : Con E mX11_feed 20 0 0 [.ref 0, .int p, .int q, .int z, .int y, .int w] Sh N G M (PR Sh N (CQ M (feedA x p q z y w).1 0 (feedA x p q z y w).2)) nox := by
  obtain ⟨u0, u1, u2, u3, u4, u6, u10, u14, uw, u31, ui, u48, u51, u116, u117, u120, u121, u124, u125, u128⟩ := id hU
  obtain ⟨c1, c2, c3, c4, c5, c6, c7, c8, c9, c10, c11⟩ := id hC
  have htl : x.tl ≤ 700 := hV.2.2.2.2.2.2.2.2
  have hl := c1.1
  refine Con.ofQ (by decide +kernel) (by simp [Value.category]) (Nat.le_of_ble_eq_true rfl) (fun k C0 Q hQ => ?_)
  have C : CK k E mX11_feed kdX11_feed 20 0 0 := ⟨C0, kdX11_feed_ok⟩
  refine r_aload_n C 0 rfl rfl rfl rfl ?_
  refine r_geti C rfl f_X11_123 (by assumption) rfl ?_
  rw [hl]
  refine r_bi (v := nI 20) C rfl (by decide) ?_
  refine r_iadd C rfl ?_
  rw [nI_add]
  refine r_si (v := nI 700) C rfl (by decide) ?_
  refine r_icmp_le C 15 rfl (by decide) (fun h => ?_) (fun h => ?_)
  rotate_left
  · have h := nle_nI (by omega) (by omega) h
    have ea : feedA x p q z y w = (-1, x) := by unfold feedA; rw [if_pos (by omega)]
    refine r_ic (v := (-1)) C rfl (by decide) ?_
    exact q_iret C hQ rfl rfl rfl ⟨rfl, rfl, rfl, by rw [ea], by rw [ea]; exact hC, fun _ _ => rfl⟩
  have h := le_nI (by omega) (by omega) h
  have ea : feedA x p q z y w = (nI (x.tl + 20), x.setT (x.tl + 20) (fedT x p q z y w 20) x.fp) := by unfold feedA; rw [if_neg (by omega)]
  rw [ea] at hQ
  refine r_aload_n C 0 rfl rfl rfl rfl ?_
  refine r_iload_n C 1 rfl rfl rfl ?_
  refine v1_g C rfl mfX11_putNumber lk_X11_126 (by assumption) (K_put hU p x.tl hl (by omega)) ?_
  rintro v M1 ⟨rfl, rfl⟩
  have l1 := putM_l (v := p) hl 4
  refine r_aload_n C 0 rfl rfl rfl rfl ?_
  refine r_iload_n C 2 rfl rfl rfl ?_
  refine v1_g C rfl mfX11_putNumber lk_X11_126 (by assumption) (K_put hU q (x.tl + 4) l1 (by omega)) ?_
  rintro v M2 ⟨rfl, rfl⟩
  have l2 := putM_l (v := q) l1 4
  refine r_aload_n C 0 rfl rfl rfl rfl ?_
  refine r_iload_n C 3 rfl rfl rfl ?_
  refine v1_g C rfl mfX11_putNumber lk_X11_126 (by assumption) (K_put hU z (x.tl + 4 + 4) l2 (by omega)) ?_
  rintro v M3 ⟨rfl, rfl⟩
  have l3 := putM_l (v := z) l2 4
  refine r_aload_n C 0 rfl rfl rfl rfl ?_
  refine r_iload C rfl rfl ?_
  refine v1_g C rfl mfX11_putNumber lk_X11_126 (by assumption) (K_put hU y (x.tl + 4 + 4 + 4) l3 (by omega)) ?_
  rintro v M4 ⟨rfl, rfl⟩
  have l4 := putM_l (v := y) l3 4
  refine r_aload_n C 0 rfl rfl rfl rfl ?_
  refine r_iload C rfl rfl ?_
  refine v1_g C rfl mfX11_putNumber lk_X11_126 (by assumption) (K_put hU w (x.tl + 4 + 4 + 4 + 4) l4 (by omega)) ?_
  rintro v M5 ⟨rfl, hM5⟩
  have l5 : M5 0 1 = nI (x.tl + 20) := by rw [hM5, putM_l (v := w) l4 4]
  have hz : ∀ j, j ≠ 1 → M5 0 j = M 0 j := fun j hj => by rw [hM5, putM_z hj, putM_z hj, putM_z hj, putM_z hj, putM_z hj]
  have hF : Fr (fun c => c = 0 ∨ c = 1) M M5 := fun c hc => by rw [hM5, putM_row (by omega) (by omega), putM_row (by omega) (by omega), putM_row (by omega) (by omega), putM_row (by omega) (by omega), putM_row (by omega) (by omega)]
  have ht : ∀ i, M5 1 i = if x.tl ≤ i ∧ i < x.tl + 20 then fby p q z y w (i - x.tl) else M 1 i := by
    intro i
    rw [hM5, putM_t, putM_t, putM_t, putM_t, putM_t]
    unfold fby fwd bV
    by_cases q5 : x.tl + 4 + 4 + 4 + 4 ≤ i ∧ i < x.tl + 4 + 4 + 4 + 4 + 4
    · rw [if_pos q5, if_pos (by omega), if_neg (by omega), if_neg (by omega), if_neg (by omega), if_neg (by omega), show i - (x.tl + 4 + 4 + 4 + 4) = (i - x.tl) % 4 by omega]
    rw [if_neg q5]
    by_cases q4 : x.tl + 4 + 4 + 4 ≤ i ∧ i < x.tl + 4 + 4 + 4 + 4
    · rw [if_pos q4, if_pos (by omega), if_neg (by omega), if_neg (by omega), if_neg (by omega), if_pos (by omega), show i - (x.tl + 4 + 4 + 4) = (i - x.tl) % 4 by omega]
    rw [if_neg q4]
    by_cases q3 : x.tl + 4 + 4 ≤ i ∧ i < x.tl + 4 + 4 + 4
    · rw [if_pos q3, if_pos (by omega), if_neg (by omega), if_neg (by omega), if_pos (by omega), show i - (x.tl + 4 + 4) = (i - x.tl) % 4 by omega]
    rw [if_neg q3]
    by_cases q2 : x.tl + 4 ≤ i ∧ i < x.tl + 4 + 4
    · rw [if_pos q2, if_pos (by omega), if_neg (by omega), if_pos (by omega), show i - (x.tl + 4) = (i - x.tl) % 4 by omega]
    rw [if_neg q2]
    by_cases q1 : x.tl ≤ i ∧ i < x.tl + 4
    · rw [if_pos q1, if_pos (by omega), if_pos (by omega), show (i - x.tl) % 4 = i - x.tl by omega]
    rw [if_neg q1, if_neg (by omega)]
  refine r_aload_n C 0 rfl rfl rfl rfl ?_
  refine r_geti C rfl f_X11_123 (by assumption) rfl ?_
  rw [l5]
  refine q_iret C hQ rfl rfl rfl ⟨rfl, rfl, rfl, rfl, ?_, fun c hc => hF c (by omega)⟩
  refine ⟨⟨l5, fun i hi => ?_, by rw [hz 2 (by decide)]; exact c1.2.2⟩, c2.keep hF (by decide), ⟨by rw [hz 5 (by decide)]; exact c3.1, fun q => ⟨fun i hi => ?_, fun i hi => ?_⟩⟩, c4.keep hF (by decide) (by decide), c5.keep hF (by decide) (by decide), c6.keep hF (fun c _ _ => by omega), c7.cong (hF _ (by decide)) (hF _ (by decide)), c8.cong (hF _ (by decide)) (hF _ (by decide)), c9.cong (hF _ (by decide)), c10.cong2 (hF _ (by decide)) (hF _ (by decide)) (hF _ (by decide)), c11.cong (hF _ (by decide)) (hF _ (by decide))⟩
  · have hi : i < x.tl + 20 := hi
    show M5 1 i = fedT x p q z y w 20 i ∧ byt (fedT x p q z y w 20 i)
    rw [ht]
    unfold fedT
    by_cases qq : x.tl ≤ i ∧ i < x.tl + 20
    · rw [if_pos qq, if_pos qq]
      exact ⟨Eq.refl _, fby_byt p q z y w (i - x.tl)⟩
    · rw [if_neg qq, if_neg qq]
      exact c1.2.1 i (by omega)
  · rw [hF.row (32 + 4 * i) (fun c _ _ => by omega)]
    exact (c3.2 q).1 i hi
  · rw [hF 3 (by decide)]
    exact (c3.2 q).2 i hi
theorem linesF_c : ∀ (m : Nat) (x : RdS × DR), x.1.1 < 100 → (linesF β n m x).1.1 < 100
  | 0, _, h => h
  | m + 1, x, h => by
    rw [linesF]
    split
    · exact linesF_c m _ (lineF_c h)
    · exact h
/-- what 'yard' leaves behind -/
def rw0 (D : DR) (i : Nat) : Row := if i < D.2.2.1.1 then frow D.2.2.1.2 i else brow D.2.2.1.2 i
def yNew (x : ST) (D : DR) : ST := ((D.2.2.1.1, ydOf D, rw0 D), (false, x.Ri, x.si), x.st, (none, none), ((0, -1, -1), 0, x.hw, x.hc), (fun _ => none, x.Cr), (0, x.tp, -1))
def yardA (x : ST) (p : Int32) (tr wk : Nat → Nat) : Nat × Int32 × ST := if inI p 0 (nI x.tl) = false then (1, 0, x) else
  (0, nI (readF (bet x) p.toNatClampNeg tr wk).1.1, if (readF (bet x) p.toNatClampNeg tr wk).1.1 = 0 then yNew x (readF (bet x) p.toNatClampNeg tr wk).2 else yBad x (readF (bet x) p.toNatClampNeg tr wk).1)
theorem yard_to (x : ST) (p : Int32) (tr wk : Nat → Nat) : YardTo x p tr wk (yardA x p tr wk).1 (yardA x p tr wk).2.1 (yardA x p tr wk).2.2 := by
  unfold YardTo yardA
  by_cases h : inI p 0 (nI x.tl) = false
  · rw [if_pos h, if_pos h]
    exact ⟨rfl, rfl, rfl⟩
  rw [if_neg h, if_neg h]
  refine ⟨rfl, rfl, ?_⟩
  by_cases h2 : (readF (bet x) p.toNatClampNeg tr wk).1.1 = 0
  · rw [if_pos h2]
    show YardNew x _ (if _ then _ else _)
    rw [if_pos h2]
    refine ⟨rfl, rfl, fun i hi => ?_, rfl, rfl, rfl, rfl, rfl, rfl, fun _ _ => rfl, rfl, rfl⟩
    show rw0 _ i = _
    unfold rw0
    rw [if_pos hi]
  · rw [if_neg h2]
    show (if _ then _ else _) = _
    rw [if_neg h2]
theorem b_f {tr : Nat → Nat} {i j : Nat} (h0 : 1 ≤ tr (6 * i)) (h3 : tr (6 * i + 3) ≤ 1) : brow tr i j = frow tr i j := by
  unfold brow frow
  rw [Nat.max_eq_right h0]
  have : tr (6 * i + 3) = 0 ∨ tr (6 * i + 3) = 1 := by omega
  rcases this with e | e <;> rw [e] <;> rfl
theorem c_forget5 {t bw q : Nat} (hA : PA Sh N q t bw) : Con E mX5_forget 1 0 0 [.ref q] Sh N G M (PR Sh N (fun v M' => v = none ∧ M' = up M q 4 (nI 0))) nox := by
  obtain ⟨a0, a1, a2⟩ := id hA
  refine Con.ofQ (by decide +kernel) (by simp [Value.category]) (Nat.le_of_ble_eq_true rfl) (fun k C0 Q hQ => ?_)
  have C : CK k E mX5_forget kdX5_forget 1 0 0 := ⟨C0, kdX5_forget_ok⟩
  refine r_aload_n C 0 rfl rfl rfl rfl ?_
  refine r_ic (v := nI 0) C rfl (by decide) ?_
  refine r_puti C rfl f_X5_26 (by assumption) rfl rfl rfl ?_
  exact q_vret C hQ rfl rfl ⟨rfl, rfl, rfl, rfl⟩
theorem c_forget4 {t bw q : Nat} (hA : OA Sh N q t bw) : Con E mX4_forget 1 0 0 [.ref q] Sh N G M (PR Sh N (fun v M' => v = none ∧ M' = up M q 5 (nI 0))) nox := by
  obtain ⟨a0, a1, a2⟩ := id hA
  refine Con.ofQ (by decide +kernel) (by simp [Value.category]) (Nat.le_of_ble_eq_true rfl) (fun k C0 Q hQ => ?_)
  have C : CK k E mX4_forget kdX4_forget 1 0 0 := ⟨C0, kdX4_forget_ok⟩
  refine r_aload_n C 0 rfl rfl rfl rfl ?_
  refine r_ic (v := nI 0) C rfl (by decide) ?_
  refine r_puti C rfl f_X4_26 (by assumption) rfl rfl rfl ?_
  exact q_vret C hQ rfl rfl ⟨rfl, rfl, rfl, rfl⟩
abbrev SBg (c : Nat) : Prop := c = 0 ∨ (10 ≤ c ∧ c < 14) ∨ (15 ≤ c ∧ c < 31) ∨ c = 117 ∨ c = 121 ∨ c = 124 ∨ c = 125 ∨ c = 129 ∨ c = 130
theorem K_begin (hU : MU Sh N tx) (hD : YDr M 6 D) (hv : DV D) (hw hc Cr : Nat → Int32) : Con E mX11_beginAnew 4 0 0 [.ref 0] Sh N G M (PR Sh N (fun v M' => v = none ∧ Fr SBg M M' ∧ (∀ j, j ≠ 5 → M' 0 j = M 0 j) ∧ M' 0 5 = nI 0 ∧ YDr M' 10 D ∧ (∀ i, i < 4 → ∀ j, j < 13 → wrow M' (15 + 4 * i) j = brow D.2.2.1.2 i j) ∧ M' 117 4 = nI 0 ∧ M' 121 5 = nI 0 ∧ BRC M' 124 (0, -1, -1) ∧ HOC M' 125 0 hw hc ∧ GC M' 128 (fun _ => none) Cr)) nox := by
  obtain ⟨u0, u1, u2, u3, u4, u6, u10, u14, uw, u31, ui, u48, u51, u116, u117, u120, u121, u124, u125, u128⟩ := id hU
  have y10 := u10.1
  have p0 := u117.1
  have o0 := u121.1
  have kb : At Sh N 124 _ := u124
  have kh := u125.1
  have kg := u128.1
  refine Con.ofQ (by decide +kernel) (by simp [Value.category]) (Nat.le_of_ble_eq_true rfl) (fun k C0 Q hQ => ?_)
  have C : CK k E mX11_beginAnew kdX11_beginAnew 4 0 0 := ⟨C0, kdX11_beginAnew_ok⟩
  refine r_aload_n C 0 rfl rfl rfl rfl ?_
  refine r_getv C rfl f_X11_38 (by assumption) rfl ?_
  refine r_aload_n C 0 rfl rfl rfl rfl ?_
  refine r_getv C rfl f_X11_34 (by assumption) rfl ?_
  refine v1_g C rfl mfX10_become lk_X11_145 (by assumption) (y_become u10 u6 (by omega) hD) ?_
  rintro z M1 ⟨rfl, hF1, hD1⟩
  have loop : ∀ (m i : Nat) (M2 : MM), i + m = 4 → Fr (fun c => 15 ≤ c ∧ c < 31) M1 M2 → (∀ l, l < i → ∀ j, j < 13 → wrow M2 (15 + 4 * l) j = brow D.2.2.1.2 l j) → PT k E Q 0 0 Sh N G M2 13 [some (.ref 0), some (.int (nI i))] [] := by
    intro m
    induction m with
    | zero =>
      intro i M2 hi hF2 hr
      have e : i = 4 := by omega
      subst e
      refine r_iload_n C 1 rfl rfl rfl ?_
      refine r_aload_n C 0 rfl rfl rfl rfl ?_
      refine r_getv C rfl f_X11_45 (by assumption) rfl ?_
      refine r_alen4 C rfl (by assumption) ?_
      refine r_icmp_ge C 38 rfl (by decide) (fun _ => ?_) (fun z => absurd (by decide) z)
      refine r_aload_n C 0 rfl rfl rfl rfl ?_
      refine r_ic (v := nI 0) C rfl (by decide) ?_
      refine r_puti C rfl f_X11_151 (by assumption) rfl rfl rfl ?_
      refine r_aload_n C 0 rfl rfl rfl rfl ?_
      refine r_getv C rfl f_X11_75 (by assumption) rfl ?_
      refine v0_g C rfl mfX5_forget lk_X11_155 (by assumption) (c_forget5 u117) ?_
      rintro z M3 ⟨rfl, rfl⟩
      refine r_aload_n C 0 rfl rfl rfl rfl ?_
      refine r_getv C rfl f_X11_89 (by assumption) rfl ?_
      refine v0_g C rfl mfX4_forget lk_X11_158 (by assumption) (c_forget4 u121) ?_
      rintro z M4 ⟨rfl, hM4⟩
      refine r_aload_n C 0 rfl rfl rfl rfl ?_
      refine r_getv C rfl f_X11_96 (by assumption) rfl ?_
      refine v0_g C rfl mfX0_forget lk_X11_159 (by assumption) (k_forget u124) ?_
      rintro z M5 ⟨rfl, hF5, hb⟩
      refine r_aload_n C 0 rfl rfl rfl rfl ?_
      refine r_getv C rfl f_X11_103 (by assumption) rfl ?_
      refine v0_g C rfl mfX3_forget lk_X11_160 (by assumption) (h_forget u125 hw hc) ?_
      rintro z M6 ⟨rfl, hF6, hh⟩
      refine r_aload_n C 0 rfl rfl rfl rfl ?_
      refine r_getv C rfl f_X11_110 (by assumption) rfl ?_
      refine v0_g C rfl mfX2_forget lk_X11_161 (by assumption) (g_forget u128 Cr) ?_
      rintro z M7 ⟨rfl, hF7, hg⟩
      have n4 : ∀ c, c ≠ 0 → c ≠ 117 → c ≠ 121 → M4 c = M2 c := fun c q1 q2 q3 => by rw [hM4, up_row _ _ q3, up_row _ _ q2, up_row _ _ q1]
      have e7 : ∀ c, c ≠ 124 → c ≠ 125 → c ≠ 129 → c ≠ 130 → M7 c = M4 c := fun c q1 q2 q3 q4 => by rw [hF7 c (by omega), hF6 c (by omega), hF5 c (by omega)]
      refine q_vret C hQ rfl rfl ⟨rfl, rfl, rfl, fun c hc => ?_, fun j hj => ?_, ?_, ?_, fun i hi j hj => ?_, ?_, ?_, ?_, ?_, hg⟩
      · rw [e7 c (by omega) (by omega) (by omega) (by omega), n4 c (by omega) (by omega) (by omega), hF2 c (by omega), hF1 c (by omega)]
      · rw [e7 0 (by decide) (by decide) (by decide) (by decide), hM4, up_row _ _ (by decide), up_row _ _ (by decide), up_ne _ _ (by omega), hF2 0 (by decide), hF1 0 (by decide)]
      · rw [e7 0 (by decide) (by decide) (by decide) (by decide), hM4, up_row _ _ (by decide), up_row _ _ (by decide), up_same]
      · refine hD1.cong (fun c q1 q2 => ?_)
        rw [e7 c (by omega) (by omega) (by omega) (by omega), n4 c (by omega) (by omega) (by omega), hF2 c (by omega)]
      · rw [← hr i hi j hj]
        exact congrFun (wrow_cong (fun c q1 q2 => by rw [e7 c (by omega) (by omega) (by omega) (by omega), n4 c (by omega) (by omega) (by omega)])) j
      · rw [e7 117 (by decide) (by decide) (by decide) (by decide), hM4, up_row _ _ (by decide), up_same]
      · rw [e7 121 (by decide) (by decide) (by decide) (by decide), hM4, up_same]
      · exact hb.cong (by rw [hF7 124 (by decide), hF6 124 (by decide)])
      · exact hh.cong2 (hF7 125 (by decide)) (hF7 126 (by decide)) (hF7 127 (by decide))
    | succ m ih =>
      intro i M2 hi hF2 hr
      have hA := uw i (by omega)
      have a0 := hA.1
      refine r_iload_n C 1 rfl rfl rfl ?_
      refine r_aload_n C 0 rfl rfl rfl rfl ?_
      refine r_getv C rfl f_X11_45 (by assumption) rfl ?_
      refine r_alen4 C rfl (by assumption) ?_
      refine r_icmp_ge C 38 rfl (by decide) (fun z => absurd (le_nI (by omega) (by omega) z) (by omega)) (fun _ => ?_)
      refine r_aload_n C 0 rfl rfl rfl rfl ?_
      refine r_getv C rfl f_X11_45 (by assumption) rfl ?_
      refine r_iload_n C 1 rfl rfl rfl ?_
      refine r_aald C rfl u14 (i) rfl (by omega) (by decide) rfl ?_
      refine r_iload_n C 1 rfl rfl rfl ?_
      refine v1_g C rfl mfX8_begin lk_X11_148 (by assumption) (w_begin hA (tr := D.2.2.1.2) (fun j hj => by rw [hF2 12 (by omega)]; exact hD1.2.2.2.2.1 j hj) i rfl (by omega) (hv.2.2.2.1 i (by omega)).2.1) ?_
      rintro z M3 ⟨rfl, hc3, hr3⟩
      refine r_iinc (c := nI 1) C rfl rfl (by decide) ?_
      refine r_goto C 13 rfl (by decide) ?_
      refine r_eqL ?_ (ih (i + 1) M3 (by omega) (fun c hc => (hc3 c (by omega)).trans (hF2 c hc)) (fun l hl j hj => ?_))
      · first | rfl | (simp only [sm, add3, nI_add, Int32.add_zero, Int32.zero_add]; rfl)
      · by_cases e : l = i
        · rw [e]; exact hr3 j hj
        · rw [← hr l (by omega) j hj]
          refine congrFun (wrow_cong (fun c q1 q2 => hc3 c (by omega))) j
  refine r_ic (v := nI 0) C rfl (by decide) ?_
  refine r_istore_n C 1 rfl rfl (by exact Nat.le_of_ble_eq_true rfl) ?_
  exact loop 4 0 M1 (by omega) Fr.rfl (fun l hl => absurd hl (Nat.not_lt_zero l))
end CPUBE
