section PLAN
variable {E : VE} {Sh : Nat → SE} {N : Nat} {G : Bool} {M : MM} {o r w v yd yv t b w0 fo p bw : Nat} {R : Row} {Y : YD}
theorem sit_mono (hY : Y.Fine) (h : OK b R) {i j : Nat} (hij : i ≤ j) (hj : mno R + j ≤ 24) (hs : sitY Y (rsR j R) = false) : sitY Y (rsR i R) = false := by
  have key := fun (n : Nat) (hn : mno R + n ≤ 24) => sit_rais (g := Y.g) (f := Y.f) hY.1 h.wok h.dp.2 h.mn h.prp hn
  have e : ∀ n, mno R + n ≤ 24 → sitY Y (rsR n R) = sitB Y.g Y.f (raisR (dpo R) (mno R) n R) (dpo R) (mno R + n) := fun n hn => by
    simp only [sitY]
    rw [rs_dp h hn, rs_mn h hn]
    rfl
  rw [e j hj] at hs
  rw [e i (by omega)]
  obtain ⟨q1, q2⟩ := (key j hj).mp hs
  refine (key i (by omega)).mpr ⟨?_, fun x hx => ?_⟩
  · have : i * (dpo R * 14) ≤ j * (dpo R * 14) := Nat.mul_le_mul_right _ hij
    omega
  · have := q2 (j - i + x) (by omega)
    rw [show j - 1 - (j - i + x) = i - 1 - x by omega] at this
    exact this
/-- the first of m tries from i on that comes to something -/
def plL (g : Nat → Option (List Nat)) : Nat → Nat → Option (List Nat)
  | _, 0 => none
  | i, m + 1 => match g i with
    | some l => some (i :: l)
    | none => plL g (i + 1) m
theorem plL_yes {g : Nat → Option (List Nat)} {i m : Nat} {l : List Nat} (h : g i = some l) : plL g i (m + 1) = some (i :: l) := by rw [plL, h]
theorem plL_no {g : Nat → Option (List Nat)} {i m : Nat} (h : g i = none) : plL g i (m + 1) = plL g (i + 1) m := by rw [plL, h]
theorem plL_none {g : Nat → Option (List Nat)} : ∀ {m i : Nat}, (∀ j, i ≤ j → j < i + m → g j = none) → plL g i m = none
  | 0, _, _ => rfl
  | m + 1, i, h => by rw [plL_no (h i (by omega) (by omega)), plL_none (fun j h1 h2 => h j (by omega) (by omega))]
theorem plL_some {g : Nat → Option (List Nat)} {l : List Nat} : ∀ {m i : Nat}, plL g i m = some l → ∃ x l', l = x :: l' ∧ g x = some l'
  | 0, _, h => by simp [plL] at h
  | m + 1, i, h => by
    cases q : g i with
    | some l' => rw [plL_yes q] at h; exact ⟨i, l', (Option.some.inj h).symm, q⟩
    | none => rw [plL_no q] at h; exact plL_some h
/-- so many layers are put up, and nothing sits, nor behind the week -/
def plOk (Y : YD) (R : Row) (i : Nat) : Bool := decide (mno R + i ≤ 24) && !sitY Y (rsR i R) && !sitY Y (wkR Y (rsR i R))
theorem plOk_24 {i : Nat} (h : ¬ mno R + i ≤ 24) : plOk Y R i = false := by rw [plOk, decide_eq_false h, Bool.false_and, Bool.false_and]
theorem plOk_s {i : Nat} (h : sitY Y (rsR i R) = true) : plOk Y R i = false := by rw [plOk, h, Bool.not_true, Bool.and_false, Bool.false_and]
theorem plOk_w {i : Nat} (h : sitY Y (wkR Y (rsR i R)) = true) : plOk Y R i = false := by rw [plOk, h, Bool.not_true, Bool.and_false]
theorem plOk_y {i : Nat} (h1 : mno R + i ≤ 24) (h2 : sitY Y (rsR i R) = false) (h3 : sitY Y (wkR Y (rsR i R)) = false) : plOk Y R i = true := by rw [plOk, decide_eq_true h1, h2, h3]; rfl
theorem plOk_le {i : Nat} (h : plOk Y R i = true) : mno R + i ≤ 24 := Decidable.by_contra (fun q => by rw [plOk_24 q] at h; cases h)
/-- the first plan of f weeks that comes to h layers -/
def plS (Y : YD) (h : Nat) : Nat → Row → Option (List Nat)
  | 0, R => if h ≤ mno R then some [] else none
  | f + 1, R => plL (fun i => if plOk Y R i = true then plS Y h f (wkR Y (rsR i R)) else none) 0 4
theorem plS_few (hY : Y.Fine) {h : Nat} : ∀ {f : Nat} {R : Row} {b : Nat}, OK b R → b + f < 2 ^ 30 → mno R + 3 * f < h → plS Y h f R = none
  | 0, R, b, hO, hb, hh => by rw [plS, if_neg (by omega)]
  | f + 1, R, b, hO, hb, hh => by
    rw [plS]
    refine plL_none (fun j h1 h2 => ?_)
    show (if plOk Y R j = true then plS Y h f (wkR Y (rsR j R)) else none) = none
    by_cases q : plOk Y R j = true
    · rw [if_pos q]
      have h24 := plOk_le q
      have hO1 := ok_rs hO h24
      have hm := (wk_mn hO1 hY)
      refine plS_few hY (ok_wk hY hO1 (by omega)) (by omega) ?_
      rw [hm.1]
      have h3 := hm.2.2
      rw [rs_mn hO h24] at h3
      rw [rs_mn hO h24]
      omega
    · rw [if_neg q]
theorem plS_len {h : Nat} : ∀ {f : Nat} {R : Row} {l : List Nat}, plS Y h f R = some l → l.length = f
  | 0, R, l, e => by
    rw [plS] at e
    split at e
    · rw [← Option.some.inj e]; rfl
    · cases e
  | f + 1, R, l, e => by
    rw [plS] at e
    obtain ⟨x, l', rfl, e2⟩ := plL_some e
    have e2 : (if plOk Y R x = true then plS Y h f (wkR Y (rsR x R)) else none) = some l' := e2
    split at e2
    · rw [List.length_cons, plS_len e2]
    · cases e2
/-- the planner's object: its row, what it keeps; the bench of walls -/
def PA (Sh : Nat → SE) (N p t bw : Nat) : Prop := At Sh N p (.inr (5, [some (.ref t), some (.ref bw), some (.ref (p + 1)), some (.ref (p + 2)), none])) ∧ At Sh N (p + 1) (arE 0 5) ∧ At Sh N (p + 2) (arE 0 5)
def BA (Sh : Nat → SE) (N bw w0 yd : Nat) : Prop := At Sh N bw (arW 16 (fun j => some (w0 + 4 * j))) ∧ ∀ j, j < 16 → WA Sh N (w0 + 4 * j) yd
theorem w_mn (a : Ag (wrow M w) R) (hO : OK b R) : M w 5 = nI (mno R) := (w_trait a (j := 1) (by decide)).trans hO.wf.2.2.2.1
theorem p_bears (hP : PA Sh N p t bw) (hA : WA Sh N w yd) (hB : WA Sh N v yd) (hT : TA Sh N t yd) (hd : w + 4 ≤ v ∨ v + 4 ≤ w) (hdv : t + 3 ≤ v) (hY : YC M yd Y) (hF : Y.Fine) (hO : OK b R) (hb : b < 2 ^ 29) (a : Ag (wrow M w) R) {x : Int32} (i : Nat) (hx : x = nI i) (hi : i ≤ 3) :
    Con E mX5_bearsLift 5 0 0 [.ref p, .ref w, .ref v, .int x] Sh N G M (PR Sh N (fun z M' => z = some (.int (bI (plOk Y R i))) ∧ (plOk Y R i = true → Ag (wrow M' v) (wkR Y (rsR i R))) ∧ Fr (fun c => WS v c ∨ TS t c) M M')) nox := by
  subst hx
  obtain ⟨p0, -, -⟩ := id hP
  obtain ⟨a0, -, -, -, -, a5⟩ := id hA
  obtain ⟨c0, -, -, -, -, c5⟩ := id hB
  have t0 := hT.1
  have t3 := hT.2.2.2
  have hm := hO.mn
  refine Con.ofQ (by decide +kernel) (by simp [Value.category]) (Nat.le_of_ble_eq_true rfl) (fun k C0 Q hQ => ?_)
  have C : CK k E mX5_bearsLift kdX5_bearsLift 5 0 0 := ⟨C0, kdX5_bearsLift_ok⟩
  refine r_aload_n C 1 rfl rfl rfl rfl ?_
  refine r_geti C rfl f_X5_30 (by assumption) rfl ?_
  rw [w_mn a hO]
  refine r_iload_n C 3 rfl rfl rfl ?_
  refine r_iadd C rfl ?_
  rw [nI_add]
  refine r_bi (v := nI 24) C rfl (by decide) ?_
  refine r_icmp_le C 13 rfl (by decide) (fun h => ?_) (fun h => ?_)
  rotate_left
  · have h := nle_nI (by omega) (by omega) h
    have e := plOk_24 (Y := Y) (R := R) (i := i) (by omega)
    refine r_ic (v := nI 0) C rfl (by decide) ?_
    exact q_iret C hQ rfl rfl rfl ⟨rfl, rfl, by rw [e]; rfl, fun q => (by rw [e] at q; cases q), Fr.rfl⟩
  have h := le_nI (by omega) (by omega) h
  refine r_aload_n C 2 rfl rfl rfl rfl ?_
  refine r_aload_n C 1 rfl rfl rfl rfl ?_
  refine v1_g C rfl mfX8_become lk_X5_35 (by assumption) (p_become hB hA (by omega) hO a) ?_
  rintro v1 M1 ⟨rfl, a1, hFr1⟩
  refine r_aload_n C 2 rfl rfl rfl rfl ?_
  refine r_iload_n C 3 rfl rfl rfl ?_
  refine v1_g C rfl mfX8_raise lk_X5_53 (by assumption) (p_raise hB i rfl hO h a1) ?_
  rintro v2 M2 ⟨rfl, a2, hFr2⟩
  have hFr3 : Fr (fun c => WS v c ∨ TS t c) M M2 := hFr1.trans hFr2 (fun _ q => Or.inl q) (fun _ q => Or.inl q)
  have hY2 : YC M2 yd Y := hY.cong (hFr3 _ (by simp only [WS, TS]; omega)) (hFr3 _ (by simp only [WS, TS]; omega))
  have hO2 := ok_rs hO h
  refine r_aload_n C 2 rfl rfl rfl rfl ?_
  refine v0_r C rfl mfX8_anySits lk_X5_57 (by assumption) (p_any hB hY2 hF hO2 a2) ?_
  refine r_if_eq C 32 rfl (by decide) (fun h2 => ?_) (fun h2 => ?_)
  rotate_left
  · have e := plOk_s (bI_1 h2)
    refine r_ic (v := nI 0) C rfl (by decide) ?_
    exact q_iret C hQ rfl rfl rfl ⟨rfl, rfl, by rw [e]; rfl, fun q => (by rw [e] at q; cases q), hFr3⟩
  have h2 := bI_0 h2
  refine r_aload_n C 0 rfl rfl rfl rfl ?_
  refine r_getv C rfl f_X5_18 (by assumption) rfl ?_
  refine r_aload_n C 2 rfl rfl rfl rfl ?_
  refine v1_g C rfl mfX9_pass lk_X5_61 (by assumption) (p_pass hB hT (by omega) hY2 hF hO2 (by omega) a2) ?_
  rintro v3 M3 ⟨rfl, a3, hFr4⟩
  have hFr5 : Fr (fun c => WS v c ∨ TS t c) M M3 := hFr3.trans hFr4 (fun _ q => q) (fun _ q => q)
  have hY3 : YC M3 yd Y := hY.cong (hFr5 _ (by simp only [WS, TS]; omega)) (hFr5 _ (by simp only [WS, TS]; omega))
  have hO3 := ok_wk hF hO2 (by omega)
  refine r_pop C rfl rfl ?_
  refine r_aload_n C 2 rfl rfl rfl rfl ?_
  refine v0_r C rfl mfX8_anySits lk_X5_57 (by assumption) (p_any hB hY3 hF hO3 a3) ?_
  refine r_if_ne C 52 rfl (by decide) (fun h3 => ?_) (fun h3 => ?_)
  · have e := plOk_w (bI_1 h3)
    refine r_ic (v := nI 0) C rfl (by decide) ?_
    exact q_iret C hQ rfl rfl rfl ⟨rfl, rfl, by rw [e]; rfl, fun q => (by rw [e] at q; cases q), hFr5⟩
  · have e := plOk_y h h2 (bI_0 h3)
    refine r_ic (v := nI 1) C rfl (by decide) ?_
    refine r_goto C 53 rfl (by decide) ?_
    exact q_iret C hQ rfl rfl rfl ⟨rfl, rfl, by rw [e]; rfl, fun _ => a3, hFr5⟩
/-- the row of a plan, from the week k on -/
def plRow (F F' : Nat → Int32) (k : Nat) (x : Option (List Nat)) : Prop := (∀ i, i < k → F' i = F i) ∧ ∀ l, x = some l → ∀ i, i < l.length → F' (k + i) = nI (l.getD i 0)
theorem plRow.cons {F F1 F2 : Nat → Int32} {k i : Nat} {l : List Nat} (h1 : ∀ j, j < k → F1 j = F j) (h2 : F1 k = nI i) (h : plRow F1 F2 (k + 1) (some l)) : plRow F F2 k (some (i :: l)) := by
  refine ⟨fun j hj => (h.1 j (by omega)).trans (h1 j hj), ?_⟩
  intro l2 e j hj
  have e := Option.some.inj e
  subst e
  match j with
  | 0 => rw [Nat.add_zero, h.1 k (by omega), h2]; rfl
  | j + 1 =>
    have h3 := h.2 l rfl j (by simpa using hj)
    rw [show k + 1 + j = k + (j + 1) by omega] at h3
    rw [h3]
    rfl
abbrev PS (w0 t p k c : Nat) : Prop := (w0 + 4 * (k + 1) ≤ c ∧ c < w0 + 64) ∨ TS t c ∨ c = p + 1
theorem p_reaches (hP : PA Sh N p t bw) (hB : BA Sh N bw w0 yd) (hT : TA Sh N t yd) (hd1 : t + 3 ≤ w0) (hd2 : w0 + 64 ≤ p) (hF : Y.Fine) {h : Nat} (hh : h ≤ 24) (wk : Nat) (hwk : wk ≤ 5) :
    ∀ (f k : Nat) (M : MM) (R : Row) (b : Nat), k + f = wk → YC M yd Y → OK b R → b + f < 2 ^ 29 → Ag (wrow M (w0 + 4 * k)) R →
    Con E mX5_reaches (6 + f) 0 0 [.ref p, .int (nI k), .int (nI wk), .int (nI h)] Sh N G M (PR Sh N (fun z M' => z = some (.int (bI (plS Y h f R).isSome)) ∧ Fr (PS w0 t p k) M M' ∧ plRow (M (p + 1)) (M' (p + 1)) k (plS Y h f R))) nox := by
  obtain ⟨p0, p1, -⟩ := id hP
  obtain ⟨b0, b1⟩ := id hB
  have t3 := hT.2.2.2
  have no : ∀ {F : Nat → Int32} {k : Nat}, plRow F F k none := ⟨fun _ _ => rfl, fun l e => by cases e⟩
  intro f
  induction f with
  | zero =>
    intro k0 M R b hk hY hO hb a
    obtain ⟨a0, -⟩ := b1 k0 (by omega)
    have hm := hO.mn
    refine Con.ofQ (by decide +kernel) (by simp [Value.category]) (Nat.le_of_ble_eq_true rfl) (fun k C0 Q hQ => ?_)
    have C : CK k E mX5_reaches kdX5_reaches 6 0 0 := ⟨C0, kdX5_reaches_ok⟩
    refine r_iload_n C 1 rfl rfl rfl ?_
    refine r_if_lt C 15 rfl (by decide) (fun q => absurd q (Int32.not_lt.mpr (nI_pos' (by omega)))) (fun _ => ?_)
    refine r_iload_n C 1 rfl rfl rfl ?_
    refine r_ic (v := nI 1) C rfl (by decide) ?_
    refine r_iadd C rfl ?_
    refine r_aload_n C 0 rfl rfl rfl rfl ?_
    refine r_getv C rfl f_X5_22 (by assumption) rfl ?_
    refine r_alen4 C rfl (by assumption) ?_
    rw [nI_add]
    refine r_icmp_lt C 17 rfl (by decide) (fun _ => ?_) (fun q => absurd ((nI_ltI (by omega) (by omega)).mpr (by omega)) q)
    refine r_aload_n C 0 rfl rfl rfl rfl ?_
    refine r_getv C rfl f_X5_22 (by assumption) rfl ?_
    refine r_iload_n C 1 rfl rfl rfl ?_
    refine r_aald C rfl b0 (k0) rfl (by omega) (by decide) rfl ?_
    refine r_astore C rfl (by exact Nat.le_of_ble_eq_true rfl) rfl ?_
    refine r_iload_n C 1 rfl rfl rfl ?_
    refine r_iload_n C 2 rfl rfl rfl ?_
    refine r_icmp_ge C 39 rfl (by decide) (fun _ => ?_) (fun q => absurd ((nI_leI (by omega) (by omega)).mpr (by omega)) q)
    refine r_aload C rfl rfl rfl ?_
    refine r_geti C rfl f_X5_30 (by assumption) rfl ?_
    rw [w_mn a hO]
    refine r_iload_n C 3 rfl rfl rfl ?_
    refine r_icmp_lt C 52 rfl (by decide) (fun q => ?_) (fun q => ?_)
    · have q := lt_nI (by omega) (by omega) q
      have e : plS Y h 0 R = none := by rw [plS, if_neg (by omega)]
      refine r_ic (v := nI 0) C rfl (by decide) ?_
      exact q_iret C hQ rfl rfl rfl ⟨rfl, rfl, by rw [e]; rfl, Fr.rfl, by rw [e]; exact no⟩
    · have q := nlt_nI (by omega) (by omega) q
      have e : plS Y h 0 R = some [] := by rw [plS, if_pos q]
      refine r_ic (v := nI 1) C rfl (by decide) ?_
      refine r_goto C 53 rfl (by decide) ?_
      exact q_iret C hQ rfl rfl rfl ⟨rfl, rfl, by rw [e]; rfl, Fr.rfl, by rw [e]; exact ⟨fun _ _ => rfl, fun l e i hi => by rw [← Option.some.inj e] at hi; exact absurd hi (Nat.not_lt_zero i)⟩⟩
  | succ f ih =>
    intro k0 M R b hk hY hO hb a
    obtain ⟨a0, -⟩ := id (b1 k0 (by omega))
    have hm := hO.mn
    refine Con.ofQ (by decide +kernel) (by simp [Value.category]) (Nat.le_of_ble_eq_true rfl) (fun k C0 Q hQ => ?_)
    have C : CK k E mX5_reaches kdX5_reaches (6+(f+1)) 0 0 := ⟨C0, kdX5_reaches_ok⟩
    refine r_iload_n C 1 rfl rfl rfl ?_
    refine r_if_lt C 15 rfl (by decide) (fun q => absurd q (Int32.not_lt.mpr (nI_pos' (by omega)))) (fun _ => ?_)
    refine r_iload_n C 1 rfl rfl rfl ?_
    refine r_ic (v := nI 1) C rfl (by decide) ?_
    refine r_iadd C rfl ?_
    refine r_aload_n C 0 rfl rfl rfl rfl ?_
    refine r_getv C rfl f_X5_22 (by assumption) rfl ?_
    refine r_alen4 C rfl (by assumption) ?_
    rw [nI_add]
    refine r_icmp_lt C 17 rfl (by decide) (fun _ => ?_) (fun q => absurd ((nI_ltI (by omega) (by omega)).mpr (by omega)) q)
    refine r_aload_n C 0 rfl rfl rfl rfl ?_
    refine r_getv C rfl f_X5_22 (by assumption) rfl ?_
    refine r_iload_n C 1 rfl rfl rfl ?_
    refine r_aald C rfl b0 (k0) rfl (by omega) (by decide) rfl ?_
    refine r_astore C rfl (by exact Nat.le_of_ble_eq_true rfl) rfl ?_
    refine r_iload_n C 1 rfl rfl rfl ?_
    refine r_iload_n C 2 rfl rfl rfl ?_
    refine r_icmp_ge C 39 rfl (by decide) (fun q => absurd (le_nI (by omega) (by omega) q) (by omega)) (fun _ => ?_)
    refine r_iload_n C 1 rfl rfl rfl ?_
    refine r_aload_n C 0 rfl rfl rfl rfl ?_
    refine r_getv C rfl f_X5_9 (by assumption) rfl ?_
    refine r_alen C rfl (by assumption) (by decide) ?_
    refine r_icmp_lt C 54 rfl (by decide) (fun _ => ?_) (fun q => absurd ((nI_ltI (by omega) (by omega)).mpr (by omega)) q)
    refine r_aload C rfl rfl rfl ?_
    refine r_geti C rfl f_X5_30 (by assumption) rfl ?_
    rw [w_mn a hO]
    refine r_ic (v := nI 3) C rfl (by decide) ?_
    refine r_iload_n C 2 rfl rfl rfl ?_
    refine r_iload_n C 1 rfl rfl rfl ?_
    refine r_isub C rfl ?_
    rw [pk_sub (by omega)]
    refine r_imul C rfl ?_
    rw [pk_mul]
    refine r_iadd C rfl ?_
    rw [nI_add]
    refine r_iload_n C 3 rfl rfl rfl ?_
    refine r_icmp_ge C 71 rfl (by decide) (fun q => ?_) (fun q => ?_)
    rotate_left
    · have q := nle_nI (by omega) (by omega) q
      have e : plS Y h (f + 1) R = none := plS_few hF hO (by omega) (by omega)
      refine r_ic (v := nI 0) C rfl (by decide) ?_
      exact q_iret C hQ rfl rfl rfl ⟨rfl, rfl, by rw [e]; rfl, Fr.rfl, by rw [e]; exact no⟩
    obtain ⟨g, hg⟩ : ∃ g, g = fun i => if plOk Y R i = true then plS Y h f (wkR Y (rsR i R)) else none := ⟨_, rfl⟩
    have hS : plS Y h (f + 1) R = plL g 0 4 := by rw [plS, hg]
    have loop : ∀ (m i : Nat) (M1 : MM), i + m = 4 → Fr (PS w0 t p k0) M M1 → (∀ j, j < k0 → M1 (p + 1) j = M (p + 1) j) → plS Y h (f + 1) R = plL g i m → PT k E Q 0 0 Sh N G M1 74 [some (.ref p), some (.int (nI k0)), some (.int (nI wk)), some (.int (nI h)), some (.ref (w0 + 4 * k0)), some (.int (nI i))] [] := by
      intro m
      induction m with
      | zero =>
        intro i M1 hi hFr hrow he
        refine r_iload C rfl rfl ?_
        refine r_ic (v := nI 3) C rfl (by decide) ?_
        refine r_icmp_gt C 127 rfl (by decide) (fun _ => ?_) (fun q => absurd ((nI_ltI (by omega) (by omega)).mpr (by omega)) q)
        refine r_ic (v := nI 0) C rfl (by decide) ?_
        have e : plS Y h (f + 1) R = none := by rw [he]; rfl
        exact q_iret C hQ rfl rfl rfl ⟨rfl, rfl, by rw [e]; rfl, hFr, by rw [e]; exact ⟨hrow, fun l e => by cases e⟩⟩
      | succ m ihm =>
        intro i M1 hi hFr hrow he
        refine r_iload C rfl rfl ?_
        refine r_ic (v := nI 3) C rfl (by decide) ?_
        refine r_icmp_gt C 127 rfl (by decide) (fun q => absurd (lt_nI (by omega) (by omega) q) (by omega)) (fun _ => ?_)
        refine r_aload_n C 0 rfl rfl rfl rfl ?_
        refine r_getv C rfl f_X5_9 (by assumption) rfl ?_
        refine r_iload_n C 1 rfl rfl rfl ?_
        refine r_iload C rfl rfl ?_
        refine r_iast C rfl (by assumption) (k0) rfl (by omega) (by decide) ?_
        obtain ⟨M2, hM2⟩ : ∃ M2, M2 = up M1 (p + 1) k0 (nI i) := ⟨_, rfl⟩
        rw [← hM2]
        have hFr2 : Fr (PS w0 t p k0) M M2 := hFr.trans (S := PS w0 t p k0) (T := fun c => c = p + 1) (fun c hc => by rw [hM2]; exact up_row M1 _ hc) (fun _ q => q) (fun c q => Or.inr (Or.inr q))
        have a2 : Ag (wrow M2 (w0 + 4 * k0)) R := by rw [hFr2.row _ (fun c h1 h2 q => by simp only [PS, TS] at q; omega)]; exact a
        have hY2 : YC M2 yd Y := hY.cong (hFr2 _ (by simp only [PS, TS]; omega)) (hFr2 _ (by simp only [PS, TS]; omega))
        have r2 : ∀ j, j < k0 → M2 (p + 1) j = M (p + 1) j := fun j hj => by rw [hM2, up_ne _ _ (by omega)]; exact hrow j hj
        have r3 : M2 (p + 1) k0 = nI i := by rw [hM2, up_same]
        refine r_aload_n C 0 rfl rfl rfl rfl ?_
        refine r_aload C rfl rfl rfl ?_
        refine r_aload_n C 0 rfl rfl rfl rfl ?_
        refine r_getv C rfl f_X5_22 (by assumption) rfl ?_
        refine r_iload_n C 1 rfl rfl rfl ?_
        refine r_ic (v := nI 1) C rfl (by decide) ?_
        refine r_iadd C rfl ?_
        rw [nI_add]
        refine r_aald C rfl b0 (k0 + 1) rfl (by omega) (by decide) rfl ?_
        refine r_iload C rfl rfl ?_
        refine v3_g C rfl mfX5_bearsLift lk_X5_49 (by assumption) (p_bears hP (b1 k0 (by omega)) (b1 (k0 + 1) (by omega)) hT (by omega) (by omega) hY2 hF hO (by omega) a2 i rfl (by omega)) ?_
        rintro z M3 ⟨rfl, a3, hFr3⟩
        have hFr4 : Fr (PS w0 t p k0) M M3 := hFr2.trans hFr3 (fun _ q => q) (fun c q => by simp only [PS, WS, TS] at q ⊢; omega)
        have e3 : M3 (p + 1) = M2 (p + 1) := hFr3 _ (by simp only [WS, TS]; omega)
        have hnext : g i = none → ∀ M4, Fr (PS w0 t p k0) M M4 → (∀ j, j < k0 → M4 (p + 1) j = M (p + 1) j) → PT k E Q 0 0 Sh N G M4 121 [some (.ref p), some (.int (nI k0)), some (.int (nI wk)), some (.int (nI h)), some (.ref (w0 + 4 * k0)), some (.int (nI i))] [] := by
          intro hn M4 hFr5 hrow4
          refine r_iinc (c := nI 1) C rfl rfl (by decide) ?_
          refine r_goto C 74 rfl (by decide) ?_
          refine r_eqL ?_ (ihm (i + 1) M4 (by omega) hFr5 hrow4 (by rw [he, plL_no hn]))
          first | rfl | (simp only [sm, add3, nI_add, Int32.add_zero, Int32.zero_add]; rfl)
        refine r_if_eq C 121 rfl (by decide) (fun q => ?_) (fun q => ?_)
        · have q := bI_0 q
          refine hnext (by rw [hg]; show (if plOk Y R i = true then _ else none) = none; rw [if_neg (by rw [q]; decide)]) M3 hFr4 (fun j hj => by rw [e3]; exact r2 j hj)
        have q := bI_1 q
        have hgi : g i = plS Y h f (wkR Y (rsR i R)) := by rw [hg]; show (if plOk Y R i = true then _ else none) = _; rw [if_pos q]
        have h24 := plOk_le q
        have hO3 : OK (b + 1) (wkR Y (rsR i R)) := ok_wk hF (ok_rs hO h24) (by omega)
        have hY3 : YC M3 yd Y := hY.cong (hFr4 _ (by simp only [PS, TS]; omega)) (hFr4 _ (by simp only [PS, TS]; omega))
        refine r_aload_n C 0 rfl rfl rfl rfl ?_
        refine r_iload_n C 1 rfl rfl rfl ?_
        refine r_ic (v := nI 1) C rfl (by decide) ?_
        refine r_iadd C rfl ?_
        rw [nI_add]
        refine r_iload_n C 2 rfl rfl rfl ?_
        refine r_iload_n C 3 rfl rfl rfl ?_
        refine v3_g C rfl mfX5_reaches lk_X5_39 (by assumption) (ih (k0 + 1) M3 (wkR Y (rsR i R)) (b + 1) (by omega) hY3 hO3 (by omega) (a3 q)) ?_
        rintro z M4 ⟨rfl, hFr5, hrow5⟩
        rw [← hgi] at hrow5 ⊢
        have hFr6 : Fr (PS w0 t p k0) M M4 := hFr4.trans hFr5 (fun _ q => q) (fun c q => by simp only [PS, WS, TS] at q ⊢; omega)
        refine r_if_eq C 121 rfl (by decide) (fun q2 => ?_) (fun q2 => ?_)
        · have q2 := Option.isSome_eq_false_iff.mp (bI_0 q2)
          have q2 : g i = none := Option.isNone_iff_eq_none.mp q2
          exact hnext q2 M4 hFr6 (fun j hj => by rw [hrow5.1 j (by omega), e3]; exact r2 j hj)
        · obtain ⟨l, hl⟩ := Option.isSome_iff_exists.mp (bI_1 q2)
          rw [hl] at hrow5
          have e : plS Y h (f + 1) R = some (i :: l) := by rw [he, plL_yes hl]
          refine r_ic (v := nI 1) C rfl (by decide) ?_
          refine q_iret C hQ rfl rfl rfl ⟨rfl, rfl, by rw [e]; rfl, hFr6, ?_⟩
          rw [e]
          exact plRow.cons (fun j hj => by rw [e3]; exact r2 j hj) (by rw [e3]; exact r3) hrow5
    refine r_ic (v := nI 0) C rfl (by decide) ?_
    refine r_istore C rfl (by exact Nat.le_of_ble_eq_true rfl) ?_
    exact loop 4 0 M (by omega) Fr.rfl (fun _ _ => rfl) hS
/-- the first plan of i weeks or more, m being tried -/
def plN (Y : YD) (h : Nat) (R : Row) : Nat → Nat → Option (List Nat)
  | _, 0 => none
  | i, m + 1 => match plS Y h i R with
    | some l => some l
    | none => plN Y h R (i + 1) m
theorem plN_yes {h i m : Nat} {l : List Nat} (e : plS Y h i R = some l) : plN Y h R i (m + 1) = some l := by rw [plN, e]
theorem plN_no {h i m : Nat} (e : plS Y h i R = none) : plN Y h R i (m + 1) = plN Y h R (i + 1) m := by rw [plN, e]
def plI (x : Option (List Nat)) : Int32 := match x with
  | some l => nI l.length
  | none => -1
def plK (l0 : List Nat) (x : Option (List Nat)) : List Nat := x.getD l0
/-- the planner keeps this plan -/
def PK (M : MM) (p : Nat) (l : List Nat) : Prop := l.length ≤ 5 ∧ M p 4 = nI l.length ∧ ∀ i, i < l.length → M (p + 2) i = nI (l.getD i 0)
theorem PK.cong {M' : MM} {l : List Nat} (h : PK M p l) (h1 : M' p = M p) (h2 : M' (p + 2) = M (p + 2)) : PK M' p l := by
  unfold PK
  rw [h1, h2]
  exact h
abbrev PS2 (w0 t p c : Nat) : Prop := (w0 ≤ c ∧ c < w0 + 64) ∨ TS t c ∨ (p ≤ c ∧ c < p + 3)
theorem p_plan (hP : PA Sh N p t bw) (hB : BA Sh N bw w0 yd) (hA : WA Sh N w yd) (hT : TA Sh N t yd) (hdw : w + 4 ≤ t) (hd1 : t + 3 ≤ w0) (hd2 : w0 + 64 ≤ p) (hF : Y.Fine) {x : Int32} (h : Nat) (hx : x = nI h) (hh : h ≤ 24) (hY : YC M yd Y) (hO : OK b R) (hb : b < 2 ^ 28) (a : Ag (wrow M w) R) {l0 : List Nat} (hk : PK M p l0) :
    Con E mX5_weeksTo 12 0 0 [.ref p, .ref w, .int x] Sh N G M (PR Sh N (fun z M' => z = some (.int (plI (plN Y h R 0 6))) ∧ Fr (PS2 w0 t p) M M' ∧ PK M' p (plK l0 (plN Y h R 0 6)))) nox := by
  subst hx
  obtain ⟨p0, p1, p2⟩ := id hP
  obtain ⟨b0, b1⟩ := id hB
  obtain ⟨a0, -, -, -, -, a5⟩ := id hA
  have wb0 := b1 0 (by decide)
  obtain ⟨c0, -⟩ := id wb0
  have t3 := hT.2.2.2
  have hm := hO.mn
  refine Con.ofQ (by decide +kernel) (by simp [Value.category]) (Nat.le_of_ble_eq_true rfl) (fun k C0 Q hQ => ?_)
  have C : CK k E mX5_weeksTo kdX5_weeksTo 12 0 0 := ⟨C0, kdX5_weeksTo_ok⟩
  refine r_aload_n C 1 rfl rfl rfl rfl ?_
  refine r_geti C rfl f_X5_30 (by assumption) rfl ?_
  rw [w_mn a hO]
  refine r_iload_n C 2 rfl rfl rfl ?_
  refine r_icmp_lt C 15 rfl (by decide) (fun q => ?_) (fun q => ?_)
  rotate_left
  · have q := nlt_nI (by omega) (by omega) q
    have e : plN Y h R 0 6 = some [] := plN_yes (by rw [plS, if_pos q])
    refine r_aload_n C 0 rfl rfl rfl rfl ?_
    refine r_ic (v := nI 0) C rfl (by decide) ?_
    refine r_puti C rfl f_X5_26 (by assumption) rfl rfl rfl ?_
    refine r_ic (v := nI 0) C rfl (by decide) ?_
    refine q_iret C hQ rfl rfl rfl ⟨rfl, rfl, by rw [e]; rfl, (fun c hc => up_row M _ (by simp only [PS2] at hc; omega)), ?_⟩
    rw [e]
    exact ⟨by show 0 ≤ 5; omega, up_same _ _ _ _, fun i hi => absurd hi (Nat.not_lt_zero i)⟩
  have q := lt_nI (by omega) (by omega) q
  have e0 : plN Y h R 0 6 = plN Y h R 1 5 := plN_no (by rw [plS, if_neg (by omega)])
  rw [e0] at hQ
  have loop : ∀ (m i : Nat) (M1 : MM), i + m = 6 → Fr (PS2 w0 t p) M M1 → Ag (wrow M1 (w0 + 4 * 0)) R → PK M1 p l0 → plN Y h R 1 5 = plN Y h R i m → PT k E Q 0 0 Sh N G M1 27 [some (.ref p), some (.ref w), some (.int (nI h)), some (.int (nI i))] [] := by
    intro m
    induction m with
    | zero =>
      intro i M1 hi hFr a1 hk1 he
      refine r_iload_n C 3 rfl rfl rfl ?_
      refine r_ic (v := nI 5) C rfl (by decide) ?_
      refine r_icmp_gt C 69 rfl (by decide) (fun _ => ?_) (fun q => absurd ((nI_ltI (by omega) (by omega)).mpr (by omega)) q)
      have e : plN Y h R 1 5 = none := by rw [he]; rfl
      refine r_ic (v := (-1)) C rfl (by decide) ?_
      exact q_iret C hQ rfl rfl rfl ⟨rfl, rfl, by rw [e]; rfl, hFr, by rw [e]; exact hk1⟩
    | succ m ih =>
      intro i M1 hi hFr a1 hk1 he
      have hY1 : YC M1 yd Y := hY.cong (hFr _ (by simp only [PS2, TS]; omega)) (hFr _ (by simp only [PS2, TS]; omega))
      refine r_iload_n C 3 rfl rfl rfl ?_
      refine r_ic (v := nI 5) C rfl (by decide) ?_
      refine r_icmp_gt C 69 rfl (by decide) (fun q => absurd (lt_nI (by omega) (by omega) q) (by omega)) (fun _ => ?_)
      refine r_aload_n C 0 rfl rfl rfl rfl ?_
      refine r_ic (v := nI 0) C rfl (by decide) ?_
      refine r_iload_n C 3 rfl rfl rfl ?_
      refine r_iload_n C 2 rfl rfl rfl ?_
      refine v3_g C rfl mfX5_reaches lk_X5_39 (by assumption) (p_reaches hP hB hT hd1 hd2 hF hh i (by omega) i 0 M1 R b (by omega) hY1 hO (by omega) a1) ?_
      rintro z M2 ⟨rfl, hFr2, hrow⟩
      have hFr3 : Fr (PS2 w0 t p) M M2 := hFr.trans hFr2 (fun _ q => q) (fun c q => by simp only [PS, PS2, TS] at q ⊢; omega)
      have hk2 : PK M2 p l0 := hk1.cong (hFr2 _ (by simp only [PS, TS]; omega)) (hFr2 _ (by simp only [PS, TS]; omega))
      refine r_if_eq C 63 rfl (by decide) (fun q2 => ?_) (fun q2 => ?_)
      · have q2 := Option.isSome_eq_false_iff.mp (bI_0 q2)
        have q2 : plS Y h i R = none := Option.isNone_iff_eq_none.mp q2
        refine r_iinc (c := nI 1) C rfl rfl (by decide) ?_
        refine r_goto C 27 rfl (by decide) ?_
        refine r_eqL ?_ (ih (i + 1) M2 (by omega) hFr3 (by rw [hFr2.row _ (fun c h1 h2 q => by simp only [PS, TS] at q; omega)]; exact a1) hk2 (by rw [he, plN_no q2]))
        first | rfl | (simp only [sm, add3, nI_add, Int32.add_zero, Int32.zero_add]; rfl)
      · obtain ⟨l, hl⟩ := Option.isSome_iff_exists.mp (bI_1 q2)
        have hln := plS_len hl
        have e : plN Y h R 1 5 = some l := by rw [he, plN_yes hl]
        refine r_aload_n C 0 rfl rfl rfl rfl ?_
        refine r_getv C rfl f_X5_9 (by assumption) rfl ?_
        refine r_ic (v := nI 0) C rfl (by decide) ?_
        refine r_aload_n C 0 rfl rfl rfl rfl ?_
        refine r_getv C rfl f_X5_15 (by assumption) rfl ?_
        refine r_ic (v := nI 0) C rfl (by decide) ?_
        refine r_iload_n C 3 rfl rfl rfl ?_
        refine r_acopy C 0 0 i rfl lkac_X5_43 (by assumption) (by assumption) rfl rfl rfl (by omega) (by omega) (by decide) (by decide) ?_
        obtain ⟨M3, hM3⟩ : ∃ M3, M3 = aset M2 (p + 2) (va_cpy (M2 (p + 1)) (M2 (p + 2)) 0 0 i) := ⟨_, rfl⟩
        rw [← hM3]
        refine r_aload_n C 0 rfl rfl rfl rfl ?_
        refine r_iload_n C 3 rfl rfl rfl ?_
        refine r_puti C rfl f_X5_26 (by assumption) rfl rfl rfl ?_
        refine r_iload_n C 3 rfl rfl rfl ?_
        refine q_iret C hQ rfl rfl rfl ⟨rfl, rfl, by rw [e, plI, hln], ?_, ?_⟩
        · intro c hc
          rw [up_row _ _ (by simp only [PS2] at hc; omega), hM3, aset_ne _ _ (by simp only [PS2] at hc; omega)]
          exact hFr3 c hc
        · rw [e]
          refine ⟨by show l.length ≤ 5; omega, by show up M3 p 4 (nI i) p 4 = nI l.length; rw [up_same, hln], fun j hj => ?_⟩
          have hj : j < l.length := hj
          rw [up_row _ _ (by omega), hM3, aset_own, cpy_lo (by omega)]
          have h3 := hrow.2 l hl j hj
          rw [Nat.zero_add] at h3
          exact h3
  refine r_aload_n C 0 rfl rfl rfl rfl ?_
  refine r_getv C rfl f_X5_22 (by assumption) rfl ?_
  refine r_ic (v := nI 0) C rfl (by decide) ?_
  refine r_aald C rfl b0 (0) rfl (by omega) (by decide) rfl ?_
  refine r_aload_n C 1 rfl rfl rfl rfl ?_
  refine v1_g C rfl mfX8_become lk_X5_35 (by assumption) (p_become wb0 hA (by omega) hO a) ?_
  rintro z M1 ⟨rfl, a1, hFr1⟩
  refine r_ic (v := nI 1) C rfl (by decide) ?_
  refine r_istore_n C 3 rfl rfl (by exact Nat.le_of_ble_eq_true rfl) ?_
  have hFr2 : Fr (PS2 w0 t p) M M1 := hFr1.mono (fun c q => by simp only [PS2, WS, TS] at q ⊢; omega)
  exact loop 5 1 M1 (by omega) hFr2 a1 (hk.cong (hFr1 _ (by simp only [WS]; omega)) (hFr1 _ (by simp only [WS]; omega))) rfl
end PLAN
