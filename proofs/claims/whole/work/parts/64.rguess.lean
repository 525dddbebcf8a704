section RGUESS
variable {E : VE} {Sh : Nat → SE} {N : Nat} {G : Bool} {M M' : MM} {o r w v yd b : Nat} {R : Row}
abbrev RQv (M : MM) (o : Nat) (cd : Nat) (x : ST) : Option Value → MM → Prop := fun v M' => v = none ∧ M' o 0 = nI cd ∧ RI M' o x ∧ ∀ c, (c < o ∨ o + 22 ≤ c) → M' c = M c
def ST.guess (x : ST) (g w : Nat) : ST := x.setG (fun i => if i = g then some (x.Rw w) else x.Gs i) (fun i => if i = g then 0 else x.Cr i)
/-- which is thrown by 'guess', the state behind it -/
def guessA (x : ST) (p q : Int32) : Nat × ST := if inI p 0 (nI 3) = false ∨ isW q x.wn = false then (1, x) else (0, x.guess p.toNatClampNeg q.toNatClampNeg)
theorem R_guess (hM : MO Sh N o) {x : ST} (hV : VI b x) (hR : RI M o x) (p q : Int32) : Con E mX12_guess 3 0 0 [.ref o, .int p, .int q] Sh N G M (PR Sh N (RQv M o (guessA x p q).1 (guessA x p q).2)) nox := by
  have h0 := hM.1
  have h19 : At Sh N (o + 19) (arE 2 4) := hM.ar 18 rfl
  have h20 : At Sh N (o + 20) (arE 0 4) := hM.ar 19 rfl
  have hw4 := hV.1
  refine Con.ofQ (by decide +kernel) (by simp [Value.category]) (Nat.le_of_ble_eq_true rfl) (fun k C0 Q hQ => ?_)
  have C : CK k E mX12_guess kdX12_guess 3 0 0 := ⟨C0, kdX12_guess_ok⟩
  refine r_aload_n C 0 rfl rfl rfl rfl ?_
  refine r_ic (v := nI 0) C rfl (by decide) ?_
  refine r_puti C rfl f_X12_90 (by assumption) rfl rfl rfl ?_
  have hR1 := hR.c0 hV (nI 0)
  obtain ⟨M1, hM1⟩ : ∃ M1, M1 = up M o 0 (nI 0) := ⟨_, rfl⟩
  rw [← hM1] at hR1 ⊢
  have c0 : M1 o 0 = nI 0 := by rw [hM1, up_same]
  have lo1 : ∀ k, (k < o ∨ o + 22 ≤ k) → M1 k = M k := fun k hk => by rw [hM1, up_row _ _ (by omega)]
  have bad : (inI p 0 (nI 3) = false ∨ isW q x.wn = false) → PT k E Q 0 0 Sh N G M1 22 [some (.ref o), some (.int p), some (.int q)] [] := by
    intro h
    have ea : guessA x p q = (1, x) := by rw [guessA, if_pos h]
    refine r_aload_n C 0 rfl rfl rfl rfl ?_
    refine r_ic (v := nI 1) C rfl (by decide) ?_
    refine r_puti C rfl f_X12_90 (by assumption) rfl rfl rfl ?_
    exact q_vret C hQ rfl rfl ⟨rfl, rfl, rfl, by rw [ea, up_same], by rw [ea]; exact hR1.c0 hV _, fun k hk => by rw [up_row _ _ (by omega)]; exact lo1 k hk⟩
  refine r_iload_n C 1 rfl rfl rfl ?_
  refine r_ic (v := nI 0) C rfl (by decide) ?_
  refine r_ic (v := nI 3) C rfl (by decide) ?_
  refine s3_r C rfl mfX12_isIn lk_X12_96 (c_X12_isIn p (nI 0) (nI 3)) ?_
  rw [inI_if]
  refine r_if_eq C 22 rfl (by decide) (fun h => bad (Or.inl (bI_0 h))) (fun hp => ?_)
  have hp : inI p 0 (nI 3) = true := bI_1 hp
  refine r_aload_n C 0 rfl rfl rfl rfl ?_
  refine r_iload_n C 2 rfl rfl rfl ?_
  refine v1_r C rfl mfX12_isWall lk_X12_244 (by assumption) (c_isWall hM hR1.1.1 q) ?_
  refine r_if_ne C 28 rfl (by decide) (fun hq => ?_) (fun h => bad (Or.inr (bI_0 h)))
  have hq := bI_1 hq
  obtain ⟨w, hw, rfl⟩ := (isW_iff (by omega)).mp hq
  obtain ⟨g, -, hg, rfl⟩ := (inI_iff (a := 0) (by decide) (by decide)).mp hp
  have ea : guessA x (nI g) (nI w) = (0, x.guess g w) := by
    rw [guessA, if_neg (by rintro (z | z); rw [show inI (nI g) 0 (nI 3) = true from hp] at z; cases z; rw [hq] at z; cases z), nI_clamp (by omega), nI_clamp (by omega)]
  rw [ea] at hQ
  have aw := hR1.1.2.2 w hw
  have ow := hV.ow hw
  refine r_aload_n C 0 rfl rfl rfl rfl ?_
  refine r_iload_n C 2 rfl rfl rfl ?_
  refine r_bi (v := nI 32) C rfl (by decide) ?_
  refine r_iload_n C 1 rfl rfl rfl ?_
  refine r_iadd C rfl ?_
  rw [nI_add]
  refine v2_g C rfl mfX12_copy lk_X12_215 (by assumption) (m_copy hM w (32 + g) rfl rfl (by omega) (by omega) ow.mn aw) ?_
  rintro z M2 ⟨rfl, a2, hFr2⟩
  refine r_aload_n C 0 rfl rfl rfl rfl ?_
  refine r_getv C rfl f_X12_80 (by assumption) rfl ?_
  refine r_iload_n C 1 rfl rfl rfl ?_
  refine r_ic (v := nI 1) C rfl (by decide) ?_
  refine r_zast C rfl (by assumption) (g) rfl (by omega) (by decide) rfl ?_
  refine r_aload_n C 0 rfl rfl rfl rfl ?_
  refine r_getv C rfl f_X12_84 (by assumption) rfl ?_
  refine r_iload_n C 1 rfl rfl rfl ?_
  refine r_ic (v := nI 0) C rfl (by decide) ?_
  refine r_iast C rfl (by assumption) (g) rfl (by omega) (by decide) ?_
  have f2 : FRM o (fun c => c = o + 19 ∨ c = o + 20) (fun r => r = 32 + g) (fun _ => False) M1 M2 := (FRM.of hFr2 (fun q => q)).mono (fun _ q => q.elim) (fun _ q => q) (fun _ q => q)
  have f3 : FRM o (fun c => c = o + 19 ∨ c = o + 20) (fun r => r = 32 + g) (fun _ => False) M1 (up (up M2 (o + 19) g (nI 1)) (o + 20) g (nI 0)) := (f2.trans ((FRM.cel M2 o (o + 19) g _ (by omega) (by omega)).mono (fun c q => Or.inl q) (fun _ q => q.elim) (fun _ q => q))).trans ((FRM.cel _ o (o + 20) g _ (by omega) (by omega)).mono (fun c q => Or.inr q) (fun _ q => q.elim) (fun _ q => q))
  refine q_vret C hQ rfl rfl ⟨rfl, rfl, rfl, by rw [f3.2.2 0 (fun q => q)]; exact c0, ?_, fun k hk => by rw [f3.low (fun c q => by omega) k hk]; exact lo1 k hk⟩
  refine hR1.toG hV (f3.mono (fun c q => Or.inr q) (fun r q => Or.inr (by omega)) (fun _ q => q.elim)) (fun i hi => ?_)
  show GRo _ o i (if i = g then some (x.Rw w) else x.Gs i) (if i = g then 0 else x.Cr i)
  by_cases e : i = g
  · rw [if_pos e, if_pos e, e]
    refine ⟨by rw [up_row _ _ (show o + 19 ≠ o + 20 by omega), up_same]; rfl, by rw [up_same]; rfl, ?_⟩
    have e2 : mrow (up (up M2 (o + 19) g (nI 1)) (o + 20) g (nI 0)) o (32 + g) = mrow M2 o (32 + g) := by
      funext j
      simp only [mrow]
      rw [up_row _ _ (show o + 1 ≠ o + 20 by omega), up_row _ _ (show o + 1 ≠ o + 19 by omega)]
    rw [e2]
    exact a2
  · rw [if_neg e, if_neg e]
    have h8 := hR1.2.2.2.2.2.2.2.1 i hi
    cases hx : x.Gs i with
    | none =>
      rw [hx] at h8
      show up (up M2 (o + 19) g (nI 1)) (o + 20) g (nI 0) (o + 19) i = 0
      rw [up_row _ _ (show o + 19 ≠ o + 20 by omega), up_ne _ _ (by omega), hFr2.1 _ (by omega) (fun q => q)]
      exact h8
    | some R =>
      rw [hx] at h8
      obtain ⟨q1, q2, q3⟩ := h8
      obtain ⟨b', hO'⟩ := hV.2.2.2.2.2.2.2.1 i hi R hx
      refine ⟨?_, ?_, ?_⟩
      · rw [up_row _ _ (show o + 19 ≠ o + 20 by omega), up_ne _ _ (by omega), hFr2.1 _ (by omega) (fun q => q)]; exact q1
      · rw [up_ne _ _ (by omega), up_row _ _ (show o + 20 ≠ o + 19 by omega), hFr2.1 _ (by omega) (fun q => q)]; exact q2
      · exact (row_ag (f3.2.1 (32 + i) (by omega) (by omega)) (by rw [← q3.mn]; exact hO'.mn)).trans q3
theorem R_knows (hM : MO Sh N o) {Gs : Nat → Option Row} {Cr : Nat → Int32} (hG : GR M o Gs Cr) (hK : GOk Gs) {p q z : Int32} (g l c : Nat) (hp : p = nI g) (hq : q = nI l) (hz : z = nI c) (hg : g < 4) (hl : l < 24) (hc : c < 6) : Con E mX12_knows 2 0 0 [.ref o, .int p, .int q, .int z] Sh N G M (P1 (some (.int (bI (decide (gW (Gs g) (6 * l + c) ≠ -1))))) Sh N M) nox := by
  subst hp; subst hq; subst hz
  have h0 := hM.1
  have h19 : At Sh N (o + 19) (arE 2 4) := hM.ar 18 rfl
  have hg1 := hG g hg
  refine Con.ofQ (by decide +kernel) (by simp [Value.category]) (Nat.le_of_ble_eq_true rfl) (fun k C0 Q hQ => ?_)
  have C : CK k E mX12_knows kdX12_knows 2 0 0 := ⟨C0, kdX12_knows_ok⟩
  have no : gW (Gs g) (6 * l + c) = -1 → PT k E Q 0 0 Sh N G M 39 [some (.ref o), some (.int (nI g)), some (.int (nI l)), some (.int (nI c))] [] := by
    intro h
    refine r_ic (v := nI 0) C rfl (by decide) ?_
    exact q_iret C hQ rfl rfl rfl ⟨by rw [decide_eq_false (fun z => z h)]; rfl, rfl, rfl, rfl⟩
  refine r_aload_n C 0 rfl rfl rfl rfl ?_
  refine r_getv C rfl f_X12_80 (by assumption) rfl ?_
  refine r_iload_n C 1 rfl rfl rfl ?_
  refine r_zald C rfl (by assumption) (g) rfl (by omega) (by decide) ?_
  cases hx : Gs g with
  | none =>
    rw [hx] at hg1 no
    have hg1 : M (o + 19) g = 0 := hg1
    rw [hg1]
    refine r_if_eq C 39 rfl (by decide) (fun _ => no rfl) (fun z => absurd rfl z)
  | some R =>
    rw [hx] at hg1 no
    obtain ⟨q1, q2, q3⟩ := hg1
    obtain ⟨b', hO⟩ := hK g hg R hx
    have hm := hO.mn
    have hd := hO.dp
    have eW : gW (some R) (6 * l + c) = if l < mno R ∧ c < dpo R then R (37 + (6 * l + c)) else -1 := by
      simp only [gW]
      rw [show (6 * l + c) / 6 = l by omega, show (6 * l + c) % 6 = c by omega]
    rw [q1]
    refine r_if_eq C 39 rfl (by decide) (fun z => absurd z (by decide)) (fun _ => ?_)
    refine r_iload_n C 2 rfl rfl rfl ?_
    refine r_aload_n C 0 rfl rfl rfl rfl ?_
    refine r_bi (v := nI 32) C rfl (by decide) ?_
    refine r_iload_n C 1 rfl rfl rfl ?_
    refine r_iadd C rfl ?_
    rw [nI_add]
    refine r_ic (v := nI 1) C rfl (by decide) ?_
    refine v2_r C rfl mfX12_of lk_X12_238 (by assumption) (m_of hM 1 rfl rfl (by omega) (by decide) q3) ?_
    rw [hO.wf.2.2.2.1]
    refine r_icmp_ge C 39 rfl (by decide) (fun h => no ?_) (fun h => ?_)
    · have h := le_nI (by omega) (by omega) h
      rw [eW, if_neg (by omega)]
    have h := nle_nI (by omega) (by omega) h
    refine r_iload_n C 3 rfl rfl rfl ?_
    refine r_aload_n C 0 rfl rfl rfl rfl ?_
    refine r_bi (v := nI 32) C rfl (by decide) ?_
    refine r_iload_n C 1 rfl rfl rfl ?_
    refine r_iadd C rfl ?_
    rw [nI_add]
    refine r_ic (v := nI 0) C rfl (by decide) ?_
    refine v2_r C rfl mfX12_of lk_X12_238 (by assumption) (m_of hM 0 rfl rfl (by omega) (by decide) q3) ?_
    rw [hO.wf.1]
    refine r_icmp_ge C 39 rfl (by decide) (fun h2 => no ?_) (fun h2 => ?_)
    · have h2 := le_nI (by omega) (by omega) h2
      rw [eW, if_neg (by omega)]
    have h2 := nle_nI (by omega) (by omega) h2
    refine r_ic (v := nI 1) C rfl (by decide) ?_
    refine r_goto C 40 rfl (by decide) ?_
    refine q_iret C hQ rfl rfl rfl ⟨?_, rfl, rfl, rfl⟩
    rw [hx, eW, if_pos ⟨h, h2⟩, decide_eq_true (m1_of (hO.wok (6 * l + c) (by omega) (by omega)).1)]
    rfl
/-- the water that a guess knows, read off its row -/
theorem R_gof (hM : MO Sh N o) {Gs : Nat → Option Row} {Cr : Nat → Int32} (hG : GR M o Gs Cr) {p q : Int32} (g j : Nat) (hp : p = nI (32 + g)) (hq : q = nI (37 + j)) (hg : g < 4) (hj : j < 144) (hW : gW (Gs g) j ≠ -1) : Con E mX12_of 1 0 0 [.ref o, .int p, .int q] Sh N G M (P1 (some (.int (gW (Gs g) j))) Sh N M) nox := by
  have h := c_X12_of (E := E) (G := G) (M := M) hM (32 + g) (37 + j) hp hq (by omega) (by omega)
  have hg1 := hG g hg
  cases hx : Gs g with
  | none => rw [hx] at hW; exact absurd rfl hW
  | some R =>
    rw [hx] at hg1 hW
    obtain ⟨q1, q2, q3⟩ := hg1
    have hl : j / 6 < mno R ∧ j % 6 < dpo R := Decidable.by_contra (fun z => hW (by simp only [gW]; rw [if_neg z]))
    have e : mrow M o (32 + g) (37 + j) = gW (some R) j := by
      simp only [gW]
      rw [if_pos hl]
      exact (q3.2.2 j (by rw [← q3.mn]; exact hl.1) (by rw [← q3.dp]; exact hl.2)).1
    rw [e] at h
    exact h
def stickBad (p q z y : Int32) : Bool := !(inI p 0 (nI 23)) || !(inI q 0 (nI 5)) || !(inI z 0 (nI 400)) || !(inI y 0 (nI 50))
/-- what 'stick' answers: which is thrown, the number, the state behind it -/
def stickA (x : ST) (p q z y : Int32) : Nat × Int32 × ST := if stickBad p q z y = true then (1, 0, x) else
  (0, nI (cntB (fun i => gFit (x.Gs i) (6 * p.toNatClampNeg + q.toNatClampNeg) z y) 4), x.setG x.Gs (crUp x.Gs x.Cr (6 * p.toNatClampNeg + q.toNatClampNeg) z y 4))
theorem R_stick (hM : MO Sh N o) {x : ST} (hV : VI b x) (hR : RI M o x) (p q z y : Int32) : Con E mX12_stick 3 0 0 [.ref o, .int p, .int q, .int z, .int y] Sh N G M (PR Sh N (RQ M o (stickA x p q z y).2.1 (stickA x p q z y).1 (stickA x p q z y).2.2)) nox := by
  have h0 := hM.1
  have h20 : At Sh N (o + 20) (arE 0 4) := hM.ar 19 rfl
  have hK : GOk x.Gs := hV.2.2.2.2.2.2.2.1
  refine Con.ofQ (by decide +kernel) (by simp [Value.category]) (Nat.le_of_ble_eq_true rfl) (fun k C0 Q hQ => ?_)
  have C : CK k E mX12_stick kdX12_stick 3 0 0 := ⟨C0, kdX12_stick_ok⟩
  refine r_aload_n C 0 rfl rfl rfl rfl ?_
  refine r_ic (v := nI 0) C rfl (by decide) ?_
  refine r_puti C rfl f_X12_90 (by assumption) rfl rfl rfl ?_
  have hR1 := hR.c0 hV (nI 0)
  obtain ⟨M1, hM1⟩ : ∃ M1, M1 = up M o 0 (nI 0) := ⟨_, rfl⟩
  rw [← hM1] at hR1 ⊢
  have c0 : M1 o 0 = nI 0 := by rw [hM1, up_same]
  have lo1 : ∀ k, (k < o ∨ o + 22 ≤ k) → M1 k = M k := fun k hk => by rw [hM1, up_row _ _ (by omega)]
  have bad : stickBad p q z y = true → PT k E Q 0 0 Sh N G M1 46 [some (.ref o), some (.int p), some (.int q), some (.int z), some (.int y), none, none] [] := by
    intro h
    have ea : stickA x p q z y = (1, 0, x) := by rw [stickA, if_pos h]
    refine r_aload_n C 0 rfl rfl rfl rfl ?_
    refine r_ic (v := nI 1) C rfl (by decide) ?_
    refine v1_r C rfl mfX12_fail lk_X12_208 (by assumption) (c_fail hM (nI 1)) ?_
    exact q_iret C hQ rfl rfl rfl ⟨rfl, rfl, by rw [ea]; rfl, by rw [ea, up_same], by rw [ea]; exact hR1.c0 hV _, fun k hk => by rw [up_row _ _ (by omega)]; exact lo1 k hk⟩
  refine r_iload_n C 1 rfl rfl rfl ?_
  refine r_ic (v := nI 0) C rfl (by decide) ?_
  refine r_bi (v := nI 23) C rfl (by decide) ?_
  refine s3_r C rfl mfX12_isIn lk_X12_96 (c_X12_isIn p (nI 0) (nI 23)) ?_
  rw [inI_if]
  refine r_if_eq C 46 rfl (by decide) (fun h => bad ?_) (fun hp => ?_)
  · rw [stickBad, show inI p 0 (nI 23) = false from bI_0 h]; rfl
  have hp : inI p 0 (nI 23) = true := bI_1 hp
  refine r_iload_n C 2 rfl rfl rfl ?_
  refine r_ic (v := nI 0) C rfl (by decide) ?_
  refine r_ic (v := nI 5) C rfl (by decide) ?_
  refine s3_r C rfl mfX12_isIn lk_X12_96 (c_X12_isIn q (nI 0) (nI 5)) ?_
  rw [inI_if]
  refine r_if_eq C 46 rfl (by decide) (fun h => bad ?_) (fun hq => ?_)
  · rw [stickBad, show inI q 0 (nI 5) = false from bI_0 h, Bool.not_false, Bool.or_true]; rfl
  have hq : inI q 0 (nI 5) = true := bI_1 hq
  refine r_iload_n C 3 rfl rfl rfl ?_
  refine r_ic (v := nI 0) C rfl (by decide) ?_
  refine r_si (v := nI 400) C rfl (by decide) ?_
  refine s3_r C rfl mfX12_isIn lk_X12_96 (c_X12_isIn z (nI 0) (nI 400)) ?_
  rw [inI_if]
  refine r_if_eq C 46 rfl (by decide) (fun h => bad ?_) (fun hz => ?_)
  · rw [stickBad, show inI z 0 (nI 400) = false from bI_0 h, Bool.not_false, Bool.or_true]; rfl
  have hz : inI z 0 (nI 400) = true := bI_1 hz
  refine r_iload C rfl rfl ?_
  refine r_ic (v := nI 0) C rfl (by decide) ?_
  refine r_bi (v := nI 50) C rfl (by decide) ?_
  refine s3_r C rfl mfX12_isIn lk_X12_96 (c_X12_isIn y (nI 0) (nI 50)) ?_
  rw [inI_if]
  refine r_if_ne C 52 rfl (by decide) (fun hy => ?_) (fun h => bad ?_)
  rotate_left
  · rw [stickBad, show inI y 0 (nI 50) = false from bI_0 h, Bool.not_false, Bool.or_true]
  have hy : inI y 0 (nI 50) = true := bI_1 hy
  have hnb : stickBad p q z y = false := by rw [stickBad, hp, hq, hz, hy]; rfl
  obtain ⟨l, -, hl, rfl⟩ := (inI_iff (a := 0) (by decide) (by decide)).mp hp
  obtain ⟨c, -, hc, rfl⟩ := (inI_iff (a := 0) (by decide) (by decide)).mp hq
  have ea : stickA x (nI l) (nI c) z y = (0, nI (cntB (fun i => gFit (x.Gs i) (6 * l + c) z y) 4), x.setG x.Gs (crUp x.Gs x.Cr (6 * l + c) z y 4)) := by
    rw [stickA, if_neg (by rw [hnb]; decide), nI_clamp (by omega), nI_clamp (by omega)]
  rw [ea] at hQ
  obtain ⟨pp, hpp⟩ : ∃ pp, pp = 6 * l + c := ⟨_, rfl⟩
  rw [← hpp] at hQ
  have loop : ∀ (m j : Nat) (M2 : MM), j + m = 4 → FRM o (fun c => c = o + 20) (fun _ => False) (fun _ => False) M1 M2 → GR M2 o x.Gs (crUp x.Gs x.Cr pp z y j) → PT k E Q 0 0 Sh N G M2 58 [some (.ref o), some (.int (nI l)), some (.int (nI c)), some (.int z), some (.int y), some (.int (nI (cntB (fun i => gFit (x.Gs i) pp z y) j))), some (.int (nI j))] [] := by
    intro m
    induction m with
    | zero =>
      intro j M2 hj hF hG
      have e : j = 4 := by omega
      subst e
      refine r_iload C rfl rfl ?_
      refine r_ic (v := nI 4) C rfl (by decide) ?_
      refine r_icmp_ge C 125 rfl (by decide) (fun _ => ?_) (fun z => absurd (by decide) z)
      refine r_iload C rfl rfl ?_
      exact q_iret C hQ rfl rfl rfl ⟨rfl, rfl, rfl, by rw [hF.2.2 0 (fun q => q)]; exact c0, hR1.toG hV (hF.mono (fun c q => Or.inr (Or.inr q)) (fun _ q => q.elim) (fun _ q => q.elim)) hG, fun k hk => by rw [hF.low (fun c q => by omega) k hk]; exact lo1 k hk⟩
    | succ m ih =>
      intro j M2 hj hF hG
      have cl := cntB_le (fun i => gFit (x.Gs i) pp z y) j
      have ecr : ∀ i, i ≠ j → crUp x.Gs x.Cr pp z y (j + 1) i = crUp x.Gs x.Cr pp z y j i := by
        intro i e
        simp only [crUp]
        by_cases q : i < j ∧ gFit (x.Gs i) pp z y = true
        · rw [if_pos q, if_pos ⟨by omega, q.2⟩]
        · rw [if_neg q, if_neg (fun y => q ⟨by omega, y.2⟩)]
      have next : gFit (x.Gs j) pp z y = false → PT k E Q 0 0 Sh N G M2 119 [some (.ref o), some (.int (nI l)), some (.int (nI c)), some (.int z), some (.int y), some (.int (nI (cntB (fun i => gFit (x.Gs i) pp z y) j))), some (.int (nI j))] [] := by
        intro h
        refine r_iinc (c := nI 1) C rfl rfl (by decide) ?_
        refine r_goto C 58 rfl (by decide) ?_
        refine r_eqL ?_ (ih (j + 1) M2 (by omega) hF ?_)
        · rw [show cntB (fun i => gFit (x.Gs i) pp z y) (j + 1) = cntB (fun i => gFit (x.Gs i) pp z y) j from by rw [cntB, h, if_neg (by decide), Nat.add_zero], ← nI_add j 1]
          rfl
        · have ec : crUp x.Gs x.Cr pp z y (j + 1) = crUp x.Gs x.Cr pp z y j := by
            funext i
            by_cases e : i = j
            · subst e
              simp only [crUp]
              rw [h, if_neg (by intro q; exact absurd q.2 (by decide)), if_neg (by intro q; exact absurd q.2 (by decide))]
            · exact ecr i e
          rw [ec]
          exact hG
      refine r_iload C rfl rfl ?_
      refine r_ic (v := nI 4) C rfl (by decide) ?_
      refine r_icmp_ge C 125 rfl (by decide) (fun z => absurd (le_nI (by omega) (by omega) z) (by omega)) (fun _ => ?_)
      refine r_aload_n C 0 rfl rfl rfl rfl ?_
      refine r_iload C rfl rfl ?_
      refine r_iload_n C 1 rfl rfl rfl ?_
      refine r_iload_n C 2 rfl rfl rfl ?_
      refine v3_r C rfl mfX12_knows lk_X12_343 (by assumption) (R_knows hM hG hK j l c rfl rfl rfl (by omega) (by omega) (by omega)) ?_
      rw [← hpp]
      refine r_if_eq C 119 rfl (by decide) (fun h => next (decide_eq_false (fun q => (of_decide_eq_false (bI_0 h)) q.1))) (fun h => ?_)
      have h := of_decide_eq_true (bI_1 h)
      refine r_aload_n C 0 rfl rfl rfl rfl ?_
      refine r_bi (v := nI 32) C rfl (by decide) ?_
      refine r_iload C rfl rfl ?_
      refine r_iadd C rfl ?_
      rw [nI_add]
      refine r_bi (v := nI 37) C rfl (by decide) ?_
      refine r_iload_n C 1 rfl rfl rfl ?_
      refine r_iload_n C 2 rfl rfl rfl ?_
      refine s2_r C rfl mfX12_at lk_X12_241 (c_X12_at l c rfl rfl) ?_
      rw [← hpp]
      refine r_iadd C rfl ?_
      rw [nI_add]
      refine v2_r C rfl mfX12_of lk_X12_238 (by assumption) (R_gof hM hG j pp rfl rfl (by omega) (by omega) h) ?_
      refine r_iload_n C 3 rfl rfl rfl ?_
      refine r_isub C rfl ?_
      refine r_abs C rfl lk_X12_346 ?_
      refine r_iload C rfl rfl ?_
      refine r_icmp_le C 105 rfl (by decide) (fun h2 => ?_) (fun h2 => ?_)
      rotate_left
      · refine r_goto C 119 rfl (by decide) ?_
        exact next (decide_eq_false (fun q => h2 q.2))
      have hf : gFit (x.Gs j) pp z y = true := decide_eq_true ⟨h, h2⟩
      have hgj : M2 (o + 20) j = x.Cr j := by
        have h8 := hG j (by omega)
        cases hx : x.Gs j with
        | none => rw [hx] at h; exact absurd rfl h
        | some R =>
          rw [hx] at h8
          rw [h8.2.1]
          simp only [crUp]
          rw [if_neg (by omega)]
      refine r_aload_n C 0 rfl rfl rfl rfl ?_
      refine r_getv C rfl f_X12_84 (by assumption) rfl ?_
      refine r_iload C rfl rfl ?_
      refine r_dup2 C rfl rfl rfl ?_
      refine r_iald C rfl (by assumption) (j) rfl (by omega) (by decide) ?_
      rw [hgj]
      refine r_ic (v := nI 1) C rfl (by decide) ?_
      refine r_iadd C rfl ?_
      refine r_iast C rfl (by assumption) (j) rfl (by omega) (by decide) ?_
      refine r_iinc (c := nI 1) C rfl rfl (by decide) ?_
      refine r_iinc (c := nI 1) C rfl rfl (by decide) ?_
      refine r_goto C 58 rfl (by decide) ?_
      refine r_eqL ?_ (ih (j + 1) _ (by omega) (hF.trans (FRM.cel M2 o (o + 20) j _ (by omega) (by omega))) (fun i hi => ?_))
      · rw [show cntB (fun i => gFit (x.Gs i) pp z y) (j + 1) = cntB (fun i => gFit (x.Gs i) pp z y) j + 1 from by rw [cntB, hf, if_pos rfl], ← nI_add j 1, ← nI_add (cntB (fun i => gFit (x.Gs i) pp z y) j) 1]
        rfl
      · have h8 := hG i hi
        cases hx : x.Gs i with
        | none =>
          rw [hx] at h8
          show up M2 (o + 20) j _ (o + 19) i = 0
          rw [up_row _ _ (show o + 19 ≠ o + 20 by omega)]
          exact h8
        | some R =>
          rw [hx] at h8
          refine ⟨by rw [up_row _ _ (show o + 19 ≠ o + 20 by omega)]; exact h8.1, ?_, ?_⟩
          · by_cases e : i = j
            · subst e
              rw [up_same]
              simp only [crUp]
              rw [if_pos ⟨by omega, hf⟩]
            · rw [up_ne _ _ (by omega), ecr i e]; exact h8.2.1
          · have e2 : mrow (up M2 (o + 20) j (x.Cr j + nI 1)) o (32 + i) = mrow M2 o (32 + i) := by
              funext d
              simp only [mrow]
              rw [up_row _ _ (show o + 1 ≠ o + 20 by omega)]
            rw [e2]
            exact h8.2.2
  refine r_ic (v := nI 0) C rfl (by decide) ?_
  refine r_istore C rfl (by exact Nat.le_of_ble_eq_true rfl) ?_
  refine r_ic (v := nI 0) C rfl (by decide) ?_
  refine r_istore C rfl (by exact Nat.le_of_ble_eq_true rfl) ?_
  refine loop 4 0 M1 (by omega) FRM.rfl ?_
  have ec : crUp x.Gs x.Cr pp z y 0 = x.Cr := by
    funext i
    simp only [crUp]
    rw [if_neg (by omega)]
  rw [ec]
  exact hR1.2.2.2.2.2.2.2.1
/-- what 'credit' answers -/
def creditA (x : ST) (p : Int32) : Nat × Int32 := if inI p 0 (nI 3) = false then (1, 0) else (0, gC (x.Gs p.toNatClampNeg) (x.Cr p.toNatClampNeg))
theorem R_credit (hM : MO Sh N o) {x : ST} (hV : VI b x) (hR : RI M o x) (p : Int32) : Con E mX12_credit 2 0 0 [.ref o, .int p] Sh N G M (PR Sh N (RQ M o (creditA x p).2 (creditA x p).1 x)) nox := by
  have h0 := hM.1
  have h19 : At Sh N (o + 19) (arE 2 4) := hM.ar 18 rfl
  have h20 : At Sh N (o + 20) (arE 0 4) := hM.ar 19 rfl
  refine Con.ofQ (by decide +kernel) (by simp [Value.category]) (Nat.le_of_ble_eq_true rfl) (fun k C0 Q hQ => ?_)
  have C : CK k E mX12_credit kdX12_credit 2 0 0 := ⟨C0, kdX12_credit_ok⟩
  refine r_aload_n C 0 rfl rfl rfl rfl ?_
  refine r_ic (v := nI 0) C rfl (by decide) ?_
  refine r_puti C rfl f_X12_90 (by assumption) rfl rfl rfl ?_
  have hR1 := hR.c0 hV (nI 0)
  obtain ⟨M1, hM1⟩ : ∃ M1, M1 = up M o 0 (nI 0) := ⟨_, rfl⟩
  rw [← hM1] at hR1 ⊢
  have c0 : M1 o 0 = nI 0 := by rw [hM1, up_same]
  have lo1 : ∀ k, (k < o ∨ o + 22 ≤ k) → M1 k = M k := fun k hk => by rw [hM1, up_row _ _ (by omega)]
  refine r_iload_n C 1 rfl rfl rfl ?_
  refine r_ic (v := nI 0) C rfl (by decide) ?_
  refine r_ic (v := nI 3) C rfl (by decide) ?_
  refine s3_r C rfl mfX12_isIn lk_X12_96 (c_X12_isIn p (nI 0) (nI 3)) ?_
  rw [inI_if]
  refine r_if_eq C 36 rfl (by decide) (fun h => ?_) (fun h => ?_)
  · have h : inI p 0 (nI 3) = false := bI_0 h
    have ea : creditA x p = (1, 0) := by rw [creditA, if_pos h]
    refine r_aload_n C 0 rfl rfl rfl rfl ?_
    refine r_ic (v := nI 1) C rfl (by decide) ?_
    refine v1_r C rfl mfX12_fail lk_X12_208 (by assumption) (c_fail hM (nI 1)) ?_
    exact q_iret C hQ rfl rfl rfl ⟨rfl, rfl, by rw [ea]; rfl, by rw [ea, up_same], hR1.c0 hV _, fun k hk => by rw [up_row _ _ (by omega)]; exact lo1 k hk⟩
  have h : inI p 0 (nI 3) = true := bI_1 h
  obtain ⟨g, -, hg, rfl⟩ := (inI_iff (a := 0) (by decide) (by decide)).mp h
  have ea : creditA x (nI g) = (0, gC (x.Gs g) (x.Cr g)) := by rw [creditA, if_neg (by rw [show inI (nI g) 0 (nI 3) = true from h]; decide), nI_clamp (by omega)]
  rw [ea] at hQ
  have h8 := hR1.2.2.2.2.2.2.2.1 g (by omega)
  refine r_aload_n C 0 rfl rfl rfl rfl ?_
  refine r_getv C rfl f_X12_80 (by assumption) rfl ?_
  refine r_iload_n C 1 rfl rfl rfl ?_
  refine r_zald C rfl (by assumption) (g) rfl (by omega) (by decide) ?_
  cases hx : x.Gs g with
  | none =>
    rw [hx] at h8 hQ
    have h8 : M1 (o + 19) g = 0 := h8
    rw [h8]
    refine r_if_eq C 32 rfl (by decide) (fun _ => ?_) (fun z => absurd rfl z)
    refine r_ic (v := (-1)) C rfl (by decide) ?_
    refine r_goto C 41 rfl (by decide) ?_
    exact q_iret C hQ rfl rfl rfl ⟨rfl, rfl, rfl, c0, hR1, lo1⟩
  | some R =>
    rw [hx] at h8 hQ
    rw [h8.1]
    refine r_if_eq C 32 rfl (by decide) (fun z => absurd z (by decide)) (fun _ => ?_)
    refine r_aload_n C 0 rfl rfl rfl rfl ?_
    refine r_getv C rfl f_X12_84 (by assumption) rfl ?_
    refine r_iload_n C 1 rfl rfl rfl ?_
    refine r_iald C rfl (by assumption) (g) rfl (by omega) (by decide) ?_
    rw [h8.2.1]
    refine r_goto C 41 rfl (by decide) ?_
    exact q_iret C hQ rfl rfl rfl ⟨rfl, rfl, rfl, c0, hR1, lo1⟩
end RGUESS
