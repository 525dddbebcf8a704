section GUESS
variable {E : VE} {Sh : Nat → SE} {N : Nat} {G : Bool} {M : MM} {o r w v yd yv t b w0 fo p bw q kb kh kg : Nat} {R : Row}
/-- what a guess says of a place: none, or its water -/
def gW (g : Option Row) (p : Nat) : Int32 := match g with
  | none => -1
  | some R => if p / 6 < mno R ∧ p % 6 < dpo R then R (37 + p) else -1
def GOk (Gs : Nat → Option Row) : Prop := ∀ g, g < 4 → ∀ R, Gs g = some R → ∃ b, OK b R
theorem gW_b {Gs : Nat → Option Row} (h : GOk Gs) {g : Nat} (hg : g < 4) (p : Nat) : gW (Gs g) p = -1 ∨ (0 ≤ (gW (Gs g) p).toInt ∧ (gW (Gs g) p).toInt ≤ 400) := by
  cases e : Gs g with
  | none => exact Or.inl rfl
  | some R =>
    obtain ⟨b, hO⟩ := h g hg R e
    simp only [gW]
    by_cases q : p / 6 < mno R ∧ p % 6 < dpo R
    · rw [if_pos q]
      exact Or.inr (hO.wok p q.1 q.2)
    · rw [if_neg q]; exact Or.inl rfl
theorem m1_of {x : Int32} (h : 0 ≤ x.toInt) : x ≠ -1 := fun q => by
  rw [q] at h
  exact absurd h (by decide)
def KG (Sh : Nat → SE) (N kg : Nat) : Prop := At Sh N kg (.inr (2, [some (.ref (kg + 1)), some (.ref (kg + 2))])) ∧ At Sh N (kg + 1) (arE 0 576) ∧ At Sh N (kg + 2) (arE 0 4)
def gC (g : Option Row) (c : Int32) : Int32 := match g with
  | none => -1
  | some _ => c
def GC (M : MM) (kg : Nat) (Gs : Nat → Option Row) (Cr : Nat → Int32) : Prop := ∀ g, g < 4 → (∀ p, p < 144 → M (kg + 1) (144 * g + p) = gW (Gs g) p) ∧ M (kg + 2) g = gC (Gs g) (Cr g)
theorem GC.cong {M' : MM} {Gs : Nat → Option Row} {Cr : Nat → Int32} (h : GC M kg Gs Cr) (h1 : M' (kg + 1) = M (kg + 1)) (h2 : M' (kg + 2) = M (kg + 2)) : GC M' kg Gs Cr := by
  unfold GC
  rw [h1, h2]
  exact h
theorem g_clear (hK : KG Sh N kg) {x : Int32} (g : Nat) (hx : x = nI g) (hg : g < 4) : Con E mX2_clear 1 0 0 [.ref kg, .int x] Sh N G M (PR Sh N (fun v M' => v = none ∧ Fr (fun c => c = kg + 1) M M' ∧ (∀ p, p < 144 → M' (kg + 1) (144 * g + p) = -1) ∧ ∀ i, (i < 144 * g ∨ 144 * g + 144 ≤ i) → M' (kg + 1) i = M (kg + 1) i)) nox := by
  subst hx
  obtain ⟨k0, k1, k2⟩ := id hK
  refine Con.ofQ (by decide +kernel) (by simp [Value.category]) (Nat.le_of_ble_eq_true rfl) (fun k C0 Q hQ => ?_)
  have C : CK k E mX2_clear kdX2_clear 1 0 0 := ⟨C0, kdX2_clear_ok⟩
  have loop : ∀ (m j : Nat) (M1 : MM), j + m = 144 → Fr (fun c => c = kg + 1) M M1 → (∀ p, p < j → M1 (kg + 1) (144 * g + p) = -1) → (∀ i, (i < 144 * g ∨ 144 * g + 144 ≤ i) → M1 (kg + 1) i = M (kg + 1) i) → PT k E Q 0 0 Sh N G M1 2 [some (.ref kg), some (.int (nI g)), some (.int (nI j))] [] := by
    intro m
    induction m with
    | zero =>
      intro j M1 hj hFr h1 h2
      refine r_iload_n C 2 rfl rfl rfl ?_
      refine r_si (v := nI 144) C rfl (by decide) ?_
      refine r_icmp_ge C 28 rfl (by decide) (fun _ => ?_) (fun z => absurd ((nI_leI (by omega) (by omega)).mpr (by omega)) z)
      exact q_vret C hQ rfl rfl ⟨rfl, rfl, rfl, hFr, fun p hp => h1 p (by omega), h2⟩
    | succ m ih =>
      intro j M1 hj hFr h1 h2
      refine r_iload_n C 2 rfl rfl rfl ?_
      refine r_si (v := nI 144) C rfl (by decide) ?_
      refine r_icmp_ge C 28 rfl (by decide) (fun z => absurd (le_nI (by omega) (by omega) z) (by omega)) (fun _ => ?_)
      refine r_aload_n C 0 rfl rfl rfl rfl ?_
      refine r_getv C rfl f_X2_11 (by assumption) rfl ?_
      refine r_iload_n C 1 rfl rfl rfl ?_
      refine r_si (v := nI 144) C rfl (by decide) ?_
      refine r_imul C rfl ?_
      rw [pk_mul]
      refine r_iload_n C 2 rfl rfl rfl ?_
      refine r_iadd C rfl ?_
      rw [nI_add]
      refine r_ic (v := (-1)) C rfl (by decide) ?_
      refine r_iast C rfl (by assumption) (g * 144 + j) rfl (by omega) (by decide) ?_
      refine r_iinc (c := nI 1) C rfl rfl (by decide) ?_
      refine r_goto C 2 rfl (by decide) ?_
      refine r_eqL ?_ (ih (j + 1) _ (by omega) (fun c hc => by rw [up_row _ _ hc]; exact hFr c hc) (fun p hp => ?_) (fun i hi => ?_))
      · first | rfl | (simp only [sm, add3, nI_add, Int32.add_zero, Int32.zero_add]; rfl)
      · by_cases e : p = j
        · rw [e, show 144 * g + j = g * 144 + j by omega, up_same]
        · rw [up_ne _ _ (by omega)]; exact h1 p (by omega)
      · rw [up_ne _ _ (by omega)]; exact h2 i hi
  refine r_ic (v := nI 0) C rfl (by decide) ?_
  refine r_istore_n C 2 rfl rfl (by exact Nat.le_of_ble_eq_true rfl) ?_
  exact loop 144 0 M (by omega) Fr.rfl (fun p hp => absurd hp (Nat.not_lt_zero p)) (fun _ _ => rfl)
theorem g_forget (hK : KG Sh N kg) (Cr : Nat → Int32) : Con E mX2_forget 2 0 0 [.ref kg] Sh N G M (PR Sh N (fun v M' => v = none ∧ Fr (fun c => c = kg + 1 ∨ c = kg + 2) M M' ∧ GC M' kg (fun _ => none) Cr)) nox := by
  obtain ⟨k0, k1, k2⟩ := id hK
  refine Con.ofQ (by decide +kernel) (by simp [Value.category]) (Nat.le_of_ble_eq_true rfl) (fun k C0 Q hQ => ?_)
  have C : CK k E mX2_forget kdX2_forget 2 0 0 := ⟨C0, kdX2_forget_ok⟩
  have loop : ∀ (m j : Nat) (M1 : MM), j + m = 4 → Fr (fun c => c = kg + 1 ∨ c = kg + 2) M M1 → (∀ g, g < j → (∀ p, p < 144 → M1 (kg + 1) (144 * g + p) = -1) ∧ M1 (kg + 2) g = -1) → PT k E Q 0 0 Sh N G M1 2 [some (.ref kg), some (.int (nI j))] [] := by
    intro m
    induction m with
    | zero =>
      intro j M1 hj hFr h1
      refine r_iload_n C 1 rfl rfl rfl ?_
      refine r_ic (v := nI 4) C rfl (by decide) ?_
      refine r_icmp_ge C 25 rfl (by decide) (fun _ => ?_) (fun z => absurd ((nI_leI (by omega) (by omega)).mpr (by omega)) z)
      exact q_vret C hQ rfl rfl ⟨rfl, rfl, rfl, hFr, fun g hg => h1 g (by omega)⟩
    | succ m ih =>
      intro j M1 hj hFr h1
      refine r_iload_n C 1 rfl rfl rfl ?_
      refine r_ic (v := nI 4) C rfl (by decide) ?_
      refine r_icmp_ge C 25 rfl (by decide) (fun z => absurd (le_nI (by omega) (by omega) z) (by omega)) (fun _ => ?_)
      refine r_aload_n C 0 rfl rfl rfl rfl ?_
      refine r_iload_n C 1 rfl rfl rfl ?_
      refine v1_g C rfl mfX2_clear lk_X2_21 (by assumption) (g_clear hK j rfl (by omega)) ?_
      rintro z M2 ⟨rfl, hFr2, c1, c2⟩
      refine r_aload_n C 0 rfl rfl rfl rfl ?_
      refine r_getv C rfl f_X2_15 (by assumption) rfl ?_
      refine r_iload_n C 1 rfl rfl rfl ?_
      refine r_ic (v := (-1)) C rfl (by decide) ?_
      refine r_iast C rfl (by assumption) (j) rfl (by omega) (by decide) ?_
      refine r_iinc (c := nI 1) C rfl rfl (by decide) ?_
      refine r_goto C 2 rfl (by decide) ?_
      refine r_eqL ?_ (ih (j + 1) _ (by omega) (fun c hc => by rw [up_row _ _ (by omega), hFr2 c (by omega)]; exact hFr c hc) (fun g hg => ?_))
      · first | rfl | (simp only [sm, add3, nI_add, Int32.add_zero, Int32.zero_add]; rfl)
      · rw [up_row _ _ (by omega)]
        by_cases e : g = j
        · subst e
          exact ⟨c1, up_same _ _ _ _⟩
        · refine ⟨fun p hp => ?_, ?_⟩
          · rw [c2 _ (by omega)]; exact (h1 g (by omega)).1 p hp
          · rw [up_ne _ _ (by omega), hFr2 _ (by omega)]; exact (h1 g (by omega)).2
  refine r_ic (v := nI 0) C rfl (by decide) ?_
  refine r_istore_n C 1 rfl rfl (by exact Nat.le_of_ble_eq_true rfl) ?_
  exact loop 4 0 M (by omega) Fr.rfl (fun g hg => absurd hg (Nat.not_lt_zero g))
theorem g_keep (hK : KG Sh N kg) (hA : WA Sh N w yd) (hw : w + 4 ≤ kg) (hO : OK b R) (a : Ag (wrow M w) R) {Gs : Nat → Option Row} {Cr : Nat → Int32} (hG : GC M kg Gs Cr) {x : Int32} (g : Nat) (hx : x = nI g) (hg : g < 4) :
    Con E mX2_keep 2 0 0 [.ref kg, .int x, .ref w] Sh N G M (PR Sh N (fun v M' => v = none ∧ Fr (fun c => c = kg + 1 ∨ c = kg + 2) M M' ∧ GC M' kg (fun i => if i = g then some R else Gs i) (fun i => if i = g then 0 else Cr i))) nox := by
  subst hx
  obtain ⟨k0, k1, k2⟩ := id hK
  obtain ⟨a0, a1, a2, a3, -, -⟩ := id hA
  have hd := hO.dp
  have hm := hO.mn
  refine Con.ofQ (by decide +kernel) (by simp [Value.category]) (Nat.le_of_ble_eq_true rfl) (fun k C0 Q hQ => ?_)
  have C : CK k E mX2_keep kdX2_keep 2 0 0 := ⟨C0, kdX2_keep_ok⟩
  refine r_aload_n C 0 rfl rfl rfl rfl ?_
  refine r_iload_n C 1 rfl rfl rfl ?_
  refine v1_g C rfl mfX2_clear lk_X2_21 (by assumption) (g_clear hK g rfl hg) ?_
  rintro z M1 ⟨rfl, hFr1, c1, c2⟩
  refine r_aload_n C 0 rfl rfl rfl rfl ?_
  refine r_getv C rfl f_X2_15 (by assumption) rfl ?_
  refine r_iload_n C 1 rfl rfl rfl ?_
  refine r_ic (v := nI 0) C rfl (by decide) ?_
  refine r_iast C rfl (by assumption) (g) rfl (by omega) (by decide) ?_
  obtain ⟨M2, hM2⟩ : ∃ M2, M2 = up M1 (kg + 2) g (nI 0) := ⟨_, rfl⟩
  rw [← hM2]
  have e2 : M2 (kg + 1) = M1 (kg + 1) := by rw [hM2, up_row _ _ (by omega)]
  have hFr2 : Fr (fun c => c = kg + 1 ∨ c = kg + 2) M M2 := fun c hc => by rw [hM2, up_row _ _ (by omega), hFr1 c (by omega)]
  have other : ∀ i, i < 4 → i ≠ g → (∀ p, p < 144 → M2 (kg + 1) (144 * i + p) = gW (Gs i) p) ∧ M2 (kg + 2) i = gC (Gs i) (Cr i) := by
    intro i hi e
    refine ⟨fun p hp => ?_, ?_⟩
    · rw [e2, c2 _ (by omega)]; exact (hG i hi).1 p hp
    · rw [hM2, up_ne _ _ (by omega), hFr1 _ (by omega)]; exact (hG i hi).2
  have hl : ∀ M3 : MM, Fr (fun c => c = kg + 1) M2 M3 → M3 w 5 = nI (mno R) ∧ M3 w 4 = nI (dpo R) ∧ ∀ p, p / 6 < mno R → p % 6 < dpo R → M3 (w + 1) p = R (37 + p) := by
    intro M3 h3
    have ew : wrow M3 w = wrow M w := wrow_cong (fun c q1 q2 => by rw [h3 c (by omega), hFr2 c (by omega)])
    have a3 : Ag (wrow M3 w) R := by rw [ew]; exact a
    refine ⟨w_mn a3 hO, (w_trait a3 (j := 0) (by decide)).trans hO.wf.1, fun p p1 p2 => ?_⟩
    rw [← wrow_w M3 w (by omega)]
    exact (a3.2.2 p (by rw [← a3.mn]; exact p1) (by rw [← a3.dp]; exact p2)).1
  have outer : ∀ (m l : Nat) (M3 : MM) (v5 v6 : Option Value), l + m = mno R → Fr (fun c => c = kg + 1) M2 M3 → (∀ i, (i < 144 * g ∨ 144 * g + 144 ≤ i) → M3 (kg + 1) i = M2 (kg + 1) i) → (∀ p, p < 144 → M3 (kg + 1) (144 * g + p) = if p / 6 < l ∧ p % 6 < dpo R then R (37 + p) else -1) → PT k E Q 0 0 Sh N G M3 21 [some (.ref kg), some (.int (nI g)), some (.ref w), some (.int (nI (g * 144))), some (.int (nI l)), v5, v6] [] := by
    intro m
    induction m with
    | zero =>
      intro l M3 v5 v6 hl0 h3 h4 h5
      have el : l = mno R := by omega
      refine r_iload C rfl rfl ?_
      refine r_aload_n C 2 rfl rfl rfl rfl ?_
      refine r_geti C rfl f_X2_25 (by assumption) rfl ?_
      rw [(hl M3 h3).1]
      refine r_icmp_ge C 81 rfl (by decide) (fun _ => ?_) (fun z => absurd ((nI_leI (by omega) (by omega)).mpr (by omega)) z)
      refine q_vret C hQ rfl rfl ⟨rfl, rfl, rfl, fun c hc => by rw [h3 c (by omega)]; exact hFr2 c hc, fun i hi => ?_⟩
      show (∀ p, p < 144 → M3 (kg + 1) (144 * i + p) = gW (if i = g then some R else Gs i) p) ∧ M3 (kg + 2) i = gC (if i = g then some R else Gs i) (if i = g then 0 else Cr i)
      by_cases e : i = g
      · subst e
        refine ⟨fun p hp => ?_, ?_⟩
        · rw [if_pos rfl, h5 p hp, el]
          rfl
        · rw [if_pos rfl, if_pos rfl, h3 _ (by omega), hM2, up_same]
          rfl
      · rw [if_neg e, if_neg e]
        refine ⟨fun p hp => ?_, ?_⟩
        · rw [h4 _ (by omega)]; exact (other i hi e).1 p hp
        · rw [h3 _ (by omega)]; exact (other i hi e).2
    | succ m ih =>
      intro l M3 v5 v6 hl0 h3 h4 h5
      refine r_iload C rfl rfl ?_
      refine r_aload_n C 2 rfl rfl rfl rfl ?_
      refine r_geti C rfl f_X2_25 (by assumption) rfl ?_
      rw [(hl M3 h3).1]
      refine r_icmp_ge C 81 rfl (by decide) (fun z => absurd (le_nI (by omega) (by omega) z) (by omega)) (fun _ => ?_)
      refine r_iload C rfl rfl ?_
      refine r_bi (v := nI 6) C rfl (by decide) ?_
      refine r_imul C rfl ?_
      rw [pk_mul]
      refine r_istore C rfl (by exact Nat.le_of_ble_eq_true rfl) ?_
      refine r_iload C rfl rfl ?_
      refine r_istore C rfl (by exact Nat.le_of_ble_eq_true rfl) ?_
      have inner : ∀ (m2 c : Nat) (M4 : MM), c + m2 = dpo R → Fr (fun c => c = kg + 1) M2 M4 → (∀ i, (i < 144 * g ∨ 144 * g + 144 ≤ i) → M4 (kg + 1) i = M2 (kg + 1) i) → (∀ p, p < 144 → M4 (kg + 1) (144 * g + p) = if (p / 6 < l ∨ (p / 6 = l ∧ p % 6 < c)) ∧ p % 6 < dpo R then R (37 + p) else -1) → PT k E Q 0 0 Sh N G M4 41 [some (.ref kg), some (.int (nI g)), some (.ref w), some (.int (nI (g * 144))), some (.int (nI l)), some (.int (nI (l * 6))), some (.int (nI (l * 6 + c)))] [] := by
        intro m2
        induction m2 with
        | zero =>
          intro c M4 hc h3 h4 h5
          refine r_iload C rfl rfl ?_
          refine r_iload C rfl rfl ?_
          refine r_aload_n C 2 rfl rfl rfl rfl ?_
          refine r_geti C rfl f_X2_31 (by assumption) rfl ?_
          rw [(hl M4 h3).2.1]
          refine r_iadd C rfl ?_
          rw [nI_add]
          refine r_icmp_ge C 75 rfl (by decide) (fun _ => ?_) (fun z => absurd ((nI_leI (by omega) (by omega)).mpr (by omega)) z)
          refine r_iinc (c := nI 1) C rfl rfl (by decide) ?_
          refine r_goto C 21 rfl (by decide) ?_
          refine r_eqL ?_ (ih (l + 1) M4 (some (.int (nI (l * 6)))) (some (.int (nI (l * 6 + c)))) (by omega) h3 h4 (fun p hp => ?_))
          · first | rfl | (simp only [sm, add3, nI_add, Int32.add_zero, Int32.zero_add]; rfl)
          · rw [h5 p hp]
            by_cases z : p / 6 < l + 1 ∧ p % 6 < dpo R
            · rw [if_pos z, if_pos ⟨by omega, z.2⟩]
            · rw [if_neg z, if_neg (fun y => z ⟨by omega, y.2⟩)]
        | succ m2 ihc =>
          intro c M4 hc h3 h4 h5
          refine r_iload C rfl rfl ?_
          refine r_iload C rfl rfl ?_
          refine r_aload_n C 2 rfl rfl rfl rfl ?_
          refine r_geti C rfl f_X2_31 (by assumption) rfl ?_
          rw [(hl M4 h3).2.1]
          refine r_iadd C rfl ?_
          rw [nI_add]
          refine r_icmp_ge C 75 rfl (by decide) (fun z => absurd (le_nI (by omega) (by omega) z) (by omega)) (fun _ => ?_)
          refine r_aload_n C 0 rfl rfl rfl rfl ?_
          refine r_getv C rfl f_X2_11 (by assumption) rfl ?_
          refine r_iload_n C 3 rfl rfl rfl ?_
          refine r_iload C rfl rfl ?_
          refine r_iadd C rfl ?_
          rw [nI_add]
          refine r_aload_n C 2 rfl rfl rfl rfl ?_
          refine r_getv C rfl f_X2_34 (by assumption) rfl ?_
          refine r_iload C rfl rfl ?_
          refine r_iald C rfl (by assumption) (l * 6 + c) rfl (by omega) (by decide) ?_
          rw [(hl M4 h3).2.2 (l * 6 + c) (by omega) (by omega)]
          refine r_iast C rfl (by assumption) (g * 144 + (l * 6 + c)) rfl (by omega) (by decide) ?_
          refine r_iinc (c := nI 1) C rfl rfl (by decide) ?_
          refine r_goto C 41 rfl (by decide) ?_
          refine r_eqL ?_ (ihc (c + 1) _ (by omega) (fun c' hc' => by rw [up_row _ _ hc']; exact h3 c' hc') (fun i hi => by rw [up_ne _ _ (by omega)]; exact h4 i hi) (fun p hp => ?_))
          · first | rfl | (simp only [sm, add3, nI_add, Int32.add_zero, Int32.zero_add]; rfl)
          · by_cases e : p = l * 6 + c
            · subst e
              rw [show 144 * g + (l * 6 + c) = g * 144 + (l * 6 + c) by omega, up_same, if_pos (by omega)]
            · rw [up_ne _ _ (by omega), h5 p hp]
              by_cases z : (p / 6 < l ∨ (p / 6 = l ∧ p % 6 < c)) ∧ p % 6 < dpo R
              · rw [if_pos z, if_pos (by omega)]
              · rw [if_neg z, if_neg (by omega)]
      refine r_eqL ?_ (inner (dpo R) 0 M3 (by omega) h3 h4 (fun p hp => ?_))
      · rw [Nat.add_zero]
        rfl
      · rw [h5 p hp]
        by_cases z : p / 6 < l ∧ p % 6 < dpo R
        · rw [if_pos z, if_pos (by omega)]
        · rw [if_neg z, if_neg (by omega)]
  refine r_iload_n C 1 rfl rfl rfl ?_
  refine r_si (v := nI 144) C rfl (by decide) ?_
  refine r_imul C rfl ?_
  rw [pk_mul]
  refine r_istore_n C 3 rfl rfl (by exact Nat.le_of_ble_eq_true rfl) ?_
  refine r_ic (v := nI 0) C rfl (by decide) ?_
  refine r_istore C rfl (by exact Nat.le_of_ble_eq_true rfl) ?_
  refine outer (mno R) 0 M2 _ _ (by omega) Fr.rfl (fun _ _ => rfl) (fun p hp => ?_)
  rw [e2, c1 p hp, if_neg (by omega)]
abbrev ab (x : Int32) : Int32 := if 0 ≤ x then x else 0 - x
def gFit (g : Option Row) (p : Nat) (told slip : Int32) : Bool := decide (gW g p ≠ -1 ∧ ab (gW g p - told) ≤ slip)
def cntB (f : Nat → Bool) : Nat → Nat
  | 0 => 0
  | n + 1 => cntB f n + if f n = true then 1 else 0
theorem cntB_le (f : Nat → Bool) : ∀ n, cntB f n ≤ n
  | 0 => Nat.le_refl _
  | n + 1 => by
    have := cntB_le f n
    rw [cntB]
    split <;> omega
def crUp (Gs : Nat → Option Row) (Cr : Nat → Int32) (p : Nat) (told slip : Int32) (n i : Nat) : Int32 := if i < n ∧ gFit (Gs i) p told slip = true then Cr i + nI 1 else Cr i
theorem gC_fit {g : Option Row} {p : Nat} {c told slip : Int32} (h : gFit g p told slip = true) : gC g c = c := by
  cases g with
  | none => exact absurd rfl (of_decide_eq_true h).1
  | some R => rfl
theorem g_reading (hK : KG Sh N kg) {Gs : Nat → Option Row} {Cr : Nat → Int32} (hG : GC M kg Gs Cr) {x : Int32} (p : Nat) (hx : x = nI p) (hp : p < 144) (told slip : Int32) :
    Con E mX2_reading 2 0 0 [.ref kg, .int x, .int told, .int slip] Sh N G M (PR Sh N (fun v M' => v = some (.int (nI (cntB (fun i => gFit (Gs i) p told slip) 4))) ∧ Fr (fun c => c = kg + 2) M M' ∧ GC M' kg Gs (crUp Gs Cr p told slip 4))) nox := by
  subst hx
  obtain ⟨k0, k1, k2⟩ := id hK
  refine Con.ofQ (by decide +kernel) (by simp [Value.category]) (Nat.le_of_ble_eq_true rfl) (fun k C0 Q hQ => ?_)
  have C : CK k E mX2_reading kdX2_reading 2 0 0 := ⟨C0, kdX2_reading_ok⟩
  have loop : ∀ (m j : Nat) (M1 : MM) (v6 : Option Value), j + m = 4 → Fr (fun c => c = kg + 2) M M1 → GC M1 kg Gs (crUp Gs Cr p told slip j) → PT k E Q 0 0 Sh N G M1 6 [some (.ref kg), some (.int (nI p)), some (.int told), some (.int slip), some (.int (nI (cntB (fun i => gFit (Gs i) p told slip) j))), some (.int (nI j)), v6] [] := by
    intro m
    induction m with
    | zero =>
      intro j M1 v6 hj hFr hG1
      have e : j = 4 := by omega
      subst e
      refine r_iload C rfl rfl ?_
      refine r_ic (v := nI 4) C rfl (by decide) ?_
      refine r_icmp_ge C 64 rfl (by decide) (fun _ => ?_) (fun z => absurd (by decide) z)
      refine r_iload C rfl rfl ?_
      exact q_iret C hQ rfl rfl rfl ⟨rfl, rfl, rfl, hFr, hG1⟩
    | succ m ih =>
      intro j M1 v6 hj hFr hG1
      have cl := cntB_le (fun i => gFit (Gs i) p told slip) j
      have next : gFit (Gs j) p told slip = false → ∀ v6, PT k E Q 0 0 Sh N G M1 58 [some (.ref kg), some (.int (nI p)), some (.int told), some (.int slip), some (.int (nI (cntB (fun i => gFit (Gs i) p told slip) j))), some (.int (nI j)), v6] [] := by
        intro h v6
        refine r_iinc (c := nI 1) C rfl rfl (by decide) ?_
        refine r_goto C 6 rfl (by decide) ?_
        refine r_eqL ?_ (ih (j + 1) M1 v6 (by omega) hFr ?_)
        · rw [show cntB (fun i => gFit (Gs i) p told slip) (j + 1) = cntB (fun i => gFit (Gs i) p told slip) j from by rw [cntB, h, if_neg (by decide), Nat.add_zero], ← nI_add j 1]
          rfl
        · have ec : crUp Gs Cr p told slip (j + 1) = crUp Gs Cr p told slip j := by
            funext i
            simp only [crUp]
            by_cases e : i = j
            · subst e
              rw [h, if_neg (by intro z; exact absurd z.2 (by decide)), if_neg (by intro z; exact absurd z.2 (by decide))]
            · by_cases z : i < j ∧ gFit (Gs i) p told slip = true
              · rw [if_pos z, if_pos ⟨by omega, z.2⟩]
              · rw [if_neg z, if_neg (fun y => z ⟨by omega, y.2⟩)]
          rw [ec]
          exact hG1
      refine r_iload C rfl rfl ?_
      refine r_ic (v := nI 4) C rfl (by decide) ?_
      refine r_icmp_ge C 64 rfl (by decide) (fun z => absurd (le_nI (by omega) (by omega) z) (by omega)) (fun _ => ?_)
      refine r_aload_n C 0 rfl rfl rfl rfl ?_
      refine r_getv C rfl f_X2_11 (by assumption) rfl ?_
      refine r_iload C rfl rfl ?_
      refine r_si (v := nI 144) C rfl (by decide) ?_
      refine r_imul C rfl ?_
      rw [pk_mul]
      refine r_iload_n C 1 rfl rfl rfl ?_
      refine r_iadd C rfl ?_
      rw [nI_add]
      refine r_iald C rfl (by assumption) (j * 144 + p) rfl (by omega) (by decide) ?_
      rw [show j * 144 + p = 144 * j + p by omega, (hG1 j (by omega)).1 p hp]
      refine r_istore C rfl (by exact Nat.le_of_ble_eq_true rfl) ?_
      refine r_iload C rfl rfl ?_
      refine r_ic (v := (-1)) C rfl (by decide) ?_
      refine r_icmp_eq C 58 rfl (by decide) (fun h => next (decide_eq_false (fun z => z.1 h)) _) (fun h => ?_)
      refine r_iload C rfl rfl ?_
      refine r_iload_n C 2 rfl rfl rfl ?_
      refine r_isub C rfl ?_
      refine r_abs C rfl lk_X2_35 ?_
      refine r_iload_n C 3 rfl rfl rfl ?_
      refine r_icmp_gt C 58 rfl (by decide) (fun h2 => next (decide_eq_false (fun z => Int32.not_le.mpr h2 z.2)) _) (fun h2 => ?_)
      have hf : gFit (Gs j) p told slip = true := decide_eq_true ⟨h, Int32.not_lt.mp h2⟩
      refine r_aload_n C 0 rfl rfl rfl rfl ?_
      refine r_getv C rfl f_X2_15 (by assumption) rfl ?_
      refine r_iload C rfl rfl ?_
      refine r_dup2 C rfl rfl rfl ?_
      refine r_iald C rfl (by assumption) (j) rfl (by omega) (by decide) ?_
      refine r_ic (v := nI 1) C rfl (by decide) ?_
      refine r_iadd C rfl ?_
      refine r_iast C rfl (by assumption) (j) rfl (by omega) (by decide) ?_
      rw [(hG1 j (by omega)).2, gC_fit hf]
      refine r_iinc (c := nI 1) C rfl rfl (by decide) ?_
      refine r_iinc (c := nI 1) C rfl rfl (by decide) ?_
      refine r_goto C 6 rfl (by decide) ?_
      refine r_eqL ?_ (ih (j + 1) _ (some (.int (gW (Gs j) p))) (by omega) (fun c hc => by rw [up_row _ _ hc]; exact hFr c hc) ?_)
      · rw [show cntB (fun i => gFit (Gs i) p told slip) (j + 1) = cntB (fun i => gFit (Gs i) p told slip) j + 1 from by rw [cntB, hf, if_pos rfl], ← nI_add j 1, ← nI_add (cntB (fun i => gFit (Gs i) p told slip) j) 1]
        rfl
      · intro i hi
        refine ⟨fun p' hp' => ?_, ?_⟩
        · rw [up_row _ _ (by omega)]; exact (hG1 i hi).1 p' hp'
        · by_cases e : i = j
          · subst e
            rw [up_same, gC_fit hf]
            simp only [crUp]
            rw [if_neg (by omega), if_pos ⟨by omega, hf⟩]
          · rw [up_ne _ _ (by omega), (hG1 i hi).2]
            have ec : crUp Gs Cr p told slip (j + 1) i = crUp Gs Cr p told slip j i := by
              simp only [crUp]
              by_cases z : i < j ∧ gFit (Gs i) p told slip = true
              · rw [if_pos z, if_pos ⟨by omega, z.2⟩]
              · rw [if_neg z, if_neg (fun y => z ⟨by omega, y.2⟩)]
            rw [ec]
  refine r_ic (v := nI 0) C rfl (by decide) ?_
  refine r_istore C rfl (by exact Nat.le_of_ble_eq_true rfl) ?_
  refine r_ic (v := nI 0) C rfl (by decide) ?_
  refine r_istore C rfl (by exact Nat.le_of_ble_eq_true rfl) ?_
  refine loop 4 0 M none (by omega) Fr.rfl ?_
  have ec : crUp Gs Cr p told slip 0 = Cr := by
    funext i
    simp only [crUp]
    rw [if_neg (by omega)]
  rw [ec]
  exact hG
/-- of the first j guesses: how many know the place, the least, the most -/
def gSt (Gs : Nat → Option Row) (p : Nat) : Nat → Nat × Int32 × Int32
  | 0 => (0, nI 400, nI 0)
  | j + 1 => if gW (Gs j) p = -1 then gSt Gs p j else ((gSt Gs p j).1 + 1, mi (gSt Gs p j).2.1 (gW (Gs j) p), mx (gSt Gs p j).2.2 (gW (Gs j) p))
def gAp (Gs : Nat → Option Row) (p j : Nat) : Int32 := if (gSt Gs p j).1 < 2 then -1 else (gSt Gs p j).2.2 - (gSt Gs p j).2.1
theorem gSt_le (Gs : Nat → Option Row) (p : Nat) : ∀ j, (gSt Gs p j).1 ≤ j
  | 0 => Nat.le_refl _
  | j + 1 => by
    have h := gSt_le Gs p j
    rw [gSt]
    split
    · omega
    · show (gSt Gs p j).1 + 1 ≤ j + 1
      omega
theorem g_apart (hK : KG Sh N kg) {Gs : Nat → Option Row} {Cr : Nat → Int32} (hG : GC M kg Gs Cr) {x : Int32} (p : Nat) (hx : x = nI p) (hp : p < 144) :
    Con E mX2_apartAt 2 0 0 [.ref kg, .int x] Sh N G M (P1 (some (.int (gAp Gs p 4))) Sh N M) nox := by
  subst hx
  obtain ⟨k0, k1, k2⟩ := id hK
  refine Con.ofQ (by decide +kernel) (by simp [Value.category]) (Nat.le_of_ble_eq_true rfl) (fun k C0 Q hQ => ?_)
  have C : CK k E mX2_apartAt kdX2_apartAt 2 0 0 := ⟨C0, kdX2_apartAt_ok⟩
  have loop : ∀ (m j : Nat) (v6 : Option Value), j + m = 4 → PT k E Q 0 0 Sh N G M 12 [some (.ref kg), some (.int (nI p)), some (.int (nI (gSt Gs p j).1)), some (.int (gSt Gs p j).2.1), some (.int (gSt Gs p j).2.2), some (.int (nI j)), v6] [] := by
    intro m
    induction m with
    | zero =>
      intro j v6 hj
      have e : j = 4 := by omega
      subst e
      have h4 := gSt_le Gs p 4
      refine r_iload C rfl rfl ?_
      refine r_ic (v := nI 4) C rfl (by decide) ?_
      refine r_icmp_ge C 64 rfl (by decide) (fun _ => ?_) (fun z => absurd (by decide) z)
      refine r_iload_n C 2 rfl rfl rfl ?_
      refine r_ic (v := nI 2) C rfl (by decide) ?_
      refine r_icmp_ge C 73 rfl (by decide) (fun h => ?_) (fun h => ?_)
      · have h := le_nI (by omega) (by omega) h
        refine r_iload C rfl rfl ?_
        refine r_iload_n C 3 rfl rfl rfl ?_
        refine r_isub C rfl ?_
        exact q_iret C hQ rfl rfl rfl ⟨by rw [gAp, if_neg (by omega)], rfl, rfl, rfl⟩
      · have h := nle_nI (by omega) (by omega) h
        refine r_ic (v := (-1)) C rfl (by decide) ?_
        refine r_goto C 77 rfl (by decide) ?_
        exact q_iret C hQ rfl rfl rfl ⟨by rw [gAp, if_pos h], rfl, rfl, rfl⟩
    | succ m ih =>
      intro j v6 hj
      refine r_iload C rfl rfl ?_
      refine r_ic (v := nI 4) C rfl (by decide) ?_
      refine r_icmp_ge C 64 rfl (by decide) (fun z => absurd (le_nI (by omega) (by omega) z) (by omega)) (fun _ => ?_)
      refine r_aload_n C 0 rfl rfl rfl rfl ?_
      refine r_getv C rfl f_X2_11 (by assumption) rfl ?_
      refine r_iload C rfl rfl ?_
      refine r_si (v := nI 144) C rfl (by decide) ?_
      refine r_imul C rfl ?_
      rw [pk_mul]
      refine r_iload_n C 1 rfl rfl rfl ?_
      refine r_iadd C rfl ?_
      rw [nI_add]
      refine r_iald C rfl (by assumption) (j * 144 + p) rfl (by omega) (by decide) ?_
      rw [show j * 144 + p = 144 * j + p by omega, (hG j (by omega)).1 p hp]
      refine r_istore C rfl (by exact Nat.le_of_ble_eq_true rfl) ?_
      refine r_iload C rfl rfl ?_
      refine r_ic (v := (-1)) C rfl (by decide) ?_
      refine r_icmp_eq C 58 rfl (by decide) (fun h => ?_) (fun h => ?_)
      · refine r_iinc (c := nI 1) C rfl rfl (by decide) ?_
        refine r_goto C 12 rfl (by decide) ?_
        refine r_eqL ?_ (ih (j + 1) (some (.int (gW (Gs j) p))) (by omega))
        rw [gSt, if_pos h, ← nI_add j 1]
        rfl
      · refine r_iinc (c := nI 1) C rfl rfl (by decide) ?_
        refine r_iload_n C 3 rfl rfl rfl ?_
        refine r_iload C rfl rfl ?_
        refine r_min C rfl lk_X2_44 ?_
        refine r_istore_n C 3 rfl rfl (by exact Nat.le_of_ble_eq_true rfl) ?_
        refine r_iload C rfl rfl ?_
        refine r_iload C rfl rfl ?_
        refine r_max C rfl lk_X2_48 ?_
        refine r_istore C rfl (by exact Nat.le_of_ble_eq_true rfl) ?_
        refine r_iinc (c := nI 1) C rfl rfl (by decide) ?_
        refine r_goto C 12 rfl (by decide) ?_
        refine r_eqL ?_ (ih (j + 1) (some (.int (gW (Gs j) p))) (by omega))
        rw [gSt, if_neg h, ← nI_add j 1]
        show _ = [some (Value.ref kg), some (Value.int (nI p)), some (Value.int (nI ((gSt Gs p j).1 + 1))), some (Value.int (mi (gSt Gs p j).2.1 (gW (Gs j) p))), some (Value.int (mx (gSt Gs p j).2.2 (gW (Gs j) p))), some (Value.int (nI j + nI 1)), some (Value.int (gW (Gs j) p))]
        rw [← nI_add (gSt Gs p j).1 1]
        rfl
  refine r_ic (v := nI 0) C rfl (by decide) ?_
  refine r_istore_n C 2 rfl rfl (by exact Nat.le_of_ble_eq_true rfl) ?_
  refine r_si (v := nI 400) C rfl (by decide) ?_
  refine r_istore_n C 3 rfl rfl (by exact Nat.le_of_ble_eq_true rfl) ?_
  refine r_ic (v := nI 0) C rfl (by decide) ?_
  refine r_istore C rfl (by exact Nat.le_of_ble_eq_true rfl) ?_
  refine r_ic (v := nI 0) C rfl (by decide) ?_
  refine r_istore C rfl (by exact Nat.le_of_ble_eq_true rfl) ?_
  exact loop 4 0 none (by omega)
/-- of the first n places: where the guesses are farthest apart, how far -/
def whX (Gs : Nat → Option Row) : Nat → Int32 × Int32
  | 0 => (-1, -1)
  | n + 1 => if (whX Gs n).2 < gAp Gs n 4 then (nI n, gAp Gs n 4) else whX Gs n
theorem g_far (hK : KG Sh N kg) {Gs : Nat → Option Row} {Cr : Nat → Int32} (hG : GC M kg Gs Cr) : Con E mX2_farthestApart 3 0 0 [.ref kg] Sh N G M (P1 (some (.int (whX Gs 144).1)) Sh N M) nox := by
  obtain ⟨k0, k1, k2⟩ := id hK
  refine Con.ofQ (by decide +kernel) (by simp [Value.category]) (Nat.le_of_ble_eq_true rfl) (fun k C0 Q hQ => ?_)
  have C : CK k E mX2_farthestApart kdX2_farthestApart 3 0 0 := ⟨C0, kdX2_farthestApart_ok⟩
  have loop : ∀ (m j : Nat) (v4 : Option Value), j + m = 144 → PT k E Q 0 0 Sh N G M 6 [some (.ref kg), some (.int (whX Gs j).1), some (.int (whX Gs j).2), some (.int (nI j)), v4] [] := by
    intro m
    induction m with
    | zero =>
      intro j v4 hj
      have e : j = 144 := by omega
      subst e
      refine r_iload_n C 3 rfl rfl rfl ?_
      refine r_si (v := nI 144) C rfl (by decide) ?_
      refine r_icmp_ge C 37 rfl (by decide) (fun _ => ?_) (fun z => absurd (by decide) z)
      refine r_iload_n C 1 rfl rfl rfl ?_
      exact q_iret C hQ rfl rfl rfl ⟨rfl, rfl, rfl, rfl⟩
    | succ m ih =>
      intro j v4 hj
      refine r_iload_n C 3 rfl rfl rfl ?_
      refine r_si (v := nI 144) C rfl (by decide) ?_
      refine r_icmp_ge C 37 rfl (by decide) (fun z => absurd (le_nI (by omega) (by omega) z) (by omega)) (fun _ => ?_)
      refine r_aload_n C 0 rfl rfl rfl rfl ?_
      refine r_iload_n C 3 rfl rfl rfl ?_
      refine v1_r C rfl mfX2_apartAt lk_X2_41 (by assumption) (g_apart hK hG j rfl (by omega)) ?_
      refine r_istore C rfl (by exact Nat.le_of_ble_eq_true rfl) ?_
      refine r_iload C rfl rfl ?_
      refine r_iload_n C 2 rfl rfl rfl ?_
      refine r_icmp_le C 31 rfl (by decide) (fun h => ?_) (fun h => ?_)
      · refine r_iinc (c := nI 1) C rfl rfl (by decide) ?_
        refine r_goto C 6 rfl (by decide) ?_
        refine r_eqL ?_ (ih (j + 1) (some (.int (gAp Gs j 4))) (by omega))
        rw [whX, if_neg (Int32.not_lt.mpr h), ← nI_add j 1]
        rfl
      · refine r_iload C rfl rfl ?_
        refine r_istore_n C 2 rfl rfl (by exact Nat.le_of_ble_eq_true rfl) ?_
        refine r_iload_n C 3 rfl rfl rfl ?_
        refine r_istore_n C 1 rfl rfl (by exact Nat.le_of_ble_eq_true rfl) ?_
        refine r_iinc (c := nI 1) C rfl rfl (by decide) ?_
        refine r_goto C 6 rfl (by decide) ?_
        refine r_eqL ?_ (ih (j + 1) (some (.int (gAp Gs j 4))) (by omega))
        rw [whX, if_pos (Int32.not_le.mp h), ← nI_add j 1]
        rfl
  refine r_ic (v := (-1)) C rfl (by decide) ?_
  refine r_istore_n C 1 rfl rfl (by exact Nat.le_of_ble_eq_true rfl) ?_
  refine r_ic (v := (-1)) C rfl (by decide) ?_
  refine r_istore_n C 2 rfl rfl (by exact Nat.le_of_ble_eq_true rfl) ?_
  refine r_ic (v := nI 0) C rfl (by decide) ?_
  refine r_istore_n C 3 rfl rfl (by exact Nat.le_of_ble_eq_true rfl) ?_
  exact loop 144 0 none (by omega)
end GUESS
