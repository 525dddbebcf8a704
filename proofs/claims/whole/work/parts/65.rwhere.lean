section RWHERE
variable {E : VE} {Sh : Nat → SE} {N : Nat} {G : Bool} {M M' : MM} {o r w v yd b : Nat} {R : Row} {Gs : Nat → Option Row}
theorem gSt_inv (hK : GOk Gs) (p : Nat) : ∀ {j : Nat}, j ≤ 4 → ((gSt Gs p j).1 = 0 ∧ (gSt Gs p j).2.1.toInt = 400 ∧ (gSt Gs p j).2.2.toInt = 0) ∨ ((gSt Gs p j).1 = 1 ∧ 0 ≤ (gSt Gs p j).2.1.toInt ∧ (gSt Gs p j).2.1.toInt = (gSt Gs p j).2.2.toInt ∧ (gSt Gs p j).2.2.toInt ≤ 400) ∨ (2 ≤ (gSt Gs p j).1 ∧ 0 ≤ (gSt Gs p j).2.1.toInt ∧ (gSt Gs p j).2.1.toInt ≤ (gSt Gs p j).2.2.toInt ∧ (gSt Gs p j).2.2.toInt ≤ 400)
  | 0, _ => Or.inl ⟨rfl, rfl, rfl⟩
  | j + 1, hj => by
    have ih := gSt_inv hK p (j := j) (by omega)
    rw [gSt]
    by_cases e : gW (Gs j) p = -1
    · rw [if_pos e]; exact ih
    · rw [if_neg e]
      have hb := (gW_b hK (g := j) (by omega) p).resolve_left e
      show ((gSt Gs p j).1 + 1 = 0 ∧ (mi (gSt Gs p j).2.1 (gW (Gs j) p)).toInt = 400 ∧ (mx (gSt Gs p j).2.2 (gW (Gs j) p)).toInt = 0) ∨ ((gSt Gs p j).1 + 1 = 1 ∧ 0 ≤ (mi (gSt Gs p j).2.1 (gW (Gs j) p)).toInt ∧ (mi (gSt Gs p j).2.1 (gW (Gs j) p)).toInt = (mx (gSt Gs p j).2.2 (gW (Gs j) p)).toInt ∧ (mx (gSt Gs p j).2.2 (gW (Gs j) p)).toInt ≤ 400) ∨ (2 ≤ (gSt Gs p j).1 + 1 ∧ 0 ≤ (mi (gSt Gs p j).2.1 (gW (Gs j) p)).toInt ∧ (mi (gSt Gs p j).2.1 (gW (Gs j) p)).toInt ≤ (mx (gSt Gs p j).2.2 (gW (Gs j) p)).toInt ∧ (mx (gSt Gs p j).2.2 (gW (Gs j) p)).toInt ≤ 400)
      rw [ti_mi, ti_mx]
      omega
theorem ti_m1 : (-1 : Int32).toInt = -1 := rfl
theorem gAp_I (hK : GOk Gs) (p : Nat) {j : Nat} (hj : j ≤ 4) : (gAp Gs p j).toInt = if (gSt Gs p j).1 < 2 then -1 else (gSt Gs p j).2.2.toInt - (gSt Gs p j).2.1.toInt := by
  have h := gSt_inv hK p hj
  rw [gAp]
  by_cases e : (gSt Gs p j).1 < 2
  · rw [if_pos e, if_pos e]; rfl
  · rw [if_neg e, if_neg e, fb_subI (by omega) (by omega)]
theorem gAp_lo (hK : GOk Gs) (p : Nat) {j : Nat} (hj : j ≤ 4) : -1 ≤ (gAp Gs p j).toInt := by
  have h := gSt_inv hK p hj
  rw [gAp_I hK p hj]
  split <;> omega
theorem whX_lo (hK : GOk Gs) : ∀ n, -1 ≤ (whX Gs n).2.toInt
  | 0 => by rw [whX]; exact Int.le_refl _
  | n + 1 => by
    rw [whX]
    split
    · exact gAp_lo hK n (Nat.le_refl 4)
    · exact whX_lo hK n
/-- how far x is from the first h that know the place -/
def gD (Gs : Nat → Option Row) (p : Nat) (x : Int32) (h : Nat) : Int32 := if (gSt Gs p h).1 = 0 then -1 else mx (x - (gSt Gs p h).2.1) ((gSt Gs p h).2.2 - x)
theorem gD_I (hK : GOk Gs) (p : Nat) {x : Int32} (hx : 0 ≤ x.toInt ∧ x.toInt ≤ 400) {h : Nat} (hh : h ≤ 4) : (gD Gs p x h).toInt = if (gSt Gs p h).1 = 0 then -1 else max (x.toInt - (gSt Gs p h).2.1.toInt) ((gSt Gs p h).2.2.toInt - x.toInt) := by
  have hi := gSt_inv hK p hh
  rw [gD]
  by_cases e : (gSt Gs p h).1 = 0
  · rw [if_pos e, if_pos e]; rfl
  · rw [if_neg e, if_neg e, ti_mx, fb_subI (by omega) (by omega), fb_subI (by omega) (by omega)]
theorem ab_I {x y : Int32} (hx : 0 ≤ x.toInt ∧ x.toInt ≤ 400) (hy : 0 ≤ y.toInt ∧ y.toInt ≤ 400) : (ab (x - y)).toInt = max (x.toInt - y.toInt) (y.toInt - x.toInt) := by
  have e : (x - y).toInt = x.toInt - y.toInt := fb_subI (by omega) (by omega)
  have e0 : (0 : Int32).toInt = 0 := rfl
  simp only [ab]
  split <;> rename_i q <;> rw [Int32.le_iff_toInt_le] at q
  · omega
  · rw [fb_subI (by omega) (by omega)]
    omega
theorem gD_step (hK : GOk Gs) (p : Nat) {x : Int32} (hx : 0 ≤ x.toInt ∧ x.toInt ≤ 400) {h : Nat} (hh : h < 4) (hy : gW (Gs h) p ≠ -1) : mx (gD Gs p x h) (ab (x - gW (Gs h) p)) = gD Gs p x (h + 1) := by
  have hb := (gW_b hK (g := h) hh p).resolve_left hy
  have hi := gSt_inv hK p (j := h) (by omega)
  apply Int32.toInt_inj.mp
  rw [ti_mx, gD_I hK p hx (by omega), gD_I hK p hx (h := h + 1) (by omega), ab_I hx hb]
  have e : gSt Gs p (h + 1) = ((gSt Gs p h).1 + 1, mi (gSt Gs p h).2.1 (gW (Gs h) p), mx (gSt Gs p h).2.2 (gW (Gs h) p)) := by rw [gSt, if_neg hy]
  rw [e]
  show _ = if (gSt Gs p h).1 + 1 = 0 then (-1 : Int) else max (x.toInt - (mi (gSt Gs p h).2.1 (gW (Gs h) p)).toInt) ((mx (gSt Gs p h).2.2 (gW (Gs h) p)).toInt - x.toInt)
  rw [if_neg (show ¬ ((gSt Gs p h).1 + 1 = 0) by omega), ti_mi, ti_mx]
  split <;> omega
theorem gD_same {p : Nat} {x : Int32} {h : Nat} (hy : gW (Gs h) p = -1) : gD Gs p x (h + 1) = gD Gs p x h := by
  have e : gSt Gs p (h + 1) = gSt Gs p h := by rw [gSt, if_pos hy]
  rw [gD, gD, e]
theorem gD_end (hK : GOk Gs) (p : Nat) {g : Nat} (hg : g < 4) (hx : gW (Gs g) p ≠ -1) : mx (gAp Gs p g) (gD Gs p (gW (Gs g) p) g) = gAp Gs p (g + 1) := by
  have hb := (gW_b hK (g := g) hg p).resolve_left hx
  have hi := gSt_inv hK p (j := g) (by omega)
  apply Int32.toInt_inj.mp
  rw [ti_mx, gD_I hK p hb (by omega), gAp_I hK p (by omega), gAp_I hK p (j := g + 1) (by omega)]
  have e : gSt Gs p (g + 1) = ((gSt Gs p g).1 + 1, mi (gSt Gs p g).2.1 (gW (Gs g) p), mx (gSt Gs p g).2.2 (gW (Gs g) p)) := by rw [gSt, if_neg hx]
  rw [e]
  show _ = if (gSt Gs p g).1 + 1 < 2 then (-1 : Int) else (mx (gSt Gs p g).2.2 (gW (Gs g) p)).toInt - (mi (gSt Gs p g).2.1 (gW (Gs g) p)).toInt
  rw [ti_mi, ti_mx]
  split <;> split <;> split <;> omega
theorem gAp_same {p : Nat} {g : Nat} (hx : gW (Gs g) p = -1) : gAp Gs p (g + 1) = gAp Gs p g := by
  have e : gSt Gs p (g + 1) = gSt Gs p g := by rw [gSt, if_pos hx]
  rw [gAp, gAp, e]
/-- the best, if one comes so far apart -/
def Sx (s : Int32 × Int32) (k : Nat) (a : Int32) : Int32 × Int32 := if s.2 < a then (nI k, a) else s
theorem Sx_step (s : Int32 × Int32) (k : Nat) (a v : Int32) : (if (Sx s k a).2 < v then (nI k, v) else Sx s k a) = Sx s k (mx a v) := by
  unfold Sx
  by_cases h : s.2 < a
  · rw [if_pos h]
    simp only [mx]
    show (if a < v then (nI k, v) else (nI k, a)) = _
    by_cases h2 : a < v
    · rw [if_pos h2, if_pos h2, if_pos (Int32.lt_trans h h2)]
    · rw [if_neg h2, if_neg h2, if_pos h]
  · rw [if_neg h]
    simp only [mx]
    by_cases h2 : a < v
    · rw [if_pos h2]
    · rw [if_neg h2, if_neg h]
      by_cases h3 : s.2 < v
      · exact absurd (by rw [Int32.lt_iff_toInt_lt] at *; omega) h
      · rw [if_neg h3]
theorem Sx_m1 (hK : GOk Gs) (n k : Nat) : Sx (whX Gs n) k (-1) = whX Gs n := by
  unfold Sx
  rw [if_neg]
  rw [Int32.lt_iff_toInt_lt]
  have := whX_lo hK n
  have e : (-1 : Int32).toInt = -1 := rfl
  omega
theorem mx_m1 {a : Int32} (h : -1 ≤ a.toInt) : mx a (-1) = a := by
  apply Int32.toInt_inj.mp
  rw [ti_mx]
  have e : (-1 : Int32).toInt = -1 := rfl
  omega
theorem R_where (hM : MO Sh N o) {x : ST} (hV : VI b x) (hR : RI M o x) : Con E mX12_where 3 0 0 [.ref o] Sh N G M (PR Sh N (RQ M o (whX x.Gs 144).1 0 x)) nox := by
  have h0 := hM.1
  have hK : GOk x.Gs := hV.2.2.2.2.2.2.2.1
  refine Con.ofQ (by decide +kernel) (by simp [Value.category]) (Nat.le_of_ble_eq_true rfl) (fun k C0 Q hQ => ?_)
  have C : CK k E mX12_where kdX12_where 3 0 0 := ⟨C0, kdX12_where_ok⟩
  refine r_aload_n C 0 rfl rfl rfl rfl ?_
  refine r_ic (v := nI 0) C rfl (by decide) ?_
  refine r_puti C rfl f_X12_90 (by assumption) rfl rfl rfl ?_
  have hR1 := hR.c0 hV (nI 0)
  obtain ⟨M1, hM1⟩ : ∃ M1, M1 = up M o 0 (nI 0) := ⟨_, rfl⟩
  rw [← hM1] at hR1 ⊢
  have c0 : M1 o 0 = nI 0 := by rw [hM1, up_same]
  have lo1 : ∀ k, (k < o ∨ o + 22 ≤ k) → M1 k = M k := fun k hk => by rw [hM1, up_row _ _ (by omega)]
  have hG := hR1.2.2.2.2.2.2.2.1
  have places : ∀ (m p : Nat) (v4 v5 v6 : Option Value), p + m = 144 → PT k E Q 0 0 Sh N G M1 11 [some (.ref o), some (.int (whX x.Gs p).1), some (.int (whX x.Gs p).2), some (.int (nI p)), v4, v5, v6] [] := by
    intro m
    induction m with
    | zero =>
      intro p v4 v5 v6 hp
      have e : p = 144 := by omega
      subst e
      refine r_iload_n C 3 rfl rfl rfl ?_
      refine r_si (v := nI 144) C rfl (by decide) ?_
      refine r_icmp_ge C 138 rfl (by decide) (fun _ => ?_) (fun z => absurd (by decide) z)
      refine r_iload_n C 1 rfl rfl rfl ?_
      exact q_iret C hQ rfl rfl rfl ⟨rfl, rfl, rfl, c0, hR1, lo1⟩
    | succ m ih =>
      intro p v4 v5 v6 hp
      have e6 : 6 * (p / 6) + p % 6 = p := by omega
      refine r_iload_n C 3 rfl rfl rfl ?_
      refine r_si (v := nI 144) C rfl (by decide) ?_
      refine r_icmp_ge C 138 rfl (by decide) (fun z => absurd (le_nI (by omega) (by omega) z) (by omega)) (fun _ => ?_)
      have gl : ∀ (m2 g : Nat) (v5 v6 : Option Value), g + m2 = 4 → PT k E Q 0 0 Sh N G M1 21 [some (.ref o), some (.int (Sx (whX x.Gs p) p (gAp x.Gs p g)).1), some (.int (Sx (whX x.Gs p) p (gAp x.Gs p g)).2), some (.int (nI p)), some (.int (nI g)), v5, v6] [] := by
        intro m2
        induction m2 with
        | zero =>
          intro g v5 v6 hg
          have e : g = 4 := by omega
          subst e
          refine r_iload C rfl rfl ?_
          refine r_ic (v := nI 4) C rfl (by decide) ?_
          refine r_icmp_ge C 132 rfl (by decide) (fun _ => ?_) (fun z => absurd (by decide) z)
          refine r_iinc (c := nI 1) C rfl rfl (by decide) ?_
          refine r_goto C 11 rfl (by decide) ?_
          refine r_eqL ?_ (ih (p + 1) (some (.int (nI 4))) v5 v6 (by omega))
          rw [show whX x.Gs (p + 1) = Sx (whX x.Gs p) p (gAp x.Gs p 4) from rfl, ← nI_add p 1]
          rfl
        | succ m2 ihg =>
          intro g v5 v6 hg
          refine r_iload C rfl rfl ?_
          refine r_ic (v := nI 4) C rfl (by decide) ?_
          refine r_icmp_ge C 132 rfl (by decide) (fun z => absurd (le_nI (by omega) (by omega) z) (by omega)) (fun _ => ?_)
          have hl : ∀ (m3 h : Nat) (a : Int32) (v6 : Option Value), h + m3 = g → (gW (x.Gs g) p = -1 → a = gAp x.Gs p g) → (gW (x.Gs g) p ≠ -1 → a = mx (gAp x.Gs p g) (gD x.Gs p (gW (x.Gs g) p) h)) → PT k E Q 0 0 Sh N G M1 30 [some (.ref o), some (.int (Sx (whX x.Gs p) p a).1), some (.int (Sx (whX x.Gs p) p a).2), some (.int (nI p)), some (.int (nI g)), some (.int (nI h)), v6] [] := by
            intro m3
            induction m3 with
            | zero =>
              intro h a v6 hh ha1 ha2
              have eh : h = g := by omega
              have ea : a = gAp x.Gs p (g + 1) := by
                by_cases e : gW (x.Gs g) p = -1
                · rw [ha1 e, gAp_same e]
                · rw [ha2 e, eh, gD_end hK p (by omega) e]
              refine r_iload C rfl rfl ?_
              refine r_iload C rfl rfl ?_
              refine r_icmp_ge C 126 rfl (by decide) (fun _ => ?_) (fun z => absurd ((nI_leI (by omega) (by omega)).mpr (by omega)) z)
              rw [ea]
              refine r_iinc (c := nI 1) C rfl rfl (by decide) ?_
              refine r_goto C 21 rfl (by decide) ?_
              refine r_eqL ?_ (ihg (g + 1) (some (.int (nI h))) v6 (by omega))
              rw [← nI_add g 1]
              rfl
            | succ m3 ihh =>
              intro h a v6 hh ha1 ha2
              have next : ∀ (a' : Int32) (v6 : Option Value), (gW (x.Gs g) p = -1 → a' = gAp x.Gs p g) → (gW (x.Gs g) p ≠ -1 → a' = mx (gAp x.Gs p g) (gD x.Gs p (gW (x.Gs g) p) (h + 1))) → PT k E Q 0 0 Sh N G M1 120 [some (.ref o), some (.int (Sx (whX x.Gs p) p a').1), some (.int (Sx (whX x.Gs p) p a').2), some (.int (nI p)), some (.int (nI g)), some (.int (nI h)), v6] [] := by
                intro a' v6 h1 h2
                refine r_iinc (c := nI 1) C rfl rfl (by decide) ?_
                refine r_goto C 30 rfl (by decide) ?_
                refine r_eqL ?_ (ihh (h + 1) a' v6 (by omega) h1 h2)
                rw [← nI_add h 1]
                rfl
              refine r_iload C rfl rfl ?_
              refine r_iload C rfl rfl ?_
              refine r_icmp_ge C 126 rfl (by decide) (fun z => absurd (le_nI (by omega) (by omega) z) (by omega)) (fun _ => ?_)
              refine r_aload_n C 0 rfl rfl rfl rfl ?_
              refine r_iload C rfl rfl ?_
              refine r_iload_n C 3 rfl rfl rfl ?_
              refine r_bi (v := nI 6) C rfl (by decide) ?_
              refine r_idiv C rfl (by decide) ?_
              rw [pk_div (by omega) (by omega) (by omega)]
              refine r_iload_n C 3 rfl rfl rfl ?_
              refine r_bi (v := nI 6) C rfl (by decide) ?_
              refine r_irem C rfl (by decide) ?_
              refine r_top (nI (p % 6)) (pk_rem (by omega) (by omega) (by omega)) ?_
              refine v3_r C rfl mfX12_knows lk_X12_343 (by assumption) (R_knows hM hG hK g (p / 6) (p % 6) rfl rfl rfl (by omega) (by omega) (by omega)) ?_
              rw [e6]
              refine r_if_eq C 120 rfl (by decide) (fun z => ?_) (fun z => ?_)
              · have z : gW (x.Gs g) p = -1 := Decidable.by_contra (fun y => (of_decide_eq_false (bI_0 z)) y)
                exact next a v6 ha1 (fun y => absurd z y)
              have z := of_decide_eq_true (bI_1 z)
              have hx := (gW_b hK (g := g) (by omega) p).resolve_left z
              refine r_aload_n C 0 rfl rfl rfl rfl ?_
              refine r_iload C rfl rfl ?_
              refine r_iload_n C 3 rfl rfl rfl ?_
              refine r_bi (v := nI 6) C rfl (by decide) ?_
              refine r_idiv C rfl (by decide) ?_
              rw [pk_div (by omega) (by omega) (by omega)]
              refine r_iload_n C 3 rfl rfl rfl ?_
              refine r_bi (v := nI 6) C rfl (by decide) ?_
              refine r_irem C rfl (by decide) ?_
              refine r_top (nI (p % 6)) (pk_rem (by omega) (by omega) (by omega)) ?_
              refine v3_r C rfl mfX12_knows lk_X12_343 (by assumption) (R_knows hM hG hK h (p / 6) (p % 6) rfl rfl rfl (by omega) (by omega) (by omega)) ?_
              rw [e6]
              refine r_if_ne C 74 rfl (by decide) (fun y => ?_) (fun y => ?_)
              rotate_left
              · have y : gW (x.Gs h) p = -1 := Decidable.by_contra (fun q => (of_decide_eq_false (bI_0 y)) q)
                refine r_goto C 120 rfl (by decide) ?_
                exact next a v6 ha1 (fun q => by rw [gD_same y]; exact ha2 q)
              have y := of_decide_eq_true (bI_1 y)
              refine r_aload_n C 0 rfl rfl rfl rfl ?_
              refine r_bi (v := nI 32) C rfl (by decide) ?_
              refine r_iload C rfl rfl ?_
              refine r_iadd C rfl ?_
              rw [nI_add]
              refine r_bi (v := nI 37) C rfl (by decide) ?_
              refine r_iload_n C 3 rfl rfl rfl ?_
              refine r_iadd C rfl ?_
              rw [nI_add]
              refine v2_r C rfl mfX12_of lk_X12_238 (by assumption) (R_gof hM hG g p rfl rfl (by omega) (by omega) z) ?_
              refine r_aload_n C 0 rfl rfl rfl rfl ?_
              refine r_bi (v := nI 32) C rfl (by decide) ?_
              refine r_iload C rfl rfl ?_
              refine r_iadd C rfl ?_
              rw [nI_add]
              refine r_bi (v := nI 37) C rfl (by decide) ?_
              refine r_iload_n C 3 rfl rfl rfl ?_
              refine r_iadd C rfl ?_
              rw [nI_add]
              refine v2_r C rfl mfX12_of lk_X12_238 (by assumption) (R_gof hM hG h p rfl rfl (by omega) (by omega) y) ?_
              refine r_isub C rfl ?_
              refine r_abs C rfl lk_X12_346 ?_
              refine r_istore C rfl (by exact Nat.le_of_ble_eq_true rfl) ?_
              refine r_iload C rfl rfl ?_
              refine r_iload_n C 2 rfl rfl rfl ?_
              have es := Sx_step (whX x.Gs p) p a (ab (gW (x.Gs g) p - gW (x.Gs h) p))
              have ea : mx a (ab (gW (x.Gs g) p - gW (x.Gs h) p)) = mx (gAp x.Gs p g) (gD x.Gs p (gW (x.Gs g) p) (h + 1)) := by
                rw [ha2 z, ← gD_step hK p hx (by omega) y]
                apply Int32.toInt_inj.mp
                rw [ti_mx, ti_mx, ti_mx, ti_mx]
                omega
              rw [ea] at es
              refine r_icmp_gt C 115 rfl (by decide) (fun q => ?_) (fun q => ?_)
              · rw [if_pos q] at es
                refine r_iload_n C 3 rfl rfl rfl ?_
                refine r_istore_n C 1 rfl rfl (by exact Nat.le_of_ble_eq_true rfl) ?_
                refine r_iload C rfl rfl ?_
                refine r_istore_n C 2 rfl rfl (by exact Nat.le_of_ble_eq_true rfl) ?_
                refine r_eqL ?_ (next _ (some (.int (ab (gW (x.Gs g) p - gW (x.Gs h) p)))) (fun y => absurd y z) (fun _ => rfl))
                rw [← es]
                rfl
              · rw [if_neg q] at es
                refine r_goto C 120 rfl (by decide) ?_
                refine r_eqL ?_ (next _ (some (.int (ab (gW (x.Gs g) p - gW (x.Gs h) p)))) (fun y => absurd y z) (fun _ => rfl))
                rw [← es]
                rfl
          refine r_ic (v := nI 0) C rfl (by decide) ?_
          refine r_istore C rfl (by exact Nat.le_of_ble_eq_true rfl) ?_
          refine hl g 0 (gAp x.Gs p g) _ (by omega) (fun _ => rfl) (fun _ => ?_)
          rw [show gD x.Gs p (gW (x.Gs g) p) 0 = -1 from rfl, mx_m1 (gAp_lo hK p (by omega))]
      refine r_ic (v := nI 0) C rfl (by decide) ?_
      refine r_istore C rfl (by exact Nat.le_of_ble_eq_true rfl) ?_
      refine r_eqL ?_ (gl 4 0 v5 v6 (by omega))
      rw [show gAp x.Gs p 0 = -1 from rfl, Sx_m1 hK]
      rfl
  refine r_ic (v := (-1)) C rfl (by decide) ?_
  refine r_istore_n C 1 rfl rfl (by exact Nat.le_of_ble_eq_true rfl) ?_
  refine r_ic (v := (-1)) C rfl (by decide) ?_
  refine r_istore_n C 2 rfl rfl (by exact Nat.le_of_ble_eq_true rfl) ?_
  refine r_ic (v := nI 0) C rfl (by decide) ?_
  refine r_istore_n C 3 rfl rfl (by exact Nat.le_of_ble_eq_true rfl) ?_
  exact places 144 0 none none none (by omega)
end RWHERE
