section CINV
variable {E : VE} {Sh : Nat → SE} {N : Nat} {G : Bool} {M M' M'' : MM} {tx b : Nat} {x : ST}
def muFl : List (Option Value) := [some (.ref 1), none, none, some (.ref 2), some (.ref 3), none, some (.ref 4), some (.ref 6), some (.ref 10), some (.ref 14), some (.ref 31), some (.ref 48), some (.ref 116), some (.ref 117), some (.ref 120), some (.ref 121), some (.ref 124), some (.ref 125), some (.ref 128)]
/-- the cells of the class's object -/
def MU (Sh : Nat → SE) (N tx : Nat) : Prop := At Sh N 0 (.inr (11, muFl)) ∧ At Sh N 1 (arE 1 700) ∧ At Sh N 2 (arE 0 4) ∧ At Sh N 3 (arE 0 4) ∧ At Sh N 4 (.inr (6, rdFl tx)) ∧ YA Sh N 6 ∧ YA Sh N 10 ∧ At Sh N 14 (arW 4 (fun j => some (15 + 4 * j))) ∧ (∀ i, i < 4 → WA Sh N (15 + 4 * i) 10) ∧ At Sh N 31 (arW 4 (fun j => some (32 + 4 * j))) ∧ (∀ i, i < 4 → WA Sh N (32 + 4 * i) 10) ∧ TA Sh N 48 10 ∧ BA Sh N 51 52 10 ∧ FA Sh N 116 10 48 52 ∧ PA Sh N 117 48 51 ∧ TU Sh N 120 48 51 ∧ OA Sh N 121 48 51 ∧ KB Sh N 124 ∧ KH Sh N 125 ∧ KG Sh N 128
def CT (M : MM) (x : ST) : Prop := M 0 1 = nI x.tl ∧ (∀ i, i < x.tl → M 1 i = x.tp i ∧ byt (x.tp i)) ∧ M 0 2 = x.fp
def CSt (M : MM) (x : ST) : Prop := ∀ i, i < 4 → M 2 i = x.st i
def CIm (M : MM) (x : ST) : Prop := M 0 5 = bI x.im ∧ (x.im = true → (∀ i, i < 4 → Ag (wrow M (32 + 4 * i)) (x.Ri i)) ∧ ∀ i, i < 4 → M 3 i = x.si i)
def CD (M : MM) : Prop := ∃ tr wk : Nat → Nat, (∀ i, i < 24 → M 8 i = nI (tr i)) ∧ (∀ i, i < 90 → M 9 i = nI (wk i)) ∧ DV (false, (30, 50, 5), (0, tr), (0, wk))
def CG (M : MM) (x : ST) : Prop := M 10 4 = nI x.wn ∧ YC M 10 x.ye
def CW (M : MM) (x : ST) : Prop := ∀ i, i < 4 → Ag (wrow M (15 + 4 * i)) (x.Rw i)
/-- the class's numbers are this state -/
def CI (M : MM) (x : ST) : Prop := CT M x ∧ CSt M x ∧ CIm M x ∧ CD M ∧ CG M x ∧ CW M x ∧ PK M 117 (x.pl.getD []) ∧ KP M 121 (x.od.getD []) ∧ BRC M 124 x.br ∧ HOC M 125 x.hn x.hw x.hc ∧ GC M 128 x.Gs x.Cr
theorem CT.keep {S : Nat → Prop} (h : CT M x) (hF : Fr S M M') (h0 : ¬ S 0) (h1 : ¬ S 1) : CT M' x := by unfold CT; rw [hF 0 h0, hF 1 h1]; exact h
theorem CSt.keep {S : Nat → Prop} (h : CSt M x) (hF : Fr S M M') (h2 : ¬ S 2) : CSt M' x := by unfold CSt; rw [hF 2 h2]; exact h
theorem CIm.keep {S : Nat → Prop} (h : CIm M x) (hF : Fr S M M') (h0 : ¬ S 0) (h3 : ¬ S 3) (hw : ∀ c, 32 ≤ c → c < 48 → ¬ S c) : CIm M' x := by
  obtain ⟨g1, g2⟩ := h
  refine ⟨by rw [hF 0 h0]; exact g1, fun q => ⟨fun i hi => ?_, fun i hi => by rw [hF 3 h3]; exact (g2 q).2 i hi⟩⟩
  rw [hF.row (32 + 4 * i) (fun c q1 q2 => hw c (by omega) (by omega))]
  exact (g2 q).1 i hi
theorem CD.keep {S : Nat → Prop} (h : CD M) (hF : Fr S M M') (h8 : ¬ S 8) (h9 : ¬ S 9) : CD M' := by unfold CD; rw [hF 8 h8, hF 9 h9]; exact h
theorem CG.keep {S : Nat → Prop} (h : CG M x) (hF : Fr S M M') (h1 : ¬ S 10) (h2 : ¬ S 13) : CG M' x := ⟨by rw [hF 10 h1]; exact h.1, h.2.cong (hF 10 h1) (hF 13 h2)⟩
theorem CW.keep {S : Nat → Prop} (h : CW M x) (hF : Fr S M M') (hw : ∀ c, 15 ≤ c → c < 31 → ¬ S c) : CW M' x := fun i hi => by
  rw [hF.row (15 + 4 * i) (fun c q1 q2 => hw c (by omega) (by omega))]
  exact h i hi
theorem HOC.cong2 {n kh : Nat} {wv cv : Nat → Int32} (h : HOC M kh n wv cv) (h1 : M' kh = M kh) (h2 : M' (kh + 1) = M (kh + 1)) (h3 : M' (kh + 2) = M (kh + 2)) : HOC M' kh n wv cv := by unfold HOC; rw [h1, h2, h3]; exact h
/-- the cells that nobody asks for -/
abbrev SU (c : Nat) : Prop := c = 4 ∨ c = 6 ∨ c = 7 ∨ (48 ≤ c ∧ c ≤ 116) ∨ c = 118 ∨ c = 120 ∨ c = 122
theorem CI.keep {S : Nat → Prop} (h : CI M x) (hF : Fr S M M') (hS : ∀ c, S c → SU c) : CI M' x := by
  have n : ∀ c, ¬ SU c → ¬ S c := fun c q z => q (hS c z)
  obtain ⟨h1, h2, h3, h4, h5, h6, h7, h8, h9, h10, h11⟩ := h
  exact ⟨h1.keep hF (n _ (by decide)) (n _ (by decide)), h2.keep hF (n _ (by decide)), h3.keep hF (n _ (by decide)) (n _ (by decide)) (fun c _ _ => n _ (by simp only [SU]; omega)), h4.keep hF (n _ (by decide)) (n _ (by decide)), h5.keep hF (n _ (by decide)) (n _ (by decide)), h6.keep hF (fun c _ _ => n _ (by simp only [SU]; omega)), h7.cong (hF _ (n _ (by decide))) (hF _ (n _ (by decide))), h8.cong (hF _ (n _ (by decide))) (hF _ (n _ (by decide))), h9.cong (hF _ (n _ (by decide))), h10.cong2 (hF _ (n _ (by decide))) (hF _ (n _ (by decide))) (hF _ (n _ (by decide))), h11.cong (hF _ (n _ (by decide))) (hF _ (n _ (by decide)))⟩
/-- one wall has changed -/
theorem CI.row {S : Nat → Prop} {w : Nat} {R : Row} (h : CI M x) (hF : Fr S M M') (hw : w < 4) (hS : ∀ c, S c → SU c ∨ WS (15 + 4 * w) c) (a : Ag (wrow M' (15 + 4 * w)) R) : CI M' (x.row w R) := by
  have n : ∀ c, ¬ SU c → ¬ WS (15 + 4 * w) c → ¬ S c := fun c q q2 z => (hS c z).elim q q2
  obtain ⟨h1, h2, h3, h4, h5, h6, h7, h8, h9, h10, h11⟩ := h
  refine ⟨h1.keep hF (n _ (by decide) (by omega)) (n _ (by decide) (by omega)), h2.keep hF (n _ (by decide) (by omega)), h3.keep hF (n _ (by decide) (by omega)) (n _ (by decide) (by omega)) (fun c _ _ => n _ (by simp only [SU]; omega) (by omega)), h4.keep hF (n _ (by decide) (by omega)) (n _ (by decide) (by omega)), h5.keep hF (n _ (by decide) (by omega)) (n _ (by decide) (by omega)), fun i hi => ?_, h7.cong (hF _ (n _ (by decide) (by omega))) (hF _ (n _ (by decide) (by omega))), h8.cong (hF _ (n _ (by decide) (by omega))) (hF _ (n _ (by decide) (by omega))), h9.cong (hF _ (n _ (by decide) (by omega))), h10.cong2 (hF _ (n _ (by decide) (by omega))) (hF _ (n _ (by decide) (by omega))) (hF _ (n _ (by decide) (by omega))), h11.cong (hF _ (n _ (by decide) (by omega))) (hF _ (n _ (by decide) (by omega)))⟩
  show Ag (wrow M' (15 + 4 * i)) (if i = w then R else x.Rw i)
  by_cases e : i = w
  · rw [if_pos e, e]; exact a
  · rw [if_neg e, hF.row (15 + 4 * i) (fun c q1 q2 => n c (by simp only [SU]; omega) (by omega))]
    exact h6 i hi
/-- a refusal is counted -/
theorem CI.ups (h : CI M x) (i : Nat) {v : Int32} (hv : v = x.st i + nI 1) : CI (up M 2 i v) (x.ups i) := by
  have hF : Fr (fun c => c = 2) M (up M 2 i v) := fun c hc => up_row _ _ hc
  obtain ⟨h1, h2, h3, h4, h5, h6, h7, h8, h9, h10, h11⟩ := h
  refine ⟨h1.keep hF (by decide) (by decide), fun j hj => ?_, h3.keep hF (by decide) (by decide) (fun c _ _ => by omega), h4.keep hF (by decide) (by decide), h5.keep hF (by decide) (by decide), h6.keep hF (fun c _ _ => by omega), h7.cong (hF _ (by decide)) (hF _ (by decide)), h8.cong (hF _ (by decide)) (hF _ (by decide)), h9.cong (hF _ (by decide)), h10.cong2 (hF _ (by decide)) (hF _ (by decide)) (hF _ (by decide)), h11.cong (hF _ (by decide)) (hF _ (by decide))⟩
  show up M 2 i v 2 j = upd x.st i (x.st i + nI 1) j
  by_cases e : j = i
  · rw [e, up_same, upd_self, hv]
  · rw [up_ne _ _ (by omega), upd_other _ _ e]; exact h2 j hj
/-- what a public method owes -/
abbrev CQ (M : MM) (ans : Int32) (cd : Nat) (x' : ST) : Option Value → MM → Prop := fun v M' => cd = 0 ∧ v = some (.int ans) ∧ CI M' x' ∧ ∀ c, 131 ≤ c → M' c = M c
abbrev CQv (M : MM) (cd : Nat) (x' : ST) : Option Value → MM → Prop := fun v M' => cd = 0 ∧ v = none ∧ CI M' x' ∧ ∀ c, 131 ≤ c → M' c = M c
abbrev CX1 (cd : Nat) : String → Prop := fun X => (cd = 1 ∧ X = XN) ∨ (cd = 2 ∧ X = XI)
variable {k : MC} {md : MD} {kd : List (Nat × Instr × Nat)} {d mc ms : Nat} {Q : State → Prop} {cm sm pc : Nat} {L : List (Option Value)}
theorem q_thr (C : CK k E md kd d mc ms) {Post : Option Value → (Nat → SE) → Nat → MM → Prop} {PX : String → Prop} {X : String} (hQ : Q = QM k E mc ms Sh N G M Post PX) (h : PX X) (hown : md.1.cls = "MudWalls" := by rfl) : TH k E Q cm sm Sh N M pc L X := by
  subst hQ
  exact TH.out C h (th_ne hown)
theorem K_checkRange (v p q : Int32) : Con E mX11_checkRange 6 1 6 [.int v, .int p, .int q] Sh N G M (PR Sh N (fun z M' => z = none ∧ M' = M ∧ inI v p q = true)) (fun X => X = XI ∧ inI v p q = false) := by
  refine Con.ofQ (by decide +kernel) (by simp [Value.category]) (Nat.le_of_ble_eq_true rfl) (fun k C0 Q hQ => ?_)
  have C : CK k E mX11_checkRange kdX11_checkRange 6 1 6 := ⟨C0, kdX11_checkRange_ok⟩
  have no : inI v p q = false → PT k E Q 1 6 Sh N G M 10 [some (.int v), some (.int p), some (.int q)] [] := fun h => r_iaeW C hQ ⟨rfl, h⟩ (text := "a number not as told") (n := 26) (by decide +kernel) rfl rfl rfl rfl rfl
  refine r_iload_n C 0 rfl rfl rfl ?_
  refine r_iload_n C 1 rfl rfl rfl ?_
  refine r_icmp_lt C 10 rfl (by decide) (fun h => no (inI_lo h)) (fun h => ?_)
  refine r_iload_n C 0 rfl rfl rfl ?_
  refine r_iload_n C 2 rfl rfl rfl ?_
  refine r_icmp_le C 21 rfl (by decide) (fun h2 => ?_) (fun h2 => no (inI_hi (Int32.not_le.mp h2)))
  exact q_vret C hQ rfl rfl ⟨rfl, rfl, rfl, rfl, decide_eq_true ⟨Int32.not_lt.mp h, h2⟩⟩
theorem K_checkWhat (v q : Int32) : Con E mX11_checkWhat 6 1 6 [.int v, .int q] Sh N G M (PR Sh N (fun z M' => z = none ∧ M' = M ∧ inI v 0 q = true)) (fun X => X = XN ∧ inI v 0 q = false) := by
  refine Con.ofQ (by decide +kernel) (by simp [Value.category]) (Nat.le_of_ble_eq_true rfl) (fun k C0 Q hQ => ?_)
  have C : CK k E mX11_checkWhat kdX11_checkWhat 6 1 6 := ⟨C0, kdX11_checkWhat_ok⟩
  have no : inI v 0 q = false → PT k E Q 1 6 Sh N G M 9 [some (.int v), some (.int q)] [] := fun h => r_nseW C hQ ⟨rfl, h⟩ (text := "no such thing is told") (n := 27) (by decide +kernel) rfl rfl rfl rfl rfl
  refine r_iload_n C 0 rfl rfl rfl ?_
  refine r_if_lt C 9 rfl (by decide) (fun h => no (inI_lo h)) (fun h => ?_)
  refine r_iload_n C 0 rfl rfl rfl ?_
  refine r_iload_n C 1 rfl rfl rfl ?_
  refine r_icmp_le C 20 rfl (by decide) (fun h2 => ?_) (fun h2 => no (inI_hi (Int32.not_le.mp h2)))
  exact q_vret C hQ rfl rfl ⟨rfl, rfl, rfl, rfl, decide_eq_true ⟨Int32.not_lt.mp h, h2⟩⟩
theorem K_wallAt (hU : MU Sh N tx) (hV : VI b x) (hC : CI M x) (p : Int32) : Con E mX11_wallAt 6 1 6 [.ref 0, .int p] Sh N G M (PR Sh N (fun z M' => M' = M ∧ ∃ w, w < x.wn ∧ p = nI w ∧ z = some (.ref (15 + 4 * w)))) (fun X => X = XN ∧ isW p x.wn = false) := by
  obtain ⟨u0, u1, u2, u3, u4, u6, u10, u14, uw, u31, ui, u48, u51, u116, u117, u120, u121, u124, u125, u128⟩ := hU
  have y0 := u10.1
  have hw4 := hV.1
  obtain ⟨c1, c2, c3, c4, c5, c6, c7, c8, c9, c10, c11⟩ := hC
  refine Con.ofQ (by decide +kernel) (by simp [Value.category]) (Nat.le_of_ble_eq_true rfl) (fun k C0 Q hQ => ?_)
  have C : CK k E mX11_wallAt kdX11_wallAt 6 1 6 := ⟨C0, kdX11_wallAt_ok⟩
  have no : isW p x.wn = false → PT k E Q 1 6 Sh N G M 24 [some (.ref 0), some (.int p)] [] := fun h => r_nse C hQ ⟨rfl, h⟩ (text := "no such wall") (n := 20) (by decide +kernel) rfl rfl rfl rfl rfl
  refine r_iload_n C 1 rfl rfl rfl ?_
  refine r_if_lt C 24 rfl (by decide) (fun h => no (inI_lo h)) (fun h => ?_)
  refine r_iload_n C 1 rfl rfl rfl ?_
  refine r_aload_n C 0 rfl rfl rfl rfl ?_
  refine r_getv C rfl f_X11_38 (by assumption) rfl ?_
  refine r_geti C rfl f_X11_162 (by assumption) rfl ?_
  rw [c5.1]
  refine r_icmp_ge C 24 rfl (by decide) (fun h2 => no ?_) (fun h2 => ?_)
  · refine (isW_no (by omega)).mpr (Or.inr ?_)
    have h3 := Int32.le_iff_toInt_le.mp h2
    rw [nI_toInt (by omega)] at h3
    exact h3
  have hW : isW p x.wn = true := by
    cases hz : isW p x.wn with
    | true => rfl
    | false =>
      exfalso
      rcases (isW_no (by omega)).mp hz with z | z
      · exact h (Int32.lt_iff_toInt_lt.mpr (by rw [show (0 : Int32).toInt = 0 from rfl]; exact z))
      · exact h2 (Int32.le_iff_toInt_le.mpr (by rw [nI_toInt (by omega)]; exact z))
  obtain ⟨w, hw, rfl⟩ := (isW_iff (by omega)).mp hW
  refine r_iload_n C 1 rfl rfl rfl ?_
  refine r_aload_n C 0 rfl rfl rfl rfl ?_
  refine r_getv C rfl f_X11_45 (by assumption) rfl ?_
  refine r_alen4 C rfl (by assumption) ?_
  refine r_icmp_lt C 34 rfl (by decide) (fun _ => ?_) (fun z => absurd ((nI_ltI (by omega) (by decide)).mpr (by omega)) z)
  refine r_aload_n C 0 rfl rfl rfl rfl ?_
  refine r_getv C rfl f_X11_45 (by assumption) rfl ?_
  refine r_iload_n C 1 rfl rfl rfl ?_
  refine r_aald C rfl u14 (w) rfl (by omega) (by decide) rfl ?_
  exact q_aret C hQ rfl rfl (Or.inl ⟨_, rfl⟩) ⟨rfl, rfl, rfl, w, hw, rfl, rfl⟩
theorem K_withLayer (hU : MU Sh N tx) (hV : VI b x) (hC : CI M x) (p q : Int32) : Con E mX11_wallWithLayer 7 2 12 [.ref 0, .int p, .int q] Sh N G M (PR Sh N (fun z M' => M' = M ∧ ∃ w l, w < x.wn ∧ l < mno (x.Rw w) ∧ p = nI w ∧ q = nI l ∧ z = some (.ref (15 + 4 * w)))) (fun X => X = XN ∧ isL x p q = false) := by
  have u0 := hU.1
  have hw4 := hV.1
  have cw := hC.2.2.2.2.2.1
  refine Con.ofQ (by decide +kernel) (by simp [Value.category]) (Nat.le_of_ble_eq_true rfl) (fun k C0 Q hQ => ?_)
  have C : CK k E mX11_wallWithLayer kdX11_wallWithLayer 7 2 12 := ⟨C0, kdX11_wallWithLayer_ok⟩
  refine r_aload_n C 0 rfl rfl rfl rfl ?_
  refine r_iload_n C 1 rfl rfl rfl ?_
  refine v1_x C rfl mfX11_wallAt lk_X11_197 (by assumption) (K_wallAt hU hV hC p) (by omega) (by omega) (fun X h => q_thr C hQ ⟨h.1, by rw [isL, h.2]; rfl⟩) ?_
  rintro z M1 ⟨rfl, w, hw, rfl, rfl⟩
  have hA := hU.2.2.2.2.2.2.2.2.1 w (by omega)
  have a0 := hA.1
  have ow := hV.ow hw
  have aw := cw w (by omega)
  have hm := ow.mn
  have no : isL x (nI w) q = false → PT k E Q (2 - 1) (12 - 6) Sh N G M1 18 [some (.ref 0), some (.int (nI w)), some (.int q), some (.ref (15 + 4 * w))] [] := fun h => r_nse C hQ ⟨rfl, h⟩ (text := "no such layer") (n := 21) (by decide +kernel) rfl rfl rfl rfl rfl
  have eL : isL x (nI w) q = isW q (mno (x.Rw w)) := by rw [isL, isW_nI (by omega) hw, nI_clamp (by omega)]; rfl
  refine r_astore_n C 3 rfl rfl (by exact Nat.le_of_ble_eq_true rfl) rfl ?_
  refine r_iload_n C 2 rfl rfl rfl ?_
  refine r_if_lt C 18 rfl (by decide) (fun h => no (by rw [eL]; exact inI_lo h)) (fun h => ?_)
  refine r_iload_n C 2 rfl rfl rfl ?_
  refine r_aload_n C 3 rfl rfl rfl rfl ?_
  refine r_geti C rfl f_X11_201 (by assumption) rfl ?_
  rw [w_mn aw ow]
  refine r_icmp_lt C 28 rfl (by decide) (fun h2 => ?_) (fun h2 => no ?_)
  · have hW : isW q (mno (x.Rw w)) = true := by
      cases hz : isW q (mno (x.Rw w)) with
      | true => rfl
      | false =>
        exfalso
        rcases (isW_no (by omega)).mp hz with z | z
        · exact h (Int32.lt_iff_toInt_lt.mpr (by rw [show (0 : Int32).toInt = 0 from rfl]; exact z))
        · exact Int32.not_le.mpr h2 (Int32.le_iff_toInt_le.mpr (by rw [nI_toInt (by omega)]; exact z))
    obtain ⟨l, hl, rfl⟩ := (isW_iff (by omega)).mp hW
    refine r_aload_n C 3 rfl rfl rfl rfl ?_
    exact q_aret C hQ rfl rfl (Or.inl ⟨_, rfl⟩) ⟨rfl, rfl, rfl, w, l, hw, hl, rfl, rfl, rfl⟩
  · rw [eL]
    refine (isW_no (by omega)).mpr (Or.inr ?_)
    have h3 := Int32.le_iff_toInt_le.mp (Int32.not_lt.mp h2)
    rw [nI_toInt (by omega)] at h3
    exact h3
theorem K_withCell (hU : MU Sh N tx) (hV : VI b x) (hC : CI M x) (p q z : Int32) : Con E mX11_wallWithCell 8 3 18 [.ref 0, .int p, .int q, .int z] Sh N G M (PR Sh N (fun v M' => M' = M ∧ ∃ w l c, w < x.wn ∧ l < mno (x.Rw w) ∧ c < dpo (x.Rw w) ∧ p = nI w ∧ q = nI l ∧ z = nI c ∧ v = some (.ref (15 + 4 * w)))) (fun X => X = XN ∧ isC x p q z = false) := by
  have u0 := hU.1
  have hw4 := hV.1
  have cw := hC.2.2.2.2.2.1
  refine Con.ofQ (by decide +kernel) (by simp [Value.category]) (Nat.le_of_ble_eq_true rfl) (fun k C0 Q hQ => ?_)
  have C : CK k E mX11_wallWithCell kdX11_wallWithCell 8 3 18 := ⟨C0, kdX11_wallWithCell_ok⟩
  refine r_aload_n C 0 rfl rfl rfl rfl ?_
  refine r_iload_n C 1 rfl rfl rfl ?_
  refine r_iload_n C 2 rfl rfl rfl ?_
  refine v2_x C rfl mfX11_wallWithLayer lk_X11_206 (by assumption) (K_withLayer hU hV hC p q) (by omega) (by omega) (fun X h => q_thr C hQ ⟨h.1, by rw [isC, h.2]; rfl⟩) ?_
  rintro y M1 ⟨rfl, w, l, hw, hl, rfl, rfl, rfl⟩
  have hA := hU.2.2.2.2.2.2.2.2.1 w (by omega)
  have a0 := hA.1
  have ow := hV.ow hw
  have aw := cw w (by omega)
  have hm := ow.mn
  have hd := ow.dp
  have no : isC x (nI w) (nI l) z = false → PT k E Q (3 - 2) (18 - 12) Sh N G M1 21 [some (.ref 0), some (.int (nI w)), some (.int (nI l)), some (.int z), some (.ref (15 + 4 * w))] [] := fun h => r_nse C hQ ⟨rfl, h⟩ (text := "no such cell") (n := 22) (by decide +kernel) rfl rfl rfl rfl rfl
  have eL : isC x (nI w) (nI l) z = isW z (dpo (x.Rw w)) := by rw [isC, (isL_iff hV).mpr ⟨w, l, hw, hl, rfl, rfl⟩, nI_clamp (by omega)]; rfl
  refine r_astore C rfl (by exact Nat.le_of_ble_eq_true rfl) rfl ?_
  refine r_iload_n C 3 rfl rfl rfl ?_
  refine r_if_lt C 21 rfl (by decide) (fun h => no (by rw [eL]; exact inI_lo h)) (fun h => ?_)
  refine r_iload_n C 3 rfl rfl rfl ?_
  refine r_aload C rfl rfl rfl ?_
  refine r_geti C rfl f_X11_210 (by assumption) rfl ?_
  rw [(w_trait aw (j := 0) (by decide)).trans ow.wf.1]
  refine r_icmp_lt C 31 rfl (by decide) (fun h2 => ?_) (fun h2 => no ?_)
  · have hW : isW z (dpo (x.Rw w)) = true := by
      cases hz : isW z (dpo (x.Rw w)) with
      | true => rfl
      | false =>
        exfalso
        rcases (isW_no (by omega)).mp hz with z | z
        · exact h (Int32.lt_iff_toInt_lt.mpr (by rw [show (0 : Int32).toInt = 0 from rfl]; exact z))
        · exact Int32.not_le.mpr h2 (Int32.le_iff_toInt_le.mpr (by rw [nI_toInt (by omega)]; exact z))
    obtain ⟨c, hc, rfl⟩ := (isW_iff (by omega)).mp hW
    refine r_aload C rfl rfl rfl ?_
    exact q_aret C hQ rfl rfl (Or.inl ⟨_, rfl⟩) ⟨rfl, rfl, rfl, w, l, c, hw, hl, hc, rfl, rfl, rfl, rfl⟩
  · rw [eL]
    refine (isW_no (by omega)).mpr (Or.inr ?_)
    have h3 := Int32.le_iff_toInt_le.mp (Int32.not_lt.mp h2)
    rw [nI_toInt (by omega)] at h3
    exact h3
theorem K_fault (hU : MU Sh N tx) (hC : CI M x) : Con E mX11_fault 1 0 0 [.ref 0] Sh N G M (PR Sh N (CQ M x.fp 0 x)) nox := by
  have u0 := hU.1
  refine Con.ofQ (by decide +kernel) (by simp [Value.category]) (Nat.le_of_ble_eq_true rfl) (fun k C0 Q hQ => ?_)
  have C : CK k E mX11_fault kdX11_fault 1 0 0 := ⟨C0, kdX11_fault_ok⟩
  refine r_aload_n C 0 rfl rfl rfl rfl ?_
  refine r_geti C rfl f_X11_13 (by assumption) rfl ?_
  rw [hC.1.2.2]
  exact q_iret C hQ rfl rfl rfl ⟨rfl, rfl, rfl, rfl, hC, fun _ _ => rfl⟩
end CINV
