section LOOP
variable {k : MC} {E : VE} {d mc ms : Nat} {Q : State → Prop} {cm sm : Nat} {Sh : Nat → SE} {N : Nat} {M : MM} {xs : List Int32} {i b tx : Nat} {x : ST} {a c : Option Value}
theorem and_31 (v : Int32) : ∃ j, j < 32 ∧ v &&& nI 31 = nI j := by
  refine ⟨(v &&& nI 31).toBitVec.toNat, ?_, ?_⟩
  · rw [Int32.toBitVec_and, BitVec.toNat_and]
    exact Nat.lt_of_le_of_lt Nat.and_le_right (by decide)
  · apply Int32.toBitVec_inj.mp
    show _ = BitVec.ofNat 32 _
    simp
theorem head_lt {n i : Nat} (hn : n ≤ 3072) (hi : i ≤ 513) (h : ¬ nI n - nI 6 < nI (6 * i)) : 6 * i + 6 ≤ n := by
  rw [Int32.lt_iff_toInt_lt, Int32.toInt_sub, nI_toInt (n := n) (by omega), nI_toInt (n := 6) (by decide), nI_toInt (n := 6 * i) (by omega), Int.bmod_eq_of_le (by omega) (by omega)] at h
  omega
/-- the loop's head: at the end of the script, or a call more -/
theorem law_head (X : CX k E mL_law d mc ms) (hX : SCR k E xs) (hn : xs.length ≤ 3072) (hi : i ≤ 513) (he : PT k E Q cm sm Sh N false M 1923 (Lw i a c) []) (kk : 6 * i + 6 ≤ xs.length → PT k E Q cm sm Sh N false M 33 (Lw i a c) []) : PT k E Q cm sm Sh N false M 23 (Lw i a c) [] := by
  have C : CK k E mL_law kdW_head d mc ms := ⟨X, kdW_head_ok⟩
  refine r_iload C rfl rfl ?_
  refine r_aload_n C 0 rfl rfl rfl rfl ?_
  refine r_slen C hX rfl ?_
  refine r_bi (v := nI 6) C rfl (by decide) ?_
  refine r_isub C rfl ?_
  exact r_icmp_gt C 1923 rfl (by decide) (fun _ => he) (fun h => kk (head_lt hn hi h))
/-- the switch -/
theorem law_switch (X : CX k E mL_law d mc ms) (hX : SCR k E xs) (hn : xs.length ≤ 3072) (hi : 6 * i + 6 ≤ xs.length) (kk : ∀ j, j < 32 → PT k E Q cm sm Sh N false M 40 (Lw i a c) [.int (nI j)]) : PT k E Q cm sm Sh N false M 33 (Lw i a c) [] := by
  have C : CK k E mL_law kdW_head d mc ms := ⟨X, kdW_head_ok⟩
  refine r_aload_n C 0 rfl rfl rfl rfl ?_
  refine r_iload C rfl rfl ?_
  refine r_sld C hX rfl (6 * i) rfl (by omega) (by omega) ?_
  refine r_bi (v := nI 31) C rfl (by decide) ?_
  refine r_iand C rfl ?_
  obtain ⟨j, hj, e⟩ := and_31 (xs.getD (6 * i) 0)
  refine r_top _ e ?_
  exact kk j hj
/-- a call of the script, from the switch on -/
theorem law_case (X : CX k E mL_law d mc ms) (hX : SCR k E xs) (hd : 22 < d) (hi : 6 * i + 6 ≤ xs.length) (hn : xs.length ≤ 3072) (hI : LInv Sh M b x tx) (hb : b < 2 ^ 25) (h1 : 8 ≤ cm) (h2 : 48 ≤ sm) (kk : LGo k E Q i b (cm - 8) (sm - 48)) {j : Nat} (hj : j < 32) : PT k E Q cm sm Sh 154 false M 40 (Lw i a c) [.int (nI j)] := by
  have C : CK k E mL_law kdW_head d mc ms := ⟨X, kdW_head_ok⟩
  match j, hj with
  | 0, _ => exact r_tabIn C 176 rfl (by decide) (by decide) (show _ = some (136 : Int) from rfl) (by decide) (lc_feed X hX hd hi hn hI hb h1 h2 kk)
  | 1, _ => exact r_tabIn C 249 rfl (by decide) (by decide) (show _ = some (209 : Int) from rfl) (by decide) (lc_yard X hX hd hi hn hI hb h1 h2 kk)
  | 2, _ => exact r_tabIn C 305 rfl (by decide) (by decide) (show _ = some (265 : Int) from rfl) (by decide) (lc_fault X hX hd hi hn hI hb h1 h2 kk)
  | 3, _ => exact r_tabIn C 318 rfl (by decide) (by decide) (show _ = some (278 : Int) from rfl) (by decide) (lc_count X hX hd hi hn hI hb h1 h2 kk)
  | 4, _ => exact r_tabIn C 374 rfl (by decide) (by decide) (show _ = some (334 : Int) from rfl) (by decide) (lc_wall X hX hd hi hn hI hb h1 h2 kk)
  | 5, _ => exact r_tabIn C 442 rfl (by decide) (by decide) (show _ = some (402 : Int) from rfl) (by decide) (lc_cell X hX hd hi hn hI hb h1 h2 kk)
  | 6, _ => exact r_tabIn C 534 rfl (by decide) (by decide) (show _ = some (494 : Int) from rfl) (by decide) (lc_layer X hX hd hi hn hI hb h1 h2 kk)
  | 7, _ => exact r_tabIn C 614 rfl (by decide) (by decide) (show _ = some (574 : Int) from rfl) (by decide) (lc_lift X hX hd hi hn hI hb h1 h2 kk)
  | 8, _ => exact r_tabIn C 682 rfl (by decide) (by decide) (show _ = some (642 : Int) from rfl) (by decide) (lc_down X hX hd hi hn hI hb h1 h2 kk)
  | 9, _ => exact r_tabIn C 738 rfl (by decide) (by decide) (show _ = some (698 : Int) from rfl) (by decide) (lc_hollow X hX hd hi hn hI hb h1 h2 kk)
  | 10, _ => exact r_tabIn C 798 rfl (by decide) (by decide) (show _ = some (758 : Int) from rfl) (by decide) (lc_weeks X hX hd hi hn hI hb h1 h2 kk)
  | 11, _ => exact r_tabIn C 866 rfl (by decide) (by decide) (show _ = some (826 : Int) from rfl) (by decide) (lc_high X hX hd hi hn hI hb h1 h2 kk)
  | 12, _ => exact r_tabIn C 922 rfl (by decide) (by decide) (show _ = some (882 : Int) from rfl) (by decide) (lc_when X hX hd hi hn hI hb h1 h2 kk)
  | 13, _ => exact r_tabIn C 990 rfl (by decide) (by decide) (show _ = some (950 : Int) from rfl) (by decide) (lc_plan X hX hd hi hn hI hb h1 h2 kk)
  | 14, _ => exact r_tabIn C 1058 rfl (by decide) (by decide) (show _ = some (1018 : Int) from rfl) (by decide) (lc_planned X hX hd hi hn hI hb h1 h2 kk)
  | 15, _ => exact r_tabIn C 1114 rfl (by decide) (by decide) (show _ = some (1074 : Int) from rfl) (by decide) (lc_turned X hX hd hi hn hI hb h1 h2 kk)
  | 16, _ => exact r_tabIn C 1206 rfl (by decide) (by decide) (show _ = some (1166 : Int) from rfl) (by decide) (lc_line X hX hd hi hn hI hb h1 h2 kk)
  | 17, _ => exact r_tabIn C 1286 rfl (by decide) (by decide) (show _ = some (1246 : Int) from rfl) (by decide) (lc_work X hX hd hi hn hI hb h1 h2 kk)
  | 18, _ => exact r_tabIn C 1334 rfl (by decide) (by decide) (show _ = some (1294 : Int) from rfl) (by decide) (lc_order X hX hd hi hn hI hb h1 h2 kk)
  | 19, _ => exact r_tabIn C 1402 rfl (by decide) (by decide) (show _ = some (1362 : Int) from rfl) (by decide) (lc_ordered X hX hd hi hn hI hb h1 h2 kk)
  | 20, _ => exact r_tabIn C 1458 rfl (by decide) (by decide) (show _ = some (1418 : Int) from rfl) (by decide) (lc_brick X hX hd hi hn hI hb h1 h2 kk)
  | 21, _ => exact r_tabIn C 1511 rfl (by decide) (by decide) (show _ = some (1471 : Int) from rfl) (by decide) (lc_mix X hX hd hi hn hI hb h1 h2 kk)
  | 22, _ => exact r_tabIn C 1567 rfl (by decide) (by decide) (show _ = some (1527 : Int) from rfl) (by decide) (lc_house X hX hd hi hn hI hb h1 h2 kk)
  | 23, _ => exact r_tabIn C 1616 rfl (by decide) (by decide) (show _ = some (1576 : Int) from rfl) (by decide) (lc_first X hX hd hi hn hI hb h1 h2 kk)
  | 24, _ => exact r_tabIn C 1684 rfl (by decide) (by decide) (show _ = some (1644 : Int) from rfl) (by decide) (lc_guess X hX hd hi hn hI hb h1 h2 kk)
  | 25, _ => exact r_tabIn C 1732 rfl (by decide) (by decide) (show _ = some (1692 : Int) from rfl) (by decide) (lc_stick X hX hd hi hn hI hb h1 h2 kk)
  | 26, _ => exact r_tabIn C 1824 rfl (by decide) (by decide) (show _ = some (1784 : Int) from rfl) (by decide) (lc_credit X hX hd hi hn hI hb h1 h2 kk)
  | 27, _ => exact r_tabIn C 1880 rfl (by decide) (by decide) (show _ = some (1840 : Int) from rfl) (by decide) (lc_where X hX hd hi hn hI hb h1 h2 kk)
  | 28, _ => exact r_tabIn C 1893 rfl (by decide) (by decide) (show _ = some (1853 : Int) from rfl) (by decide) (lc_image X hX hd hi hn hI hb h1 h2 kk)
  | 29, _ => exact r_tabIn C 1904 rfl (by decide) (by decide) (show _ = some (1864 : Int) from rfl) (by decide) (lc_restore X hX hd hi hn hI hb h1 h2 kk)
  | 30, _ | 31, _ =>
    refine r_tabOut C 1917 rfl (by decide) (by decide) ?_
    refine r_room (cm - 8) (sm - 48) (Nat.sub_le _ _) (Nat.sub_le _ _) ?_
    obtain ⟨hV, hU, hM, ho, hC, hR⟩ := hI
    exact kk _ _ _ _ a c ⟨hV.more (b' := b + 520) (by omega), hU, hM, ho, hC, hR⟩
  | n + 32, h => exact absurd h (by omega)
/-- the loop -/
theorem law_go (X : CX k E mL_law d mc ms) (hX : SCR k E xs) (hd : 22 < d) (hn : xs.length ≤ 3072) (he : ∀ (cm sm : Nat) (Sh : Nat → SE) (N : Nat) (M : MM) (L : List (Option Value)), PT k E Q cm sm Sh N false M 1923 L []) : ∀ (n i : Nat) (Sh : Nat → SE) (M : MM) (x : ST) (tx : Nat) (a c : Option Value), i + n = 513 → LInv Sh M (520 * i) x tx → PT k E Q (8 * n) (48 * n) Sh 154 false M 23 (Lw i a c) [] := by
  have C : CK k E mL_law kdW_head d mc ms := ⟨X, kdW_head_ok⟩
  intro n
  induction n with
  | zero =>
    intro i Sh M x tx a c hin hI
    exact law_head X hX hn (by omega) (he _ _ _ _ _ _) (fun h => absurd h (by omega))
  | succ n ih =>
    intro i Sh M x tx a c hin hI
    refine law_head X hX hn (by omega) (he _ _ _ _ _ _) (fun h => ?_)
    refine law_switch X hX hn h (fun j hj => ?_)
    refine law_case X hX hd h hn hI (by omega) (by omega) (by omega) ?_ hj
    intro Sh' M' x' tx' a' c' hI'
    refine r_iinc (c := nI 6) C rfl rfl (by decide) ?_
    refine r_goto C 23 rfl (by decide) ?_
    refine r_eqL (L' := Lw (i + 1) a' c') ?_ ?_
    · show [_, _, _, _, some (Value.int (nI (6 * i) + nI 6)), _, _] = _
      rw [nI_add]
      rfl
    · have e1 : 8 * (n + 1) - 8 = 8 * n := by omega
      have e2 : 48 * (n + 1) - 48 = 48 * n := by omega
      rw [e1, e2]
      exact ih (i + 1) Sh' M' x' tx' a' c' (by omega) hI'
/-- the law's beginning: what is compared is made -/
theorem law_begin (X : CX k E mL_law d mc ms) (hd : 22 < d) (kk : ∀ (Sh : Nat → SE) (M : MM), LInv Sh M 0 st0 5 → PT k E Q 4104 24624 Sh 154 false M 23 (Lw 0 none none) []) : PT k E Q 4258 47477 Sh 0 true M 0 [some (.retAddr 201), none, none, none, none, none, none] [] := by
  have C : CK k E mL_law kdW_head d mc ms := ⟨X, kdW_head_ok⟩
  refine r_newo (N := 0) C rfl nw_X11 (by decide +kernel) (fl := [nul, none, none, nul, nul, none, nul, nul, nul, nul, nul, nul, nul, nul, nul, nul, nul, nul, nul]) rfl (by omega) (show 19 ≤ _ by omega) ?_
  refine r_room 4257 47458 (Nat.le_of_ble_eq_true rfl) (Nat.le_of_ble_eq_true rfl) ?_
  refine r_dup C rfl rfl ?_
  refine r_callI (As := []) (rest := [.ref 0]) C rfl mnX11_init lk_L_88 (mk_class shUp_eq (fun j => congrFun (aset_own _ _ _) j)) rfl rfl (by omega) (Nat.le_of_ble_eq_true rfl) (by omega) (by omega) ?_
  rintro r S1 N1 M1 ⟨rfl, rfl, hU1, hC1⟩
  refine r_room 4127 37623 (Nat.le_of_ble_eq_true rfl) (Nat.le_of_ble_eq_true rfl) ?_
  refine r_astore_n C 1 rfl rfl (by exact Nat.le_of_ble_eq_true rfl) rfl ?_
  refine r_newo (N := 131) C rfl nw_X12 (by decide +kernel) (fl := moF0) rfl (by omega) (show 42 ≤ _ by omega) ?_
  refine r_room 4126 37581 (Nat.le_of_ble_eq_true rfl) (Nat.le_of_ble_eq_true rfl) ?_
  refine r_dup C rfl rfl ?_
  refine r_callI (As := []) (rest := [.ref 131]) C rfl mnX12_init lk_L_91 (mk_model (o := 131) shUp_eq (fun j => congrFun (aset_own _ _ _) j)) rfl rfl (by omega) (Nat.le_of_ble_eq_true rfl) (by omega) (by omega) ?_
  rintro r S2 N2 M2 ⟨rfl, rfl, hlow, hM2, hR2⟩
  refine r_room 4105 24625 (Nat.le_of_ble_eq_true rfl) (Nat.le_of_ble_eq_true rfl) ?_
  have l2 : ∀ c, c < 131 → S2 c = S1 c ∧ M2 c = M1 c := fun c hc => ⟨(hlow c hc).1.trans (shUp_ne (by omega)), (hlow c hc).2.trans (aset_ne _ _ (by omega))⟩
  refine r_astore_n C 2 rfl rfl (by exact Nat.le_of_ble_eq_true rfl) rfl ?_
  refine r_ic (v := nI 1) C rfl (by decide) ?_
  refine r_newJ (N := 153) (j := 1) C rfl rfl (by decide) (by omega) (by omega) ?_
  refine r_astore_n C 3 rfl rfl (by exact Nat.le_of_ble_eq_true rfl) rfl ?_
  refine r_ic (v := nI (6 * 0)) C rfl (by decide) ?_
  refine r_istore C rfl (by exact Nat.le_of_ble_eq_true rfl) ?_
  refine r_G ?_
  refine r_room 4104 24624 (by omega) (by omega) ?_
  refine kk _ _ ⟨vi_0, hU1.over (fun c hc => (shUp_ne (by omega)).trans (l2 c hc).1) (by decide), hM2.over (fun c _ h => shUp_ne (by omega)) (by decide), ⟨by decide, shUp_eq⟩, hC1.below (fun c hc => (aset_ne _ _ (by omega)).trans (l2 c hc).2), ?_⟩
  exact hR2.low vi_0 (fun c _ h => aset_ne _ _ (by omega))
end LOOP
