section SWROWS
variable {k : MC} {E : VE} {md : MD} {kd : List (Nat × Instr × Nat)} {d mc ms : Nat} {Q : State → Prop} {cm sm : Nat} {Sh : Nat → SE} {N : Nat} {G : Bool} {M : MM} {pc : Nat} {L : List (Option Value)} {st : List Value}
theorem r_tabIn (C : CK k E md kd d mc ms) {dflt lo hi off : Int} {offs : Array Int} {len : Nat} {x : Int32} (tgt : Nat) (hd : cod kd pc = some (.tableswitch dflt lo hi offs, len)) (h1 : ¬ x.toInt < lo) (h2 : ¬ hi < x.toInt) (ho : offs[(x.toInt - lo).toNat]? = some off) (ht : (pc : Int) + off = (tgt : Int)) (kk : PT k E Q cm sm Sh N G M tgt L st) : PT k E Q cm sm Sh N G M pc L (.int x :: st) := by
  intro ls H locs cells slots hL hH hS hc hs
  exact lv_tableIn C.x C.b (C.dec hd) h1 h2 ho ht (kk ls H locs cells slots hL hH hS hc hs)
theorem r_tabOut (C : CK k E md kd d mc ms) {dflt lo hi : Int} {offs : Array Int} {len : Nat} {x : Int32} (tgt : Nat) (hd : cod kd pc = some (.tableswitch dflt lo hi offs, len)) (h : x.toInt < lo ∨ hi < x.toInt) (ht : (pc : Int) + dflt = (tgt : Int)) (kk : PT k E Q cm sm Sh N G M tgt L st) : PT k E Q cm sm Sh N G M pc L (.int x :: st) := by
  intro ls H locs cells slots hL hH hS hc hs
  exact lv_tableOut C.x C.b (C.dec hd) h ht (kk ls H locs cells slots hL hH hS hc hs)
theorem r_look (C : CK k E md kd d mc ms) {dflt off : Int} {qs : Array (Int × Int)} {len : Nat} {x : Int32} (tgt : Nat) (hd : cod kd pc = some (.lookupswitch dflt qs, len)) (hp : (qs.toList.zip (qs.toList.drop 1)).all (fun (a, next) => a.1 < next.1) = true) (ho : Op.lookupswitch.offset qs.toList dflt x.toInt = off) (ht : (pc : Int) + off = (tgt : Int)) (kk : PT k E Q cm sm Sh N G M tgt L st) : PT k E Q cm sm Sh N G M pc L (.int x :: st) := by
  intro ls H locs cells slots hL hH hS hc hs
  exact lv_lookup C.x C.b (C.dec hd) hp ho ht (kk ls H locs cells slots hL hH hS hc hs)
end SWROWS
section MORE
variable {E : VE} {Sh : Nat → SE} {N : Nat} {G : Bool} {M : MM}
theorem nb01 {v : Int32} (h : v = 0 ∨ v = 1) : narrow .boolean (.int v) = .int v ∧ fits .boolean (.int v) = true := by
  rcases h with rfl | rfl <;> exact ⟨rfl, rfl⟩
/-- a work is done -/
def workR (j : Nat) (R : Row) : Row := match j with
  | 0 => upd R 5 (nI 100)
  | 1 => upd R 6 (nI 100)
  | 2 => upd R 4 (nI 1)
  | 3 => upd R 3 (mi (nI 9) (R 3 + nI 3))
  | 4 => upd R 7 (nI 1)
  | _ => upd R 2 (nI 0)
variable {o r w yd : Nat} {R : Row}
theorem s_doWork (hM : MO Sh N o) {x y : Int32} (j : Nat) (hx : x = nI r) (hy : y = nI j) (hr : r < 36) (hj : j < 6) : Con E mX12_doWork 2 0 0 [.ref o, .int x, .int y] Sh N G (mset M o r R) (P1 none Sh N (mset M o r (workR j R))) nox := by
  subst hx; subst hy
  have h0 := hM.1
  refine Con.ofQ (by decide +kernel) (by simp [Value.category]) (Nat.le_of_ble_eq_true rfl) (fun k C0 Q hQ => ?_)
  have C : CK k E mX12_doWork kdX12_doWork 2 0 0 := ⟨C0, kdX12_doWork_ok⟩
  refine r_iload_n C 2 rfl rfl rfl ?_
  match j, hj with
  | 0, _ =>
    refine r_tabIn C 36 rfl (by decide) (by decide) rfl (by decide) ?_
    refine r_aload_n C 0 rfl rfl rfl rfl ?_
    refine r_iload_n C 1 rfl rfl rfl ?_
    refine r_ic (v := nI 5) C rfl (by decide) ?_
    refine r_bi (v := nI 100) C rfl (by decide) ?_
    refine v3_v C rfl mfX12_put lk_X12_175 (by assumption) (s_put hM 5 rfl rfl hr (by decide)) ?_
    refine r_goto C 109 rfl (by decide) ?_
    exact q_vret C hQ rfl rfl ⟨rfl, rfl, rfl, rfl⟩
  | 1, _ =>
    refine r_tabIn C 47 rfl (by decide) (by decide) rfl (by decide) ?_
    refine r_aload_n C 0 rfl rfl rfl rfl ?_
    refine r_iload_n C 1 rfl rfl rfl ?_
    refine r_bi (v := nI 6) C rfl (by decide) ?_
    refine r_bi (v := nI 100) C rfl (by decide) ?_
    refine v3_v C rfl mfX12_put lk_X12_175 (by assumption) (s_put hM 6 rfl rfl hr (by decide)) ?_
    refine r_goto C 109 rfl (by decide) ?_
    exact q_vret C hQ rfl rfl ⟨rfl, rfl, rfl, rfl⟩
  | 2, _ =>
    refine r_tabIn C 59 rfl (by decide) (by decide) rfl (by decide) ?_
    refine r_aload_n C 0 rfl rfl rfl rfl ?_
    refine r_iload_n C 1 rfl rfl rfl ?_
    refine r_ic (v := nI 4) C rfl (by decide) ?_
    refine r_ic (v := nI 1) C rfl (by decide) ?_
    refine v3_v C rfl mfX12_put lk_X12_175 (by assumption) (s_put hM 4 rfl rfl hr (by decide)) ?_
    refine r_goto C 109 rfl (by decide) ?_
    exact q_vret C hQ rfl rfl ⟨rfl, rfl, rfl, rfl⟩
  | 3, _ =>
    refine r_tabIn C 69 rfl (by decide) (by decide) rfl (by decide) ?_
    refine r_aload_n C 0 rfl rfl rfl rfl ?_
    refine r_iload_n C 1 rfl rfl rfl ?_
    refine r_ic (v := nI 3) C rfl (by decide) ?_
    refine r_bi (v := nI 9) C rfl (by decide) ?_
    refine r_aload_n C 0 rfl rfl rfl rfl ?_
    refine r_iload_n C 1 rfl rfl rfl ?_
    refine r_ic (v := nI 3) C rfl (by decide) ?_
    refine v2_r C rfl mfX12_of lk_X12_238 (by assumption) (s_of hM 3 rfl rfl hr (by decide)) ?_
    refine r_ic (v := nI 3) C rfl (by decide) ?_
    refine r_iadd C rfl ?_
    refine r_min C rfl lk_X12_130 ?_
    refine v3_v C rfl mfX12_put lk_X12_175 (by assumption) (s_put hM 3 rfl rfl hr (by decide)) ?_
    refine r_goto C 109 rfl (by decide) ?_
    exact q_vret C hQ rfl rfl ⟨rfl, rfl, rfl, rfl⟩
  | 4, _ =>
    refine r_tabIn C 91 rfl (by decide) (by decide) rfl (by decide) ?_
    refine r_aload_n C 0 rfl rfl rfl rfl ?_
    refine r_iload_n C 1 rfl rfl rfl ?_
    refine r_bi (v := nI 7) C rfl (by decide) ?_
    refine r_ic (v := nI 1) C rfl (by decide) ?_
    refine v3_v C rfl mfX12_put lk_X12_175 (by assumption) (s_put hM 7 rfl rfl hr (by decide)) ?_
    refine r_goto C 109 rfl (by decide) ?_
    exact q_vret C hQ rfl rfl ⟨rfl, rfl, rfl, rfl⟩
  | 5, _ =>
    refine r_tabOut C 102 rfl (by decide) (by decide) ?_
    refine r_aload_n C 0 rfl rfl rfl rfl ?_
    refine r_iload_n C 1 rfl rfl rfl ?_
    refine r_ic (v := nI 2) C rfl (by decide) ?_
    refine r_ic (v := nI 0) C rfl (by decide) ?_
    refine v3_v C rfl mfX12_put lk_X12_175 (by assumption) (s_put hM 2 rfl rfl hr (by decide)) ?_
    exact q_vret C hQ rfl rfl ⟨rfl, rfl, rfl, rfl⟩
  | j + 6, hj => exact absurd hj (by omega)
theorem s_bulges (hM : MO Sh N o) {x : Int32} (dp mn : Nat) (hW : WF R dp mn) (hx : x = nI r) (hr : r < 36) : Con E mX12_bulges 2 0 0 [.ref o, .int x] Sh N G (mset M o r R) (P1 (some (.int (sm (fun l => R (13 + l)) mn))) Sh N (mset M o r R)) nox := by
  subst hx
  obtain ⟨w0, w1, w2, w3, w4⟩ := hW
  have h0 := hM.1
  refine Con.ofQ (by decide +kernel) (by simp [Value.category]) (Nat.le_of_ble_eq_true rfl) (fun k C0 Q hQ => ?_)
  have C : CK k E mX12_bulges kdX12_bulges 2 0 0 := ⟨C0, kdX12_bulges_ok⟩
  have loop : ∀ n i : Nat, i ≤ mn → mn - i < n → PT k E Q 0 0 Sh N G (mset M o r R) 4 [some (.ref o), some (.int (nI r)), some (.int (sm (fun l => R (13 + l)) i)), some (.int (nI i))] [] := by
    intro n
    induction n with
    | zero => intro i _ h; omega
    | succ n ih =>
      intro i hi hn
      refine r_iload_n C 3 rfl rfl rfl ?_
      refine r_aload_n C 0 rfl rfl rfl rfl ?_
      refine r_iload_n C 1 rfl rfl rfl ?_
      refine r_ic (v := nI 1) C rfl (by decide) ?_
      refine v2_r C rfl mfX12_of lk_X12_238 (by assumption) (s_of hM 1 rfl rfl hr (by decide)) ?_
      refine r_top (nI mn) w3 ?_
      refine r_icmp_ge C 32 rfl (by decide) (fun h => ?_) (fun h => ?_)
      · have h := le_nI (by omega) (by omega) h
        have e : i = mn := by omega
        subst e
        refine r_iload_n C 2 rfl rfl rfl ?_
        exact q_iret C hQ rfl rfl rfl ⟨rfl, rfl, rfl, rfl⟩
      · have h := nle_nI (by omega) (by omega) h
        refine r_iload_n C 2 rfl rfl rfl ?_
        refine r_aload_n C 0 rfl rfl rfl rfl ?_
        refine r_iload_n C 1 rfl rfl rfl ?_
        refine r_bi (v := nI 13) C rfl (by decide) ?_
        refine r_iload_n C 3 rfl rfl rfl ?_
        refine r_iadd C rfl ?_
        refine v2_r C rfl mfX12_of lk_X12_238 (by assumption) (s_of hM (13 + i) rfl (by rw [nI_add]) hr (by omega)) ?_
        refine r_iadd C rfl ?_
        refine r_istore_n C 2 rfl rfl (by exact Nat.le_of_ble_eq_true rfl) ?_
        refine r_iinc (c := nI 1) C rfl rfl (by decide) ?_
        refine r_goto C 4 rfl (by decide) ?_
        refine r_eqL ?_ (ih (i + 1) (by omega) (by omega))
        first | rfl | (simp only [sm, add3, nI_add, Int32.add_zero, Int32.zero_add]; rfl)
  refine r_ic (v := nI 0) C rfl (by decide) ?_
  refine r_istore_n C 2 rfl rfl (by exact Nat.le_of_ble_eq_true rfl) ?_
  refine r_ic (v := nI 0) C rfl (by decide) ?_
  refine r_istore_n C 3 rfl rfl (by exact Nat.le_of_ble_eq_true rfl) ?_
  exact loop (mn + 1) 0 (by omega) (by omega)
theorem w_improve (hA : WA Sh N w yd) {y : Int32} (j : Nat) (hy : y = nI j) (hj : j < 6) : Con E mX8_improve 2 0 0 [.ref w, .int y] Sh N G (wset M w R) (P1 none Sh N (wset M w (workR j R))) nox := by
  subst hy
  obtain ⟨a0, a1, a2, a3, a4, a5⟩ := hA
  refine Con.ofQ (by decide +kernel) (by simp [Value.category]) (Nat.le_of_ble_eq_true rfl) (fun k C0 Q hQ => ?_)
  have C : CK k E mX8_improve kdX8_improve 2 0 0 := ⟨C0, kdX8_improve_ok⟩
  refine r_iload_n C 1 rfl rfl rfl ?_
  match j, hj with
  | 0, _ =>
    refine r_tabIn C 40 rfl (by decide) (by decide) rfl (by decide) ?_
    refine r_aload_n C 0 rfl rfl rfl rfl ?_
    refine r_bi (v := nI 100) C rfl (by decide) ?_
    refine r_puti C rfl f_X8_53 (by assumption) rfl rfl rfl ?_
    refine r_eqM (wp_9 _ _ _ _) ?_
    refine r_goto C 100 rfl (by decide) ?_
    exact q_vret C hQ rfl rfl ⟨rfl, rfl, rfl, rfl⟩
  | 1, _ =>
    refine r_tabIn C 49 rfl (by decide) (by decide) rfl (by decide) ?_
    refine r_aload_n C 0 rfl rfl rfl rfl ?_
    refine r_bi (v := nI 100) C rfl (by decide) ?_
    refine r_puti C rfl f_X8_56 (by assumption) rfl rfl rfl ?_
    refine r_eqM (wp_10 _ _ _ _) ?_
    refine r_goto C 100 rfl (by decide) ?_
    exact q_vret C hQ rfl rfl ⟨rfl, rfl, rfl, rfl⟩
  | 2, _ =>
    refine r_tabIn C 58 rfl (by decide) (by decide) rfl (by decide) ?_
    refine r_aload_n C 0 rfl rfl rfl rfl ?_
    refine r_ic (v := nI 1) C rfl (by decide) ?_
    refine r_puti C rfl f_X8_49 (by assumption) rfl rfl rfl ?_
    refine r_eqM (wp_8 _ _ _ _) ?_
    refine r_goto C 100 rfl (by decide) ?_
    exact q_vret C hQ rfl rfl ⟨rfl, rfl, rfl, rfl⟩
  | 3, _ =>
    refine r_tabIn C 66 rfl (by decide) (by decide) rfl (by decide) ?_
    refine r_aload_n C 0 rfl rfl rfl rfl ?_
    refine r_bi (v := nI 9) C rfl (by decide) ?_
    refine r_aload_n C 0 rfl rfl rfl rfl ?_
    refine r_geti C rfl f_X8_46 (by assumption) rfl ?_
    refine r_top _ (wg_7 _ _ _) ?_
    refine r_ic (v := nI 3) C rfl (by decide) ?_
    refine r_iadd C rfl ?_
    refine r_min C rfl lk_X8_34 ?_
    refine r_puti C rfl f_X8_46 (by assumption) rfl rfl rfl ?_
    refine r_eqM (wp_7 _ _ _ _) ?_
    refine r_goto C 100 rfl (by decide) ?_
    exact q_vret C hQ rfl rfl ⟨rfl, rfl, rfl, rfl⟩
  | 4, _ =>
    refine r_tabIn C 84 rfl (by decide) (by decide) rfl (by decide) ?_
    refine r_aload_n C 0 rfl rfl rfl rfl ?_
    refine r_ic (v := nI 1) C rfl (by decide) ?_
    refine r_puti C rfl f_X8_59 (by assumption) rfl rfl rfl ?_
    refine r_eqM (wp_11 _ _ _ _) ?_
    refine r_goto C 100 rfl (by decide) ?_
    exact q_vret C hQ rfl rfl ⟨rfl, rfl, rfl, rfl⟩
  | 5, _ =>
    refine r_tabIn C 92 rfl (by decide) (by decide) rfl (by decide) ?_
    refine r_aload_n C 0 rfl rfl rfl rfl ?_
    refine r_ic (v := nI 0) C rfl (by decide) ?_
    refine r_puti C rfl f_X8_43 (by assumption) rfl rfl rfl ?_
    refine r_eqM (wp_6 _ _ _ _) ?_
    refine r_goto C 100 rfl (by decide) ?_
    exact q_vret C hQ rfl rfl ⟨rfl, rfl, rfl, rfl⟩
  | j + 6, hj => exact absurd hj (by omega)
theorem w_bulges (hA : WA Sh N w yd) (dp mn : Nat) (hW : WF R dp mn) : Con E mX8_bulges 1 0 0 [.ref w] Sh N G (wset M w R) (P1 (some (.int (sm (fun l => R (13 + l)) mn))) Sh N (wset M w R)) nox := by
  obtain ⟨w0, w1, w2, w3, w4⟩ := hW
  obtain ⟨a0, a1, a2, a3, a4, a5⟩ := hA
  refine Con.ofQ (by decide +kernel) (by simp [Value.category]) (Nat.le_of_ble_eq_true rfl) (fun k C0 Q hQ => ?_)
  have C : CK k E mX8_bulges kdX8_bulges 1 0 0 := ⟨C0, kdX8_bulges_ok⟩
  have loop : ∀ n i : Nat, i ≤ mn → mn - i < n → PT k E Q 0 0 Sh N G (wset M w R) 4 [some (.ref w), some (.int (sm (fun l => R (13 + l)) i)), some (.int (nI i))] [] := by
    intro n
    induction n with
    | zero => intro i _ h; omega
    | succ n ih =>
      intro i hi hn
      refine r_iload_n C 2 rfl rfl rfl ?_
      refine r_aload_n C 0 rfl rfl rfl rfl ?_
      refine r_geti C rfl f_X8_62 (by assumption) rfl ?_
      refine r_top _ (wg_5 _ _ _) ?_
      refine r_top (nI mn) w3 ?_
      refine r_icmp_ge C 27 rfl (by decide) (fun h => ?_) (fun h => ?_)
      · have h := le_nI (by omega) (by omega) h
        have e : i = mn := by omega
        subst e
        refine r_iload_n C 1 rfl rfl rfl ?_
        exact q_iret C hQ rfl rfl rfl ⟨rfl, rfl, rfl, rfl⟩
      · have h := nle_nI (by omega) (by omega) h
        refine r_iload_n C 1 rfl rfl rfl ?_
        refine r_aload_n C 0 rfl rfl rfl rfl ?_
        refine r_getv C rfl f_X8_18 (by assumption) rfl ?_
        refine r_iload_n C 2 rfl rfl rfl ?_
        refine r_iald C rfl (by assumption) (i) rfl (by omega) (by decide) ?_
        refine r_top _ (wg_b _ _ _ (by omega)) ?_
        refine r_iadd C rfl ?_
        refine r_istore_n C 1 rfl rfl (by exact Nat.le_of_ble_eq_true rfl) ?_
        refine r_iinc (c := nI 1) C rfl rfl (by decide) ?_
        refine r_goto C 4 rfl (by decide) ?_
        refine r_eqL ?_ (ih (i + 1) (by omega) (by omega))
        first | rfl | (simp only [sm, add3, nI_add, Int32.add_zero, Int32.zero_add]; rfl)
  refine r_ic (v := nI 0) C rfl (by decide) ?_
  refine r_istore_n C 1 rfl rfl (by exact Nat.le_of_ble_eq_true rfl) ?_
  refine r_ic (v := nI 0) C rfl (by decide) ?_
  refine r_istore_n C 2 rfl rfl (by exact Nat.le_of_ble_eq_true rfl) ?_
  exact loop (mn + 1) 0 (by omega) (by omega)
/-- some cell of the foot is paste -/
def pasteB (R : Row) (dp mn : Nat) : Bool := decide (0 < mn) && anyB (fun c => decide (nI 180 ≤ R (37 + c))) dp
theorem w_foot (hA : WA Sh N w yd) (dp mn : Nat) (hW : WF R dp mn) : Con E mX8_footIsPaste 1 0 0 [.ref w] Sh N G (wset M w R) (P1 (some (.int (bI (pasteB R dp mn)))) Sh N (wset M w R)) nox := by
  obtain ⟨w0, w1, w2, w3, w4⟩ := hW
  obtain ⟨a0, a1, a2, a3, a4, a5⟩ := hA
  refine Con.ofQ (by decide +kernel) (by simp [Value.category]) (Nat.le_of_ble_eq_true rfl) (fun k C0 Q hQ => ?_)
  have C : CK k E mX8_footIsPaste kdX8_footIsPaste 1 0 0 := ⟨C0, kdX8_footIsPaste_ok⟩
  have loop : ∀ n i : Nat, i ≤ dp → dp - i < n → anyB (fun c => decide (nI 180 ≤ R (37 + c))) i = false → PT k E Q 0 0 Sh N G (wset M w R) 2 [some (.ref w), some (.int (nI i))] [] := by
    intro n
    induction n with
    | zero => intro i _ h; omega
    | succ n ih =>
      intro i hi hn ha
      refine r_iload_n C 1 rfl rfl rfl ?_
      refine r_aload_n C 0 rfl rfl rfl rfl ?_
      refine r_geti C rfl f_X8_21 (by assumption) rfl ?_
      refine r_top _ (wg_4 _ _ _) ?_
      refine r_top (nI dp) w0 ?_
      refine r_icmp_ge C 37 rfl (by decide) (fun h => ?_) (fun h => ?_)
      · have h := le_nI (by omega) (by omega) h
        have e : i = dp := by omega
        subst e
        refine r_ic (v := nI 0) C rfl (by decide) ?_
        exact q_iret C hQ rfl rfl rfl ⟨by rw [pasteB, ha, Bool.and_false]; rfl, rfl, rfl, rfl⟩
      have h := nle_nI (by omega) (by omega) h
      refine r_aload_n C 0 rfl rfl rfl rfl ?_
      refine r_geti C rfl f_X8_62 (by assumption) rfl ?_
      refine r_top _ (wg_5 _ _ _) ?_
      refine r_top (nI mn) w3 ?_
      refine r_if_le C 37 rfl (by decide) (fun h2 => ?_) (fun h2 => ?_)
      · have h2 := le_nI (a := mn) (b := 0) (by omega) (by omega) h2
        refine r_ic (v := nI 0) C rfl (by decide) ?_
        exact q_iret C hQ rfl rfl rfl ⟨by rw [pasteB, decide_eq_false (by omega)]; rfl, rfl, rfl, rfl⟩
      have hmn : 0 < mn := by
        rcases Nat.eq_zero_or_pos mn with q | q
        · subst q; exact absurd (Int32.le_refl _) h2
        · exact q
      refine r_aload_n C 0 rfl rfl rfl rfl ?_
      refine r_getv C rfl f_X8_9 (by assumption) rfl ?_
      refine r_iload_n C 1 rfl rfl rfl ?_
      refine r_iald C rfl (by assumption) (i) rfl (by omega) (by decide) ?_
      refine r_top _ (wg_w _ _ _ (by omega)) ?_
      refine r_si (v := nI 180) C rfl (by decide) ?_
      refine r_icmp_lt C 31 rfl (by decide) (fun h3 => ?_) (fun h3 => ?_)
      · refine r_iinc (c := nI 1) C rfl rfl (by decide) ?_
        refine r_goto C 2 rfl (by decide) ?_
        refine r_eqL ?_ (ih (i + 1) (by omega) (by omega) (by rw [anyB, ha, decide_eq_false (Int32.not_le.mpr h3)]; rfl))
        first | rfl | (simp only [sm, add3, nI_add, Int32.add_zero, Int32.zero_add]; rfl)
      · refine r_ic (v := nI 1) C rfl (by decide) ?_
        exact q_iret C hQ rfl rfl rfl ⟨by rw [pasteB, decide_eq_true hmn, anyB_of (i := i) h (decide_eq_true (Int32.not_lt.mp h3))]; rfl, rfl, rfl, rfl⟩
  refine r_ic (v := nI 0) C rfl (by decide) ?_
  refine r_istore_n C 1 rfl rfl (by exact Nat.le_of_ble_eq_true rfl) ?_
  exact loop (dp + 1) 0 (by omega) (by omega) rfl
/-- what a wall is that became another one of mn layers: its own cells above stay -/
def becR (mn : Nat) (A B : Row) : Row := fun j => if j < 13 + mn ∨ (37 ≤ j ∧ j < 37 + 6 * mn) ∨ (181 ≤ j ∧ j < 181 + 6 * mn) then A j else B j
theorem w_cpw (M : MM) (w n : Nat) (X : Row) (f : Nat → Int32) (hn : n ≤ 144) : aset (wset M w X) (w + 1) (va_cpy f (wset M w X (w + 1)) 0 0 n) = wset M w (fun j => if 37 ≤ j ∧ j < 37 + n then f (j - 37) else X j) := by
  funext a b
  simp only [aset, wset, va_cpy]
  grind
theorem w_cpm (M : MM) (w n : Nat) (X : Row) (f : Nat → Int32) (hn : n ≤ 144) : aset (wset M w X) (w + 2) (va_cpy f (wset M w X (w + 2)) 0 0 n) = wset M w (fun j => if 181 ≤ j ∧ j < 181 + n then f (j - 181) else X j) := by
  funext a b
  simp only [aset, wset, va_cpy]
  grind
theorem w_cpb (M : MM) (w n : Nat) (X : Row) (f : Nat → Int32) (hn : n ≤ 24) : aset (wset M w X) (w + 3) (va_cpy f (wset M w X (w + 3)) 0 0 n) = wset M w (fun j => if 13 ≤ j ∧ j < 13 + n then f (j - 13) else X j) := by
  funext a b
  simp only [aset, wset, va_cpy]
  grind
theorem w_become {v yv : Nat} (hA : WA Sh N w yd) (hB : WA Sh N v yv) (hd : v + 4 ≤ w ∨ w + 4 ≤ v) (dp mn : Nat) (hW : WF (wrow M v) dp mn) (hh4 : wrow M v 4 = 0 ∨ wrow M v 4 = 1) (hh7 : wrow M v 7 = 0 ∨ wrow M v 7 = 1) : Con E mX8_become 1 0 0 [.ref w, .ref v] Sh N G (wset M w R) (P1 none Sh N (wset M w (becR mn (wrow M v) R))) nox := by
  obtain ⟨w0, w1, w2, w3, w4⟩ := hW
  obtain ⟨a0, a1, a2, a3, a4, a5⟩ := hA
  obtain ⟨o0, o1, o2, o3, o4, o5⟩ := hB
  have hv : ∀ (X : Row) (j : Nat), wset M w X v j = M v j := fun X j => congrFun (wset_cell M X (by omega)) j
  have hv1 : ∀ (X : Row), wset M w X (v + 1) = M (v + 1) := fun X => wset_cell M X (by omega)
  have hv2 : ∀ (X : Row), wset M w X (v + 2) = M (v + 2) := fun X => wset_cell M X (by omega)
  have hv3 : ∀ (X : Row), wset M w X (v + 3) = M (v + 3) := fun X => wset_cell M X (by omega)
  refine Con.ofQ (by decide +kernel) (by simp [Value.category]) (Nat.le_of_ble_eq_true rfl) (fun k C0 Q hQ => ?_)
  have C : CK k E mX8_become kdX8_become 1 0 0 := ⟨C0, kdX8_become_ok⟩
  refine r_aload_n C 0 rfl rfl rfl rfl ?_
  refine r_aload_n C 1 rfl rfl rfl rfl ?_
  refine r_geti C rfl f_X8_21 o0 rfl ?_
  refine r_top (wrow M v 0) (hv _ _) ?_
  refine r_puti C rfl f_X8_21 a0 rfl rfl rfl ?_
  refine r_eqM (wp_4 _ _ _ _) ?_
  refine r_aload_n C 0 rfl rfl rfl rfl ?_
  refine r_aload_n C 1 rfl rfl rfl rfl ?_
  refine r_geti C rfl f_X8_62 o0 rfl ?_
  refine r_top (wrow M v 1) (hv _ _) ?_
  refine r_puti C rfl f_X8_62 a0 rfl rfl rfl ?_
  refine r_eqM (wp_5 _ _ _ _) ?_
  refine r_aload_n C 0 rfl rfl rfl rfl ?_
  refine r_aload_n C 1 rfl rfl rfl rfl ?_
  refine r_geti C rfl f_X8_43 o0 rfl ?_
  refine r_top (wrow M v 2) (hv _ _) ?_
  refine r_puti C rfl f_X8_43 a0 rfl rfl rfl ?_
  refine r_eqM (wp_6 _ _ _ _) ?_
  refine r_aload_n C 0 rfl rfl rfl rfl ?_
  refine r_aload_n C 1 rfl rfl rfl rfl ?_
  refine r_geti C rfl f_X8_46 o0 rfl ?_
  refine r_top (wrow M v 3) (hv _ _) ?_
  refine r_puti C rfl f_X8_46 a0 rfl rfl rfl ?_
  refine r_eqM (wp_7 _ _ _ _) ?_
  refine r_aload_n C 0 rfl rfl rfl rfl ?_
  refine r_aload_n C 1 rfl rfl rfl rfl ?_
  refine r_geti C rfl f_X8_49 o0 rfl ?_
  refine r_top (wrow M v 4) (hv _ _) ?_
  refine r_puti C rfl f_X8_49 a0 rfl (nb01 hh4).1 (nb01 hh4).2 ?_
  refine r_eqM (wp_8 _ _ _ _) ?_
  refine r_aload_n C 0 rfl rfl rfl rfl ?_
  refine r_aload_n C 1 rfl rfl rfl rfl ?_
  refine r_geti C rfl f_X8_53 o0 rfl ?_
  refine r_top (wrow M v 5) (hv _ _) ?_
  refine r_puti C rfl f_X8_53 a0 rfl rfl rfl ?_
  refine r_eqM (wp_9 _ _ _ _) ?_
  refine r_aload_n C 0 rfl rfl rfl rfl ?_
  refine r_aload_n C 1 rfl rfl rfl rfl ?_
  refine r_geti C rfl f_X8_56 o0 rfl ?_
  refine r_top (wrow M v 6) (hv _ _) ?_
  refine r_puti C rfl f_X8_56 a0 rfl rfl rfl ?_
  refine r_eqM (wp_10 _ _ _ _) ?_
  refine r_aload_n C 0 rfl rfl rfl rfl ?_
  refine r_aload_n C 1 rfl rfl rfl rfl ?_
  refine r_geti C rfl f_X8_59 o0 rfl ?_
  refine r_top (wrow M v 7) (hv _ _) ?_
  refine r_puti C rfl f_X8_59 a0 rfl (nb01 hh7).1 (nb01 hh7).2 ?_
  refine r_eqM (wp_11 _ _ _ _) ?_
  refine r_aload_n C 0 rfl rfl rfl rfl ?_
  refine r_aload_n C 1 rfl rfl rfl rfl ?_
  refine r_geti C rfl f_X8_65 o0 rfl ?_
  refine r_top (wrow M v 8) (hv _ _) ?_
  refine r_puti C rfl f_X8_65 a0 rfl rfl rfl ?_
  refine r_eqM (wp_12 _ _ _ _) ?_
  refine r_aload_n C 0 rfl rfl rfl rfl ?_
  refine r_aload_n C 1 rfl rfl rfl rfl ?_
  refine r_geti C rfl f_X8_68 o0 rfl ?_
  refine r_top (wrow M v 9) (hv _ _) ?_
  refine r_puti C rfl f_X8_68 a0 rfl rfl rfl ?_
  refine r_eqM (wp_13 _ _ _ _) ?_
  refine r_aload_n C 0 rfl rfl rfl rfl ?_
  refine r_aload_n C 1 rfl rfl rfl rfl ?_
  refine r_geti C rfl f_X8_71 o0 rfl ?_
  refine r_top (wrow M v 10) (hv _ _) ?_
  refine r_puti C rfl f_X8_71 a0 rfl rfl rfl ?_
  refine r_eqM (wp_14 _ _ _ _) ?_
  refine r_aload_n C 0 rfl rfl rfl rfl ?_
  refine r_aload_n C 1 rfl rfl rfl rfl ?_
  refine r_geti C rfl f_X8_74 o0 rfl ?_
  refine r_top (wrow M v 11) (hv _ _) ?_
  refine r_puti C rfl f_X8_74 a0 rfl rfl rfl ?_
  refine r_eqM (wp_15 _ _ _ _) ?_
  refine r_aload_n C 0 rfl rfl rfl rfl ?_
  refine r_aload_n C 1 rfl rfl rfl rfl ?_
  refine r_geti C rfl f_X8_77 o0 rfl ?_
  refine r_top (wrow M v 12) (hv _ _) ?_
  refine r_puti C rfl f_X8_77 a0 rfl rfl rfl ?_
  refine r_eqM (wp_16 _ _ _ _) ?_
  refine r_eqM (M' := wset M w (fun j => if j < 13 then wrow M v j else R j)) (congrArg (wset M w) ?_) ?_
  · funext j
    by_cases h : j < 13
    · rw [if_pos h]
      rcases (show j = 0 ∨ j = 1 ∨ j = 2 ∨ j = 3 ∨ j = 4 ∨ j = 5 ∨ j = 6 ∨ j = 7 ∨ j = 8 ∨ j = 9 ∨ j = 10 ∨ j = 11 ∨ j = 12 by omega) with e | e | e | e | e | e | e | e | e | e | e | e | e <;> subst e <;> rfl
    · rw [if_neg h]
      simp only [upd]
      rw [if_neg (by omega), if_neg (by omega), if_neg (by omega), if_neg (by omega), if_neg (by omega), if_neg (by omega), if_neg (by omega), if_neg (by omega), if_neg (by omega), if_neg (by omega), if_neg (by omega), if_neg (by omega), if_neg (by omega)]
  refine r_aload_n C 1 rfl rfl rfl rfl ?_
  refine r_getv C rfl f_X8_9 (by assumption) rfl ?_
  refine r_ic (v := nI 0) C rfl (by decide) ?_
  refine r_aload_n C 0 rfl rfl rfl rfl ?_
  refine r_getv C rfl f_X8_9 (by assumption) rfl ?_
  refine r_ic (v := nI 0) C rfl (by decide) ?_
  refine r_aload_n C 0 rfl rfl rfl rfl ?_
  refine r_geti C rfl f_X8_62 (by assumption) rfl ?_
  refine r_top (nI mn) ((wg_5 _ _ _).trans w3) ?_
  refine r_bi (v := nI 6) C rfl (by decide) ?_
  refine r_imul C rfl ?_
  refine r_acopy C 0 0 (6 * mn) rfl lkac_X8_80 o1 a1 rfl rfl (by rw [pk_mul, Nat.mul_comm]) (by omega) (by omega) (by decide) (by decide) ?_
  rw [hv1, w_cpw _ _ _ _ _ (by omega)]
  refine r_aload_n C 1 rfl rfl rfl rfl ?_
  refine r_getv C rfl f_X8_15 (by assumption) rfl ?_
  refine r_ic (v := nI 0) C rfl (by decide) ?_
  refine r_aload_n C 0 rfl rfl rfl rfl ?_
  refine r_getv C rfl f_X8_15 (by assumption) rfl ?_
  refine r_ic (v := nI 0) C rfl (by decide) ?_
  refine r_aload_n C 0 rfl rfl rfl rfl ?_
  refine r_geti C rfl f_X8_62 (by assumption) rfl ?_
  refine r_top (nI mn) ((wg_5 _ _ _).trans w3) ?_
  refine r_bi (v := nI 6) C rfl (by decide) ?_
  refine r_imul C rfl ?_
  refine r_acopy C 0 0 (6 * mn) rfl lkac_X8_80 o2 a2 rfl rfl (by rw [pk_mul, Nat.mul_comm]) (by omega) (by omega) (by decide) (by decide) ?_
  rw [hv2, w_cpm _ _ _ _ _ (by omega)]
  refine r_aload_n C 1 rfl rfl rfl rfl ?_
  refine r_getv C rfl f_X8_18 (by assumption) rfl ?_
  refine r_ic (v := nI 0) C rfl (by decide) ?_
  refine r_aload_n C 0 rfl rfl rfl rfl ?_
  refine r_getv C rfl f_X8_18 (by assumption) rfl ?_
  refine r_ic (v := nI 0) C rfl (by decide) ?_
  refine r_aload_n C 0 rfl rfl rfl rfl ?_
  refine r_geti C rfl f_X8_62 (by assumption) rfl ?_
  refine r_top (nI mn) ((wg_5 _ _ _).trans w3) ?_
  refine r_acopy C 0 0 mn rfl lkac_X8_80 o3 a3 rfl rfl rfl (by omega) (by omega) (by decide) (by decide) ?_
  rw [hv3, w_cpb _ _ _ _ _ (by omega)]
  refine q_vret C hQ rfl rfl ⟨rfl, rfl, rfl, wset_cong (fun j hj => ?_)⟩
  simp only [becR, wrow]
  grind
end MORE
