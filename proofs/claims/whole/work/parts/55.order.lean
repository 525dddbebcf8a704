section ORDER
variable {E : VE} {Sh : Nat → SE} {N : Nat} {G : Bool} {M : MM} {o r w v yd yv t b w0 fo p bw q : Nat} {R : Row} {Y : YD} {A B : Row}
def blN (R : Row) : Nat := (blg R).toNatClampNeg
theorem si_mono {f g : Nat → Int} : ∀ {n : Nat}, (∀ i, i < n → f i ≤ g i) → si f n ≤ si g n
  | 0, _ => Int.le_refl _
  | n + 1, h => by
    have h1 := si_mono (n := n) (fun i hi => h i (by omega))
    have h2 := h n (by omega)
    simp only [si]
    omega
theorem si_cong {f g : Nat → Int} : ∀ {n : Nat}, (∀ i, i < n → f i = g i) → si f n = si g n
  | 0, _ => rfl
  | n + 1, h => by rw [si, si, si_cong (n := n) (fun i hi => h i (by omega)), h n (by omega)]
theorem blN_eq (h : OK b R) : blg R = nI (blN R) ∧ blN R ≤ 120 ∧ (blN R : Int) = si (fun l => (R (13 + l)).toInt) (mno R) := by
  have hm := h.mn
  obtain ⟨h1, h2, h3⟩ := sm_si (f := fun l => R (13 + l)) (B := 5) (n := mno R) (by decide) (fun i hi => h.bul i hi) (by omega)
  have h4 : (blg R).toInt = si (fun l => (R (13 + l)).toInt) (mno R) := h1
  obtain ⟨x, hx⟩ : ∃ x : Nat, (x : Int) = (blg R).toInt := ⟨(blg R).toInt.toNat, by omega⟩
  have e : blg R = nI x := by
    apply Int32.toInt_inj.mp
    rw [nI_toInt (by omega)]
    omega
  have e2 : blN R = x := by rw [blN, e, nI_clamp (by omega)]
  rw [e2]
  exact ⟨e, by omega, by omega⟩
theorem blN_up (hY : Y.Fine) (h : OK b R) (hb : b < 2 ^ 29) (hf : wkF Y R = false) : blN R ≤ blN (wkR Y R) := by
  have e1 := (blN_eq h).2.2
  have e2 := (blN_eq (ok_wk hY h (by omega))).2.2
  have hm := (wk_mn h hY).1
  have key : si (fun l => (R (13 + l)).toInt) (mno R) ≤ si (fun l => (wkR Y R (13 + l)).toInt) (mno (wkR Y R)) := by
    rcases Nat.eq_zero_or_pos (mno R) with z | z
    · rw [hm, z, fallN_0]
      show (0 : Int) ≤ 0
      decide
    · have hl : lowN (wkS Y R) 0 (mno R) = none := by
        cases e : lowN (wkS Y R) 0 (mno R) with
        | none => rfl
        | some l => rw [wkF_some e] at hf; cases hf
      have ef : fallN (wkS Y R) (mno R) = mno R := by rw [fallN, hl]
      rw [hm, ef]
      refine si_mono (fun i hi => ?_)
      show (R (13 + i)).toInt ≤ (wkR Y R (13 + i)).toInt
      rw [wkR_none z hl, upd_other _ _ (by omega)]
      exact ((wkS_ok hY h z).2.1 i hi).1
  omega
theorem blN_wo (j : Nat) (R : Row) : blN (workR j R) = blN R := by
  have e : blg (workR j R) = blg R := by
    simp only [blg]
    rw [wo_mn]
    exact sm_cong (fun l _ => work_tr j R (by omega))
  rw [blN, blN, e]
/-- one behind the other -/
def orL (g : Nat → Nat × List Nat → Nat × List Nat) : Nat → Nat → Nat × List Nat → Nat × List Nat
  | _, 0, st => st
  | i, m + 1, st => orL g (i + 1) m (g i st)
/-- one work, one week -/
def orW (Y : YD) (x : Nat) (R : Row) : Row := wkR Y (workR x R)
/-- the best order of the works in L behind those in pre: one more than its bulges, the order -/
def orF (Y : YD) : Nat → Nat → Row → List Nat → Nat × List Nat → Nat × List Nat
  | 0, _, R, pre, st => if st.1 = 0 ∨ blN R + 1 < st.1 then (blN R + 1, pre) else st
  | n + 1, L, R, pre, st => orL (fun x st => if L / 2 ^ x % 2 = 1 ∧ wkF Y (workR x R) = false then orF Y n (L - 2 ^ x) (orW Y x R) (pre ++ [x]) st else st) 0 6 st
theorem orL_same {g : Nat → Nat × List Nat → Nat × List Nat} {st : Nat × List Nat} (h : ∀ i, g i st = st) : ∀ (m i : Nat), orL g i m st = st
  | 0, _ => rfl
  | m + 1, i => by rw [orL, h i, orL_same h m (i + 1)]
theorem orL_inv {g : Nat → Nat × List Nat → Nat × List Nat} (P : Nat × List Nat → Prop) (h : ∀ i st, P st → P (g i st)) : ∀ (m i : Nat) {st : Nat × List Nat}, P st → P (orL g i m st)
  | 0, _, _, h0 => h0
  | m + 1, i, _, h0 => by rw [orL]; exact orL_inv P h m (i + 1) (h i _ h0)
theorem ok_orW (hY : Y.Fine) (h : OK b R) (hb : b < 2 ^ 29) (x : Nat) : OK (b + 1) (orW Y x R) := ok_wk hY (ok_work h x) (by omega)
theorem orF_cut (hY : Y.Fine) : ∀ {n L : Nat} {R : Row} {pre : List Nat} {st : Nat × List Nat} {b : Nat}, OK b R → b + n < 2 ^ 29 → st.1 ≠ 0 → ¬ blN R + 1 < st.1 → orF Y n L R pre st = st
  | 0, L, R, pre, st, b, hO, hb, h1, h2 => by rw [orF, if_neg (by omega)]
  | n + 1, L, R, pre, st, b, hO, hb, h1, h2 => by
    rw [orF]
    refine orL_same (fun x => ?_) 6 0
    by_cases e : L / 2 ^ x % 2 = 1 ∧ wkF Y (workR x R) = false
    · rw [if_pos e]
      have h3 := blN_up hY (ok_work hO x) (by omega) e.2
      rw [blN_wo] at h3
      exact orF_cut hY (ok_orW hY hO (by omega) x) (by omega) h1 (by have e : blN (orW Y x R) = blN (wkR Y (workR x R)) := rfl; omega)
    · rw [if_neg e]
/-- what holds of every best -/
def orP (T : Nat) (l0 : List Nat) (st : Nat × List Nat) : Prop := st.1 ≤ 121 ∧ (st.1 = 0 → st.2 = l0) ∧ (st.1 ≠ 0 → st.2.length = T)
theorem orF_P (hY : Y.Fine) {T : Nat} {l0 : List Nat} : ∀ {n L : Nat} {R : Row} {pre : List Nat} {st : Nat × List Nat} {b : Nat}, OK b R → b + n < 2 ^ 29 → pre.length + n = T → orP T l0 st → orP T l0 (orF Y n L R pre st)
  | 0, L, R, pre, st, b, hO, hb, hT, h => by
    rw [orF]
    split
    · exact ⟨by show blN R + 1 ≤ 121; have := (blN_eq hO).2.1; omega, fun z => absurd z (Nat.succ_ne_zero _), fun _ => by show pre.length = T; omega⟩
    · exact h
  | n + 1, L, R, pre, st, b, hO, hb, hT, h => by
    rw [orF]
    refine orL_inv (orP T l0) (fun x s hs => ?_) 6 0 h
    show orP T l0 (if L / 2 ^ x % 2 = 1 ∧ wkF Y (workR x R) = false then orF Y n (L - 2 ^ x) (orW Y x R) (pre ++ [x]) s else s)
    split
    · exact orF_P hY (ok_orW hY hO (by omega) x) (by omega) (by rw [List.length_append, List.length_singleton]; omega) hs
    · exact hs
/-- how many works -/
def pcN (L : Nat) : Nat := L % 2 + L / 2 % 2 + L / 4 % 2 + L / 8 % 2 + L / 16 % 2 + L / 32 % 2
theorem pc_0' : ∀ L, L < 64 → (pcN L = 0 ↔ L = 0) := by decide +kernel
theorem pc_0 {L : Nat} (hL : L < 64) : pcN L = 0 ↔ L = 0 := pc_0' L hL
theorem pc_sub : ∀ L, L < 64 → ∀ x, x < 6 → L / 2 ^ x % 2 = 1 → 2 ^ x ≤ L ∧ pcN (L - 2 ^ x) + 1 = pcN L := by decide +kernel
theorem pc_and : ∀ L, L < 64 → ∀ x, x < 6 → ((nI L &&& (nI 1 <<< (nI x &&& 31))) = 0 ↔ ¬ L / 2 ^ x % 2 = 1) := by decide +kernel
theorem pc_clr : ∀ L, L < 64 → ∀ x, x < 6 → L / 2 ^ x % 2 = 1 → nI L &&& ((nI 1 <<< (nI x &&& 31)) ^^^ (-1)) = nI (L - 2 ^ x) := by decide +kernel
theorem pc_le {L : Nat} : pcN L ≤ 6 := by simp only [pcN]; omega
/-- the orderer's object -/
def OA (Sh : Nat → SE) (N q t bw : Nat) : Prop := At Sh N q (.inr (4, [some (.ref t), some (.ref bw), some (.ref (q + 1)), none, some (.ref (q + 2)), none])) ∧ At Sh N (q + 1) (arE 0 6) ∧ At Sh N (q + 2) (arE 0 6)
/-- the orderer keeps this order -/
def KP (M : MM) (q : Nat) (l : List Nat) : Prop := l.length ≤ 6 ∧ M q 5 = nI l.length ∧ ∀ i, i < l.length → M (q + 2) i = nI (l.getD i 0)
def OS (M : MM) (q : Nat) (st : Nat × List Nat) : Prop := M q 3 = nI st.1 - nI 1 ∧ KP M q st.2
theorem KP.cong {M' : MM} {l : List Nat} (h : KP M q l) (h1 : M' q = M q) (h2 : M' (q + 2) = M (q + 2)) : KP M' q l := by
  unfold KP
  rw [h1, h2]
  exact h
theorem OS.cong {M' : MM} {st : Nat × List Nat} (h : OS M q st) (h1 : M' q = M q) (h2 : M' (q + 2) = M (q + 2)) : OS M' q st := ⟨by rw [h1]; exact h.1, h.2.cong h1 h2⟩
abbrev VS (w0 t q k c : Nat) : Prop := (w0 + 4 * (k + 1) ≤ c ∧ c < w0 + 64) ∨ TS t c ∨ (q ≤ c ∧ c < q + 3)
theorem pre_at' {F : Nat → Int32} {pre : List Nat} {x k : Nat} (hk : pre.length = k) (h : ∀ i, i < k → F i = nI (pre.getD i 0)) (hx : F k = nI x) : ∀ i, i < k + 1 → F i = nI ((pre ++ [x]).getD i 0) := by
  intro i hi
  rw [List.getD_eq_getElem?_getD]
  by_cases e : i = k
  · rw [e, List.getElem?_append_right (by omega), hk, Nat.sub_self, hx]
    rfl
  · rw [List.getElem?_append_left (by omega), ← List.getD_eq_getElem?_getD]
    exact h i (by omega)
theorem m1_ne {x : Nat} (hx : x < 2 ^ 29) : (nI x - nI 1 = -1) ↔ x = 0 := by
  constructor
  · intro h
    have e := congrArg Int32.toInt h
    rw [pk_sub_toInt (by omega) (by omega)] at e
    have e1 : (-1 : Int32).toInt = -1 := rfl
    omega
  · intro h
    rw [h]
    rfl
theorem m1_lt' {x n : Nat} (hx : x < 2 ^ 29) (hn : n < 2 ^ 29) : (nI n < nI x - nI 1) ↔ n + 1 < x := by
  rw [Int32.lt_iff_toInt_lt, pk_sub_toInt (by omega) (by omega), nI_toInt (by omega)]
  omega
theorem o_seek (hU : OA Sh N q t bw) (hBe : BA Sh N bw w0 yd) (hT : TA Sh N t yd) (hd1 : t + 3 ≤ w0) (hq : w0 + 64 ≤ q) (hF : Y.Fine) {T : Nat} {l0 : List Nat} (hT6 : T ≤ 6) :
    ∀ (n k0 L : Nat) (M : MM) (R : Row) (b : Nat) (pre : List Nat) (st : Nat × List Nat), k0 + n = T → L < 64 → pcN L = n → pre.length = k0 → (∀ i, i < k0 → M (q + 1) i = nI (pre.getD i 0)) → OS M q st → orP T l0 st → YC M yd Y → OK b R → b + n < 2 ^ 28 → Ag (wrow M (w0 + 4 * k0)) R →
    Con E mX4_seek (6 + n) 0 0 [.ref q, .int (nI k0), .int (nI L)] Sh N G M (PR Sh N (fun z M' => z = none ∧ Fr (VS w0 t q k0) M M' ∧ (∀ i, i < k0 → M' (q + 1) i = M (q + 1) i) ∧ OS M' q (orF Y n L R pre st))) nox := by
  obtain ⟨q0, q1, q2⟩ := id hU
  obtain ⟨b0, b1⟩ := id hBe
  have t0 := hT.1
  have t3 := hT.2.2.2
  have yb := (b1 0 (by omega)).2.2.2.2.2
  intro n
  induction n with
  | zero =>
    intro k0 L M R b pre st hk hL hp hpl hrow hS hP hY hO hb a
    have hL0 : L = 0 := (pc_0 hL).mp hp
    subst hL0
    have wk := b1 k0 (by omega)
    obtain ⟨x0, -⟩ := id wk
    obtain ⟨e1, e2, -⟩ := blN_eq hO
    refine Con.ofQ (by decide +kernel) (by simp [Value.category]) (Nat.le_of_ble_eq_true rfl) (fun k C0 Q hQ => ?_)
    have C : CK k E mX4_seek kdX4_seek 6 0 0 := ⟨C0, kdX4_seek_ok⟩
    refine r_iload_n C 1 rfl rfl rfl ?_
    refine r_if_lt C 15 rfl (by decide) (fun z => absurd z (Int32.not_lt.mpr (nI_pos' (by omega)))) (fun _ => ?_)
    refine r_iload_n C 1 rfl rfl rfl ?_
    refine r_ic (v := nI 1) C rfl (by decide) ?_
    refine r_iadd C rfl ?_
    rw [nI_add]
    refine r_aload_n C 0 rfl rfl rfl rfl ?_
    refine r_getv C rfl f_X4_22 (by assumption) rfl ?_
    refine r_alen4 C rfl (by assumption) ?_
    refine r_icmp_lt C 16 rfl (by decide) (fun _ => ?_) (fun z => absurd ((nI_ltI (by omega) (by omega)).mpr (by omega)) z)
    refine r_aload_n C 0 rfl rfl rfl rfl ?_
    refine r_getv C rfl f_X4_22 (by assumption) rfl ?_
    refine r_iload_n C 1 rfl rfl rfl ?_
    refine r_aald C rfl b0 (k0) rfl (by omega) (by decide) rfl ?_
    refine r_astore_n C 3 rfl rfl (by exact Nat.le_of_ble_eq_true rfl) rfl ?_
    refine r_aload_n C 3 rfl rfl rfl rfl ?_
    refine v0_r C rfl mfX8_bulges lk_X4_43 (by assumption) (p_bulges wk hO a) ?_
    rw [e1]
    refine r_istore C rfl (by exact Nat.le_of_ble_eq_true rfl) ?_
    refine r_aload_n C 0 rfl rfl rfl rfl ?_
    refine r_geti C rfl f_X4_30 (by assumption) rfl ?_
    rw [hS.1]
    refine r_ic (v := (-1)) C rfl (by decide) ?_
    have leaf : (st.1 = 0 ∨ blN R + 1 < st.1) → PT k E Q 0 0 Sh N G M 47 [some (.ref q), some (.int (nI k0)), some (.int (nI 0)), some (.ref (w0 + 4 * k0)), some (.int (nI (blN R))), none, none, none] [] := by
      intro h
      have ef : orF Y 0 0 R pre st = (blN R + 1, pre) := by rw [orF, if_pos h]
      refine r_iload_n C 2 rfl rfl rfl ?_
      refine r_if_eq C 60 rfl (by decide) (fun _ => ?_) (fun z => absurd rfl z)
      refine r_aload_n C 0 rfl rfl rfl rfl ?_
      refine r_iload C rfl rfl ?_
      refine r_puti C rfl f_X4_30 (by assumption) rfl rfl rfl ?_
      refine r_aload_n C 0 rfl rfl rfl rfl ?_
      refine r_iload_n C 1 rfl rfl rfl ?_
      refine r_puti C rfl f_X4_26 (by assumption) rfl rfl rfl ?_
      refine r_aload_n C 0 rfl rfl rfl rfl ?_
      refine r_getv C rfl f_X4_9 (by assumption) rfl ?_
      refine r_ic (v := nI 0) C rfl (by decide) ?_
      refine r_aload_n C 0 rfl rfl rfl rfl ?_
      refine r_getv C rfl f_X4_15 (by assumption) rfl ?_
      refine r_ic (v := nI 0) C rfl (by decide) ?_
      refine r_iload_n C 1 rfl rfl rfl ?_
      refine r_acopy C 0 0 k0 rfl lkac_X4_47 (by assumption) (by assumption) rfl rfl rfl (by omega) (by omega) (by decide) (by decide) ?_
      refine q_vret C hQ rfl rfl ⟨rfl, rfl, rfl, fun c hc => ?_, fun i hi => ?_, ?_⟩
      · rw [aset_ne _ _ (by simp only [VS] at hc; omega), up_row _ _ (by simp only [VS] at hc; omega), up_row _ _ (by simp only [VS] at hc; omega)]
      · rw [aset_ne _ _ (by omega), up_row _ _ (by omega), up_row _ _ (by omega)]
      · rw [ef]
        refine ⟨?_, by show pre.length ≤ 6; omega, ?_, fun i hi => ?_⟩
        · rw [aset_ne _ _ (by omega), up_ne _ _ (by omega), up_same]
          show nI (blN R) = nI (blN R + 1) - nI 1
          rw [pk_sub (by omega)]
          rfl
        · rw [aset_ne _ _ (by omega), up_same]
          show nI k0 = nI pre.length
          rw [hpl]
        · have hi : i < pre.length := hi
          rw [aset_own, cpy_lo (by omega), up_row _ _ (by omega), up_row _ _ (by omega)]
          exact hrow i (by omega)
    refine r_icmp_eq C 47 rfl (by decide) (fun z => leaf (Or.inl ((m1_ne (by have := hP.1; omega)).mp z))) (fun z => ?_)
    have z : st.1 ≠ 0 := fun e => z ((m1_ne (by have := hP.1; omega)).mpr e)
    refine r_iload C rfl rfl ?_
    refine r_aload_n C 0 rfl rfl rfl rfl ?_
    refine r_geti C rfl f_X4_30 (by assumption) rfl ?_
    rw [hS.1]
    refine r_icmp_lt C 47 rfl (by decide) (fun y => leaf (Or.inr ((m1_lt' (by have := hP.1; omega) (by omega)).mp y))) (fun y => ?_)
    have y : ¬ blN R + 1 < st.1 := fun e => y ((m1_lt' (by have := hP.1; omega) (by omega)).mpr e)
    refine q_vret C hQ rfl rfl ⟨rfl, rfl, rfl, Fr.rfl, fun _ _ => rfl, ?_⟩
    rw [orF, if_neg (by omega)]
    exact hS
  | succ n ih =>
    intro k0 L M R b pre st hk hL hp hpl hrow hS hP hY hO hb a
    have hL0 : L ≠ 0 := fun z => by have := (pc_0 hL).mpr z; omega
    have wk := b1 k0 (by omega)
    have wn := b1 (k0 + 1) (by omega)
    obtain ⟨x0, -⟩ := id wk
    obtain ⟨y0, -⟩ := id wn
    obtain ⟨e1, e2, -⟩ := blN_eq hO
    refine Con.ofQ (by decide +kernel) (by simp [Value.category]) (Nat.le_of_ble_eq_true rfl) (fun k C0 Q hQ => ?_)
    have C : CK k E mX4_seek kdX4_seek (6+(n+1)) 0 0 := ⟨C0, kdX4_seek_ok⟩
    refine r_iload_n C 1 rfl rfl rfl ?_
    refine r_if_lt C 15 rfl (by decide) (fun z => absurd z (Int32.not_lt.mpr (nI_pos' (by omega)))) (fun _ => ?_)
    refine r_iload_n C 1 rfl rfl rfl ?_
    refine r_ic (v := nI 1) C rfl (by decide) ?_
    refine r_iadd C rfl ?_
    rw [nI_add]
    refine r_aload_n C 0 rfl rfl rfl rfl ?_
    refine r_getv C rfl f_X4_22 (by assumption) rfl ?_
    refine r_alen4 C rfl (by assumption) ?_
    refine r_icmp_lt C 16 rfl (by decide) (fun _ => ?_) (fun z => absurd ((nI_ltI (by omega) (by omega)).mpr (by omega)) z)
    refine r_aload_n C 0 rfl rfl rfl rfl ?_
    refine r_getv C rfl f_X4_22 (by assumption) rfl ?_
    refine r_iload_n C 1 rfl rfl rfl ?_
    refine r_aald C rfl b0 (k0) rfl (by omega) (by decide) rfl ?_
    refine r_astore_n C 3 rfl rfl (by exact Nat.le_of_ble_eq_true rfl) rfl ?_
    refine r_aload_n C 3 rfl rfl rfl rfl ?_
    refine v0_r C rfl mfX8_bulges lk_X4_43 (by assumption) (p_bulges wk hO a) ?_
    rw [e1]
    refine r_istore C rfl (by exact Nat.le_of_ble_eq_true rfl) ?_
    refine r_aload_n C 0 rfl rfl rfl rfl ?_
    refine r_geti C rfl f_X4_30 (by assumption) rfl ?_
    rw [hS.1]
    refine r_ic (v := (-1)) C rfl (by decide) ?_
    obtain ⟨g, hg⟩ : ∃ g, g = fun x st => if L / 2 ^ x % 2 = 1 ∧ wkF Y (workR x R) = false then orF Y n (L - 2 ^ x) (orW Y x R) (pre ++ [x]) st else st := ⟨_, rfl⟩
    have hor : orF Y (n + 1) L R pre st = orL g 0 6 st := by rw [orF, hg]
    have gP : ∀ x s, orP T l0 s → orP T l0 (g x s) := fun x s hs => by
      rw [hg]
      show orP T l0 (if L / 2 ^ x % 2 = 1 ∧ wkF Y (workR x R) = false then orF Y n (L - 2 ^ x) (orW Y x R) (pre ++ [x]) s else s)
      split
      · exact orF_P hF (ok_orW hF hO (by omega) x) (by omega) (by rw [List.length_append, List.length_singleton]; omega) hs
      · exact hs
    have loop : ∀ (m i : Nat) (M1 : MM) (s1 : Nat × List Nat) (v7 : Option Value), i + m = 6 → Fr (VS w0 t q k0) M M1 → (∀ j, j < k0 → M1 (q + 1) j = M (q + 1) j) → OS M1 q s1 → orP T l0 s1 → orF Y (n + 1) L R pre st = orL g i m s1 → PT k E Q 0 0 Sh N G M1 99 [some (.ref q), some (.int (nI k0)), some (.int (nI L)), some (.ref (w0 + 4 * k0)), some (.int (nI (blN R))), some (.ref (w0 + 4 * (k0 + 1))), some (.int (nI i)), v7] [] := by
      intro m
      induction m with
      | zero =>
        intro i M1 s1 v7 hi hFr hr1 hS1 hP1 he
        refine r_iload C rfl rfl ?_
        refine r_bi (v := nI 6) C rfl (by decide) ?_
        refine r_icmp_ge C 171 rfl (by decide) (fun _ => ?_) (fun z => absurd ((nI_leI (by omega) (by omega)).mpr (by omega)) z)
        exact q_vret C hQ rfl rfl ⟨rfl, rfl, rfl, hFr, hr1, by rw [he]; exact hS1⟩
      | succ m ihm =>
        intro i M1 s1 v7 hi hFr hr1 hS1 hP1 he
        rw [orL] at he
        have next : ∀ M2, Fr (VS w0 t q k0) M M2 → (∀ j, j < k0 → M2 (q + 1) j = M (q + 1) j) → OS M2 q (g i s1) → PT k E Q 0 0 Sh N G M2 165 [some (.ref q), some (.int (nI k0)), some (.int (nI L)), some (.ref (w0 + 4 * k0)), some (.int (nI (blN R))), some (.ref (w0 + 4 * (k0 + 1))), some (.int (nI i)), some (.int (nI 1 <<< (nI i &&& 31)))] [] := by
          intro M2 hFr2 hr2 hS2
          refine r_iinc (c := nI 1) C rfl rfl (by decide) ?_
          refine r_goto C 99 rfl (by decide) ?_
          refine r_eqL ?_ (ihm (i + 1) M2 (g i s1) (some (.int (nI 1 <<< (nI i &&& 31)))) (by omega) hFr2 hr2 hS2 (gP i s1 hP1) he)
          first | rfl | (simp only [sm, add3, nI_add, Int32.add_zero, Int32.zero_add]; rfl)
        refine r_iload C rfl rfl ?_
        refine r_bi (v := nI 6) C rfl (by decide) ?_
        refine r_icmp_ge C 171 rfl (by decide) (fun z => absurd (le_nI (by omega) (by omega) z) (by omega)) (fun _ => ?_)
        refine r_ic (v := nI 1) C rfl (by decide) ?_
        refine r_iload C rfl rfl ?_
        refine r_ishl C rfl ?_
        refine r_istore C rfl (by exact Nat.le_of_ble_eq_true rfl) ?_
        refine r_iload_n C 2 rfl rfl rfl ?_
        refine r_iload C rfl rfl ?_
        refine r_iand C rfl ?_
        have pa := pc_and L hL i (by omega)
        refine r_if_eq C 165 rfl (by decide) (fun z => ?_) (fun z => ?_)
        · have z := pa.mp z
          refine next M1 hFr hr1 ?_
          rw [hg]
          show OS M1 q (if L / 2 ^ i % 2 = 1 ∧ wkF Y (workR i R) = false then _ else s1)
          rw [if_neg (fun y => z y.1)]
          exact hS1
        have z : L / 2 ^ i % 2 = 1 := Decidable.by_contra (fun y => z (pa.mpr y))
        obtain ⟨z1, z2⟩ := pc_sub L hL i (by omega) z
        have a1 : Ag (wrow M1 (w0 + 4 * k0)) R := by rw [hFr.row _ (fun c h1 h2 y => by simp only [VS, TS] at y; omega)]; exact a
        refine r_aload C rfl rfl rfl ?_
        refine r_aload_n C 3 rfl rfl rfl rfl ?_
        refine v1_g C rfl mfX8_become lk_X4_33 (by assumption) (p_become wn wk (by omega) hO a1) ?_
        rintro z9 M2 ⟨rfl, a2, hFr2⟩
        refine r_aload C rfl rfl rfl ?_
        refine r_iload C rfl rfl ?_
        refine v1_g C rfl mfX8_improve lk_X4_53 (by assumption) (p_improve wn i rfl (by omega) hO a2) ?_
        rintro z9 M3 ⟨rfl, a3, hFr3⟩
        refine r_aload_n C 0 rfl rfl rfl rfl ?_
        refine r_getv C rfl f_X4_9 (by assumption) rfl ?_
        refine r_iload_n C 1 rfl rfl rfl ?_
        refine r_iload C rfl rfl ?_
        refine r_iast C rfl (by assumption) (k0) rfl (by omega) (by decide) ?_
        obtain ⟨M4, hM4⟩ : ∃ M4, M4 = up M3 (q + 1) k0 (nI i) := ⟨_, rfl⟩
        rw [← hM4]
        have hF4 : Fr (fun c => c = q + 1) M3 M4 := fun c hc => by rw [hM4]; exact up_row M3 _ hc
        have a4 : Ag (wrow M4 (w0 + 4 * (k0 + 1))) (workR i R) := by rw [hF4.row _ (fun c h1 h2 y => by omega)]; exact a3
        have hFr5 : Fr (VS w0 t q k0) M M4 := ((hFr.trans hFr2 (U := VS w0 t q k0) (fun _ y => y) (fun c y => by simp only [VS, WS] at y ⊢; omega)).trans hFr3 (U := VS w0 t q k0) (fun _ y => y) (fun c y => by simp only [VS, WS] at y ⊢; omega)).trans hF4 (fun _ y => y) (fun c y => by simp only [VS]; omega)
        have eq1 : M3 (q + 1) = M1 (q + 1) := (hFr3 _ (by simp only [WS]; omega)).trans (hFr2 _ (by simp only [WS]; omega))
        have r4 : ∀ j, j < k0 → M4 (q + 1) j = M (q + 1) j := fun j hj => by rw [hM4, up_ne _ _ (by omega), eq1]; exact hr1 j hj
        have r4k : M4 (q + 1) k0 = nI i := by rw [hM4, up_same]
        have hS4 : OS M4 q s1 := hS1.cong (by rw [hF4 _ (by omega), hFr3 _ (by simp only [WS]; omega), hFr2 _ (by simp only [WS]; omega)]) (by rw [hF4 _ (by omega), hFr3 _ (by simp only [WS]; omega), hFr2 _ (by simp only [WS]; omega)])
        have hY4 : YC M4 yd Y := hY.cong (hFr5 _ (by simp only [VS, TS]; omega)) (hFr5 _ (by simp only [VS, TS]; omega))
        have oW := ok_work hO i
        refine r_aload_n C 0 rfl rfl rfl rfl ?_
        refine r_getv C rfl f_X4_18 (by assumption) rfl ?_
        refine r_aload C rfl rfl rfl ?_
        refine v1_g C rfl mfX9_pass lk_X4_57 (by assumption) (p_pass wn hT (by omega) hY4 hF oW (by omega) a4) ?_
        rintro z9 M5 ⟨rfl, a5, hFr6⟩
        have hFr7 : Fr (VS w0 t q k0) M M5 := hFr5.trans hFr6 (fun _ y => y) (fun c y => by simp only [VS, WS, TS] at y ⊢; omega)
        have eq5 : M5 (q + 1) = M4 (q + 1) := hFr6 _ (by simp only [WS]; omega)
        have r5 : ∀ j, j < k0 → M5 (q + 1) j = M (q + 1) j := fun j hj => by rw [eq5]; exact r4 j hj
        have hS5 : OS M5 q s1 := hS4.cong (hFr6 _ (by simp only [WS]; omega)) (hFr6 _ (by simp only [WS]; omega))
        refine r_if_ne C 165 rfl (by decide) (fun y => ?_) (fun y => ?_)
        · have y := bI_1 y
          refine next M5 hFr7 r5 ?_
          rw [hg]
          show OS M5 q (if L / 2 ^ i % 2 = 1 ∧ wkF Y (workR i R) = false then _ else s1)
          rw [if_neg (fun x => by rw [y] at x; exact absurd x.2 (by decide))]
          exact hS5
        have y := bI_0 y
        have egi : g i s1 = orF Y n (L - 2 ^ i) (orW Y i R) (pre ++ [i]) s1 := by
          rw [hg]
          show (if L / 2 ^ i % 2 = 1 ∧ wkF Y (workR i R) = false then orF Y n (L - 2 ^ i) (orW Y i R) (pre ++ [i]) s1 else s1) = _
          rw [if_pos ⟨z, y⟩]
        have hY5 : YC M5 yd Y := hY.cong (hFr7 _ (by simp only [VS, TS]; omega)) (hFr7 _ (by simp only [VS, TS]; omega))
        refine r_aload_n C 0 rfl rfl rfl rfl ?_
        refine r_iload_n C 1 rfl rfl rfl ?_
        refine r_ic (v := nI 1) C rfl (by decide) ?_
        refine r_iadd C rfl ?_
        rw [nI_add]
        refine r_iload_n C 2 rfl rfl rfl ?_
        refine r_iload C rfl rfl ?_
        refine r_ic (v := (-1)) C rfl (by decide) ?_
        refine r_ixor C rfl ?_
        refine r_iand C rfl ?_
        rw [pc_clr L hL i (by omega) z]
        refine v2_g C rfl mfX4_seek lk_X4_39 (by assumption) (ih (k0 + 1) (L - 2 ^ i) M5 (orW Y i R) (b + 1) (pre ++ [i]) s1 (by omega) (Nat.lt_of_le_of_lt (Nat.sub_le _ _) hL) (by omega) (by rw [List.length_append, List.length_singleton]; omega) (by rw [eq5]; exact pre_at' hpl (fun j hj => by rw [r4 j hj]; exact hrow j hj) r4k) hS5 hP1 hY5 (ok_orW hF hO (by omega) i) (by omega) a5) ?_
        rintro z9 M6 ⟨rfl, hFr8, hr8, hS8⟩
        exact next M6 (hFr7.trans hFr8 (fun _ y => y) (fun c y => by simp only [VS, WS, TS] at y ⊢; omega)) (fun j hj => by rw [hr8 j (by omega)]; exact r5 j hj) (by rw [egi]; exact hS8)
    have go : PT k E Q 0 0 Sh N G M 47 [some (.ref q), some (.int (nI k0)), some (.int (nI L)), some (.ref (w0 + 4 * k0)), some (.int (nI (blN R))), none, none, none] [] := by
      refine r_iload_n C 2 rfl rfl rfl ?_
      refine r_if_eq C 60 rfl (by decide) (fun z => absurd ((nI_eq (b := 0) (by omega) (by decide)).mp z) hL0) (fun _ => ?_)
      refine r_iload_n C 1 rfl rfl rfl ?_
      refine r_aload_n C 0 rfl rfl rfl rfl ?_
      refine r_getv C rfl f_X4_9 (by assumption) rfl ?_
      refine r_alen C rfl (by assumption) (by decide) ?_
      refine r_icmp_lt C 86 rfl (by decide) (fun _ => ?_) (fun z => absurd ((nI_ltI (by omega) (by omega)).mpr (by omega)) z)
      refine r_aload_n C 0 rfl rfl rfl rfl ?_
      refine r_getv C rfl f_X4_22 (by assumption) rfl ?_
      refine r_iload_n C 1 rfl rfl rfl ?_
      refine r_ic (v := nI 1) C rfl (by decide) ?_
      refine r_iadd C rfl ?_
      rw [nI_add]
      refine r_aald C rfl b0 (k0 + 1) rfl (by omega) (by decide) rfl ?_
      refine r_astore C rfl (by exact Nat.le_of_ble_eq_true rfl) rfl ?_
      refine r_ic (v := nI 0) C rfl (by decide) ?_
      refine r_istore C rfl (by exact Nat.le_of_ble_eq_true rfl) ?_
      exact loop 6 0 M st none (by omega) Fr.rfl (fun _ _ => rfl) hS hP hor
    refine r_icmp_eq C 47 rfl (by decide) (fun _ => go) (fun z => ?_)
    have z : st.1 ≠ 0 := fun e => z ((m1_ne (by have := hP.1; omega)).mpr e)
    refine r_iload C rfl rfl ?_
    refine r_aload_n C 0 rfl rfl rfl rfl ?_
    refine r_geti C rfl f_X4_30 (by assumption) rfl ?_
    rw [hS.1]
    refine r_icmp_lt C 47 rfl (by decide) (fun _ => go) (fun y => ?_)
    have y : ¬ blN R + 1 < st.1 := fun e => y ((m1_lt' (by have := hP.1; omega) (by omega)).mpr e)
    refine q_vret C hQ rfl rfl ⟨rfl, rfl, rfl, Fr.rfl, fun _ _ => rfl, ?_⟩
    rw [orF_cut hF hO (by omega) z y]
    exact hS
theorem o_least (hU : OA Sh N q t bw) (hBe : BA Sh N bw w0 yd) (hT : TA Sh N t yd) (hA : WA Sh N w yd) (hw : w + 4 ≤ t) (hd1 : t + 3 ≤ w0) (hq : w0 + 64 ≤ q) (hF : Y.Fine) {l0 : List Nat} {x : Int32} (L : Nat) (hx : x = nI L) (hL : L < 64) (hY : YC M yd Y) (hO : OK b R) (hb : b < 2 ^ 27) (a : Ag (wrow M w) R) (hK : KP M q l0) :
    Con E mX4_leastBulges 13 0 0 [.ref q, .ref w, .int x] Sh N G M (PR Sh N (fun z M' => z = some (.int (nI (orF Y (pcN L) L R [] (0, l0)).1 - nI 1)) ∧ Fr (fun c => (w0 ≤ c ∧ c < w0 + 64) ∨ TS t c ∨ (q ≤ c ∧ c < q + 3)) M M' ∧ KP M' q (orF Y (pcN L) L R [] (0, l0)).2)) nox := by
  subst hx
  obtain ⟨q0, q1, q2⟩ := id hU
  obtain ⟨b0, b1⟩ := id hBe
  have t3 := hT.2.2.2
  have wa := b1 0 (by omega)
  obtain ⟨x0, -, -, -, -, y0⟩ := id wa
  have p6 := pc_le (L := L)
  refine Con.ofQ (by decide +kernel) (by simp [Value.category]) (Nat.le_of_ble_eq_true rfl) (fun k C0 Q hQ => ?_)
  have C : CK k E mX4_leastBulges kdX4_leastBulges 13 0 0 := ⟨C0, kdX4_leastBulges_ok⟩
  refine r_aload_n C 0 rfl rfl rfl rfl ?_
  refine r_ic (v := (-1)) C rfl (by decide) ?_
  refine r_puti C rfl f_X4_30 (by assumption) rfl rfl rfl ?_
  obtain ⟨M1, hM1⟩ : ∃ M1, M1 = up M q 3 (-1) := ⟨_, rfl⟩
  rw [← hM1]
  have hFr1 : Fr (fun c => c = q) M M1 := fun c hc => by rw [hM1, up_row _ _ hc]
  have hK1 : KP M1 q l0 := by
    unfold KP
    rw [hM1, up_ne _ _ (by omega), up_row _ _ (by omega)]
    exact hK
  have eS : OS M1 q (0, l0) := ⟨by rw [hM1, up_same]; rfl, hK1⟩
  have a1 : Ag (wrow M1 w) R := by rw [hFr1.row _ (fun k h1 h2 z => by omega)]; exact a
  refine r_aload_n C 0 rfl rfl rfl rfl ?_
  refine r_getv C rfl f_X4_22 (by assumption) rfl ?_
  refine r_ic (v := nI 0) C rfl (by decide) ?_
  refine r_aald C rfl b0 (0) rfl (by omega) (by decide) rfl ?_
  refine r_aload_n C 1 rfl rfl rfl rfl ?_
  refine v1_g C rfl mfX8_become lk_X4_33 (by assumption) (p_become wa hA (by omega) hO a1) ?_
  rintro z M2 ⟨rfl, a2, hFr2⟩
  have hFr3 : Fr (fun c => (w0 ≤ c ∧ c < w0 + 64) ∨ TS t c ∨ (q ≤ c ∧ c < q + 3)) M M2 := hFr1.trans hFr2 (fun c z => by omega) (fun c z => by simp only [WS] at z; omega)
  have hY2 : YC M2 yd Y := hY.cong (hFr3 _ (by simp only [TS]; omega)) (hFr3 _ (by simp only [TS]; omega))
  have eS2 : OS M2 q (0, l0) := eS.cong (hFr2 _ (by simp only [WS]; omega)) (hFr2 _ (by simp only [WS]; omega))
  refine r_aload_n C 0 rfl rfl rfl rfl ?_
  refine r_ic (v := nI 0) C rfl (by decide) ?_
  refine r_iload_n C 2 rfl rfl rfl ?_
  refine v2_g C rfl mfX4_seek lk_X4_39 (by assumption) (o_seek hU hBe hT hd1 hq hF (T := pcN L) (l0 := l0) p6 (pcN L) 0 L M2 R b [] (0, l0) (by omega) hL rfl rfl (fun i hi => absurd hi (Nat.not_lt_zero i)) eS2 ⟨by show 0 ≤ 121; omega, fun _ => rfl, fun z => absurd rfl z⟩ hY2 hO (by omega) a2) ?_
  rintro z M3 ⟨rfl, hFr4, -, hS3⟩
  refine r_aload_n C 0 rfl rfl rfl rfl ?_
  refine r_geti C rfl f_X4_30 (by assumption) rfl ?_
  exact q_iret C hQ rfl rfl rfl ⟨rfl, rfl, by rw [hS3.1], hFr3.trans hFr4 (fun _ z => z) (fun c z => by simp only [VS, TS] at z ⊢; omega), hS3.2⟩
end ORDER
