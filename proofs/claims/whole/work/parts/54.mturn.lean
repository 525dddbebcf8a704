section MTURN
variable {E : VE} {Sh : Nat → SE} {N : Nat} {G : Bool} {M : MM} {o r w v yd yv t b w0 fo p bw q : Nat} {R : Row} {Y : YD} {A B : Row}
/-- the row with the number j of f weeks more -/
def tuE (Y : YD) : Nat → Nat → Nat → Nat → Row → Row → Nat → Nat × Nat
  | 0, _, n, r, _, _, _ => (n, r)
  | f + 1, k, n, r, A, B, j => tuE Y f (k + 1) (n + tuUp Y (j / 2 ^ f) A B) (r + j / 2 ^ f * 2 ^ k) (tuA Y (j / 2 ^ f) A B) (tuB Y (j / 2 ^ f) A B) (j % 2 ^ f)
/-- the best of the first m -/
def tuX (g : Nat → Nat × Nat) : Nat → Nat × Nat → Nat × Nat
  | 0, st => st
  | m + 1, st => if (tuX g m st).1 < (g m).1 + 1 then ((g m).1 + 1, (g m).2) else tuX g m st
theorem tuX_add (g : Nat → Nat × Nat) (a : Nat) (st : Nat × Nat) : ∀ c, tuX g (a + c) st = tuX (fun j => g (a + j)) c (tuX g a st)
  | 0 => rfl
  | c + 1 => by rw [← Nat.add_assoc, tuX, tuX, tuX_add g a st c]
theorem tuX_cong {g g' : Nat → Nat × Nat} (st : Nat × Nat) : ∀ {m : Nat}, (∀ j, j < m → g j = g' j) → tuX g m st = tuX g' m st
  | 0, _ => rfl
  | m + 1, h => by rw [tuX, tuX, tuX_cong st (fun j hj => h j (by omega)), h m (by omega)]
theorem tuF_X (Y : YD) : ∀ (f k n r : Nat) (A B : Row) (st : Nat × Nat), tuF Y f k n r A B st = tuX (tuE Y f k n r A B) (2 ^ f) st
  | 0, k, n, r, A, B, st => rfl
  | f + 1, k, n, r, A, B, st => by
    have hp : 0 < 2 ^ f := Nat.pow_pos (by decide)
    rw [show 2 ^ (f + 1) = 2 ^ f + 2 ^ f by rw [Nat.pow_succ]; omega, tuX_add, tuF, tuF_X Y f, tuF_X Y f]
    have e1 : tuX (tuE Y (f + 1) k n r A B) (2 ^ f) st = tuX (tuE Y f (k + 1) (n + tuUp Y 0 A B) (r + 0 * 2 ^ k) (tuA Y 0 A B) (tuB Y 0 A B)) (2 ^ f) st := tuX_cong st (fun j hj => by
      rw [tuE, Nat.div_eq_of_lt hj, Nat.mod_eq_of_lt hj])
    rw [e1]
    refine (tuX_cong _ (fun j hj => ?_)).symm
    show tuE Y (f + 1) k n r A B (2 ^ f + j) = _
    rw [tuE, Nat.add_div_left _ hp, Nat.div_eq_of_lt hj, Nat.add_mod_left, Nat.mod_eq_of_lt hj]
/-- a sum of bits -/
def bsum (s : Nat → Nat) : Nat → Nat
  | 0 => 0
  | m + 1 => bsum s m + s m * 2 ^ m
theorem bsum_lt {s : Nat → Nat} (hs : ∀ i, s i < 2) : ∀ m, bsum s m < 2 ^ m
  | 0 => by rw [bsum]; decide
  | m + 1 => by
    have h := bsum_lt hs m
    have : s m * 2 ^ m ≤ 1 * 2 ^ m := Nat.mul_le_mul_right _ (by have := hs m; omega)
    rw [bsum, Nat.pow_succ]
    omega
theorem bsum_bit {s : Nat → Nat} (hs : ∀ i, s i < 2) : ∀ {m k : Nat}, k < m → bsum s m / 2 ^ k % 2 = s k
  | 0, k, h => by omega
  | m + 1, k, h => by
    have hp : 0 < 2 ^ k := Nat.pow_pos (by decide)
    rw [bsum]
    by_cases e : k = m
    · subst e
      rw [Nat.add_mul_div_right _ _ hp, Nat.div_eq_of_lt (bsum_lt hs k), Nat.zero_add, Nat.mod_eq_of_lt (hs k)]
    · have e2 : s m * 2 ^ m = (s m * 2 ^ (m - k - 1) * 2) * 2 ^ k := by
        rw [Nat.mul_assoc, Nat.mul_assoc, ← Nat.pow_succ', ← Nat.pow_add, show m - k - 1 + (k + 1) = m by omega]
      rw [e2, Nat.add_mul_div_right _ _ hp, Nat.add_mul_mod_self_right]
      exact bsum_bit hs (by omega)
theorem tu_s (j : Nat) (f : Nat) : j % 2 ^ (f + 1) / 2 ^ f = j / 2 ^ f % 2 := by
  rw [Nat.pow_succ, Nat.mod_mul_right_div_self]
theorem tu_m (j : Nat) (f : Nat) : j % 2 ^ (f + 1) % 2 ^ f = j % 2 ^ f := Nat.mod_mod_of_dvd _ (Nat.pow_dvd_pow 2 (Nat.le_succ f))
theorem tuE_b (Y : YD) : ∀ {f k n r : Nat} {A B : Row} {j : Nat}, n + 3 * f ≤ 24 → r < 2 ^ k → k + f ≤ 8 → j < 2 ^ f → (tuE Y f k n r A B j).1 ≤ 24 ∧ (tuE Y f k n r A B j).2 < 2 ^ 8
  | 0, k, n, r, A, B, j, h1, h2, h3, h4 => ⟨by rw [tuE]; show n ≤ 24; omega, by rw [tuE]; exact Nat.lt_of_lt_of_le h2 (Nat.pow_le_pow_right (by decide) (by omega))⟩
  | f + 1, k, n, r, A, B, j, h1, h2, h3, h4 => by
    have hp : 0 < 2 ^ f := Nat.pow_pos (by decide)
    have u := tuUp_le Y (j / 2 ^ f) A B
    have hj : j / 2 ^ f < 2 := by rw [Nat.div_lt_iff_lt_mul hp]; rw [Nat.pow_succ] at h4; omega
    have : j / 2 ^ f * 2 ^ k ≤ 1 * 2 ^ k := Nat.mul_le_mul_right _ (by omega)
    rw [tuE]
    exact tuE_b Y (by omega) (by rw [Nat.pow_succ]; omega) (by omega) (Nat.mod_lt _ hp)
/-- what 'turned' answers -/
def turnA (Y : YD) (wn : Nat) (Rw : Nat → Row) (x y n z : Int32) : Nat × Int32 :=
  if isW x wn = false ∨ isW y wn = false ∨ x = y ∨ inI z 0 (nI 1) = false then (1, 0) else if inI n (nI 1) (nI 8) = false then (2, 0) else
    (0, if z = 0 then nI (tuF Y n.toNatClampNeg 0 0 0 (Rw x.toNatClampNeg) (Rw y.toNatClampNeg) (0, 0)).1 - nI 1 else nI (tuF Y n.toNatClampNeg 0 0 0 (Rw x.toNatClampNeg) (Rw y.toNatClampNeg) (0, 0)).2)
theorem m_turned (hM : MO Sh N o) {wn : Nat} (hwn : M o 4 = nI wn) (hw4 : wn ≤ 4) (hY : YR M o Y) (hF : Y.Fine) {Rw : Nat → Row} (hO : ∀ i, i < wn → OK b (Rw i)) (hb : b < 2 ^ 26) (a : ∀ i, i < wn → Ag (mrow M o i) (Rw i)) (x y n z : Int32) :
    Con E mX12_turned 8 0 0 [.ref o, .int x, .int y, .int n, .int z] Sh N G M (PR Sh N (fun v M' => v = some (.int (turnA Y wn Rw x y n z).2) ∧ FrR o (SB o) (fun r => 12 ≤ r ∧ r < 32) (up M o 0 (nI (turnA Y wn Rw x y n z).1)) M')) nox := by
  have h0 := hM.1
  refine Con.ofQ (by decide +kernel) (by simp [Value.category]) (Nat.le_of_ble_eq_true rfl) (fun k C0 Q hQ => ?_)
  have C : CK k E mX12_turned kdX12_turned 8 0 0 := ⟨C0, kdX12_turned_ok⟩
  have bad : (isW x wn = false ∨ isW y wn = false ∨ x = y ∨ inI z 0 (nI 1) = false) → PT k E Q 0 0 Sh N G (up M o 0 (nI 0)) 37 [some (.ref o), some (.int x), some (.int y), some (.int n), some (.int z), none, none, none, none, none, none, none, none] [] := by
    intro h
    have e : turnA Y wn Rw x y n z = (1, 0) := by rw [turnA, if_pos h]
    refine r_aload_n C 0 rfl rfl rfl rfl ?_
    refine r_ic (v := nI 1) C rfl (by decide) ?_
    refine v1_r C rfl mfX12_fail lk_X12_208 (by assumption) (c_fail hM (nI 1)) ?_
    rw [up_up]
    exact q_iret C hQ rfl rfl rfl ⟨rfl, rfl, by rw [e]; rfl, by rw [e]; exact FrR.rfl⟩
  refine r_aload_n C 0 rfl rfl rfl rfl ?_
  refine r_ic (v := nI 0) C rfl (by decide) ?_
  refine r_puti C rfl f_X12_90 (by assumption) rfl rfl rfl ?_
  refine r_aload_n C 0 rfl rfl rfl rfl ?_
  refine r_iload_n C 1 rfl rfl rfl ?_
  refine v1_r C rfl mfX12_isWall lk_X12_244 (by assumption) (c_isWall hM (by rw [up_ne _ _ (by omega)]; exact hwn) x) ?_
  refine r_if_eq C 37 rfl (by decide) (fun h => bad (Or.inl (bI_0 h))) (fun hx => ?_)
  have hx := bI_1 hx
  refine r_aload_n C 0 rfl rfl rfl rfl ?_
  refine r_iload_n C 2 rfl rfl rfl ?_
  refine v1_r C rfl mfX12_isWall lk_X12_244 (by assumption) (c_isWall hM (by rw [up_ne _ _ (by omega)]; exact hwn) y) ?_
  refine r_if_eq C 37 rfl (by decide) (fun h => bad (Or.inr (Or.inl (bI_0 h)))) (fun hy => ?_)
  have hy := bI_1 hy
  refine r_iload_n C 1 rfl rfl rfl ?_
  refine r_iload_n C 2 rfl rfl rfl ?_
  refine r_icmp_eq C 37 rfl (by decide) (fun h => bad (Or.inr (Or.inr (Or.inl h)))) (fun hxy => ?_)
  refine r_iload C rfl rfl ?_
  refine r_if_lt C 37 rfl (by decide) (fun h => bad (Or.inr (Or.inr (Or.inr (decide_eq_false (fun q => Int32.not_lt.mpr q.1 h)))))) (fun hz0 => ?_)
  refine r_iload C rfl rfl ?_
  refine r_ic (v := nI 1) C rfl (by decide) ?_
  refine r_icmp_le C 43 rfl (by decide) (fun hz1 => ?_) (fun h => bad (Or.inr (Or.inr (Or.inr (decide_eq_false (fun q => h q.2))))))
  have hz : inI z 0 (nI 1) = true := decide_eq_true ⟨Int32.not_lt.mp hz0, hz1⟩
  obtain ⟨w, hw, rfl⟩ := (isW_iff (by omega)).mp hx
  obtain ⟨v, hv, rfl⟩ := (isW_iff (by omega)).mp hy
  have hneg : ¬ (isW (nI w) wn = false ∨ isW (nI v) wn = false ∨ nI w = nI v ∨ inI z 0 (nI 1) = false) := by
    rintro (q | q | q | q)
    · rw [hx] at q; cases q
    · rw [hy] at q; cases q
    · exact hxy q
    · rw [hz] at q; cases q
  refine r_iload_n C 3 rfl rfl rfl ?_
  refine r_ic (v := nI 1) C rfl (by decide) ?_
  refine r_bi (v := nI 8) C rfl (by decide) ?_
  refine s3_r C rfl mfX12_isIn lk_X12_96 (c_X12_isIn n (nI 1) (nI 8)) ?_
  rw [inI_if]
  refine r_if_ne C 59 rfl (by decide) (fun h2 => ?_) (fun h2 => ?_)
  rotate_left
  · have h2 := bI_0 h2
    have e : turnA Y wn Rw (nI w) (nI v) n z = (2, 0) := by rw [turnA, if_neg hneg, if_pos h2]
    refine r_aload_n C 0 rfl rfl rfl rfl ?_
    refine r_ic (v := nI 2) C rfl (by decide) ?_
    refine v1_r C rfl mfX12_fail lk_X12_208 (by assumption) (c_fail hM (nI 2)) ?_
    rw [up_up]
    exact q_iret C hQ rfl rfl rfl ⟨rfl, rfl, by rw [e]; rfl, by rw [e]; exact FrR.rfl⟩
  have h2 := bI_1 h2
  obtain ⟨n, hn1, hn8, rfl⟩ := (inI_iff (by decide) (by decide)).mp h2
  have e : turnA Y wn Rw (nI w) (nI v) (nI n) z = (0, if z = 0 then nI (tuF Y n 0 0 0 (Rw w) (Rw v) (0, 0)).1 - nI 1 else nI (tuF Y n 0 0 0 (Rw w) (Rw v) (0, 0)).2) := by
    rw [turnA, if_neg hneg, if_neg (by rw [h2]; decide), nI_clamp (by omega), nI_clamp (by omega), nI_clamp (by omega)]
  rw [e, tuF_X] at hQ
  obtain ⟨M0, hM0⟩ : ∃ M0, M0 = up M o 0 (nI 0) := ⟨_, rfl⟩
  rw [← hM0]
  obtain ⟨g, hg⟩ : ∃ g, g = tuE Y n 0 0 0 (Rw w) (Rw v) := ⟨_, rfl⟩
  rw [← hg] at hQ
  have hQ : Q = QM k E 0 0 Sh N G M (PR Sh N (fun v M' => v = some (.int (if z = 0 then nI (tuX g (2 ^ n) (0, 0)).1 - nI 1 else nI (tuX g (2 ^ n) (0, 0)).2)) ∧ FrR o (SB o) (fun r => 12 ≤ r ∧ r < 32) M0 M')) nox := by rw [hM0]; exact hQ
  have a0 : ∀ i, i < wn → Ag (mrow M0 o i) (Rw i) := fun i hi => by rw [hM0, up_ne_row]; exact a i hi
  have hY0 : YR M0 o Y := by rw [hM0]; exact hY.up _ _
  have hp8 : 2 ^ n ≤ 2 ^ 8 := Nat.pow_le_pow_right (by decide) hn8
  have gb : ∀ j, j < 2 ^ n → (g j).1 ≤ 24 ∧ (g j).2 < 2 ^ 8 := fun j hj => by rw [hg]; exact tuE_b Y (by omega) (by decide) (by omega) hj
  have xb : ∀ j, j ≤ 2 ^ n → (tuX g j (0, 0)).1 ≤ 25 ∧ (tuX g j (0, 0)).2 < 2 ^ 8 := by
    intro j
    induction j with
    | zero => intro _; exact ⟨by show 0 ≤ 25; omega, by show 0 < 2 ^ 8; decide⟩
    | succ j ih =>
      intro hj
      have i1 := ih (by omega)
      have i2 := gb j (by omega)
      rw [tuX]
      split
      · exact ⟨by show (g j).1 + 1 ≤ 25; omega, i2.2⟩
      · exact i1
  have big : ∀ (m j : Nat) (M1 : MM), j + m = 2 ^ n → FrR o (SB o) (fun r => 12 ≤ r ∧ r < 32) M0 M1 → ∀ v8 v9 v10 v11 v12, PT k E Q 0 0 Sh N G M1 68 [some (.ref o), some (.int (nI w)), some (.int (nI v)), some (.int (nI n)), some (.int z), some (.int (nI (tuX g j (0, 0)).2)), some (.int (nI (tuX g j (0, 0)).1 - nI 1)), some (.int (nI j)), v8, v9, v10, v11, v12] [] := by
    intro m
    induction m with
    | zero =>
      intro j M1 hj hFr v8 v9 v10 v11 v12
      refine r_iload C rfl rfl ?_
      refine r_ic (v := nI 1) C rfl (by decide) ?_
      refine r_iload_n C 3 rfl rfl rfl ?_
      refine r_ishl C rfl ?_
      rw [nx_shl (by omega) (by omega), Nat.one_mul]
      refine r_icmp_ge C 220 rfl (by decide) (fun _ => ?_) (fun q => absurd ((nI_leI (by omega) (by omega)).mpr (by omega)) q)
      rw [show j = 2 ^ n by omega]
      refine r_iload C rfl rfl ?_
      refine r_if_ne C 230 rfl (by decide) (fun hz => ?_) (fun hz => ?_)
      · refine r_iload C rfl rfl ?_
        exact q_iret C hQ rfl rfl rfl ⟨rfl, rfl, by rw [if_neg hz], hFr⟩
      · refine r_iload C rfl rfl ?_
        refine r_goto C 232 rfl (by decide) ?_
        exact q_iret C hQ rfl rfl rfl ⟨rfl, rfl, by rw [if_pos hz], hFr⟩
    | succ m ih =>
      intro j M1 hj hFr v8 v9 v10 v11 v12
      have hj8 : j < 2 ^ 8 := by omega
      have xj := xb j (by omega)
      have gj := gb j (by omega)
      obtain ⟨s, hs⟩ : ∃ s : Nat → Nat, s = fun i => j / 2 ^ (n - 1 - i) % 2 := ⟨_, rfl⟩
      have hs2 : ∀ i, s i < 2 := fun i => by rw [hs]; exact Nat.mod_lt _ (by decide)
      have bs := bsum_lt hs2
      refine r_iload C rfl rfl ?_
      refine r_ic (v := nI 1) C rfl (by decide) ?_
      refine r_iload_n C 3 rfl rfl rfl ?_
      refine r_ishl C rfl ?_
      rw [nx_shl (by omega) (by omega), Nat.one_mul]
      refine r_icmp_ge C 220 rfl (by decide) (fun q => absurd (le_nI (by omega) (by omega) q) (by omega)) (fun _ => ?_)
      have second : ∀ v9 v10 v11 v12, PT k E Q 0 0 Sh N G M1 113 [some (.ref o), some (.int (nI w)), some (.int (nI v)), some (.int (nI n)), some (.int z), some (.int (nI (tuX g j (0, 0)).2)), some (.int (nI (tuX g j (0, 0)).1 - nI 1)), some (.int (nI j)), some (.int (nI (bsum s n))), v9, v10, v11, v12] [] := by
        intro v9 v10 v11 v12
        have aw : Ag (mrow M1 o w) (Rw w) := hFr.row (by omega) (by omega) (a0 w hw) (hO w hw).mn
        refine r_aload_n C 0 rfl rfl rfl rfl ?_
        refine r_iload_n C 1 rfl rfl rfl ?_
        refine r_bi (v := nI 12) C rfl (by decide) ?_
        refine v2_g C rfl mfX12_copy lk_X12_215 (by assumption) (m_copy hM w 12 rfl rfl (by omega) (by decide) (hO w hw).mn aw) ?_
        rintro z1 M2 ⟨rfl, a2, hFr2⟩
        have hFr3 : FrR o (SB o) (fun r => 12 ≤ r ∧ r < 32) M0 M2 := hFr.trans hFr2 (fun _ q => q) (fun _ q => q.elim) (fun _ q => q) (fun _ q => by omega)
        have av : Ag (mrow M2 o v) (Rw v) := hFr3.row (by omega) (by omega) (a0 v hv) (hO v hv).mn
        refine r_aload_n C 0 rfl rfl rfl rfl ?_
        refine r_iload_n C 2 rfl rfl rfl ?_
        refine r_bi (v := nI 13) C rfl (by decide) ?_
        refine v2_g C rfl mfX12_copy lk_X12_215 (by assumption) (m_copy hM v 13 rfl rfl (by omega) (by decide) (hO v hv).mn av) ?_
        rintro z1 M3 ⟨rfl, c3, hFr4⟩
        have hFr5 : FrR o (SB o) (fun r => 12 ≤ r ∧ r < 32) M0 M3 := hFr3.trans hFr4 (fun _ q => q) (fun _ q => q.elim) (fun _ q => q) (fun _ q => by omega)
        have a3 : Ag (mrow M3 o 12) (Rw w) := hFr4.row (by decide) (by decide) a2 (hO w hw).mn
        have wl : ∀ (f k0 n0 : Nat) (M4 : MM) (A B : Row) (v11 v12 : Option Value), k0 + f = n → FrR o (SB o) (fun r => 12 ≤ r ∧ r < 32) M0 M4 → OK (b + k0) A → OK (b + k0) B → Ag (mrow M4 o 12) A → Ag (mrow M4 o 13) B → n0 ≤ 3 * k0 → g j = tuE Y f k0 n0 (bsum s k0) A B (j % 2 ^ f) → PT k E Q 0 0 Sh N G M4 133 [some (.ref o), some (.int (nI w)), some (.int (nI v)), some (.int (nI n)), some (.int z), some (.int (nI (tuX g j (0, 0)).2)), some (.int (nI (tuX g j (0, 0)).1 - nI 1)), some (.int (nI j)), some (.int (nI (bsum s n))), some (.int (nI n0)), some (.int (nI k0)), v11, v12] [] := by
          intro f
          induction f with
          | zero =>
            intro k0 n0 M4 A B v11 v12 hk hFr6 oA oB a4 c4 hn0 he
            refine r_iload C rfl rfl ?_
            refine r_iload_n C 3 rfl rfl rfl ?_
            refine r_icmp_ge C 196 rfl (by decide) (fun _ => ?_) (fun q => absurd ((nI_leI (by omega) (by omega)).mpr (by omega)) q)
            have ek : k0 = n := by omega
            rw [tuE, ek] at he
            have e1 : (g j).1 = n0 := by rw [he]
            have e2 : (g j).2 = bsum s n := by rw [he]
            refine r_iload C rfl rfl ?_
            refine r_iload C rfl rfl ?_
            refine r_icmp_gt C 206 rfl (by decide) (fun q => ?_) (fun q => ?_)
            · have q := (m1_lt (by omega) (by omega)).mp q
              have ex : tuX g (j + 1) (0, 0) = (n0 + 1, bsum s n) := by rw [tuX, e1, e2, if_pos q]
              refine r_iload C rfl rfl ?_
              refine r_istore C rfl (by exact Nat.le_of_ble_eq_true rfl) ?_
              refine r_iload C rfl rfl ?_
              refine r_istore C rfl (by exact Nat.le_of_ble_eq_true rfl) ?_
              refine r_iinc (c := nI 1) C rfl rfl (by decide) ?_
              refine r_goto C 68 rfl (by decide) ?_
              refine r_eqL ?_ (ih (j + 1) M4 (by omega) hFr6 (some (.int (nI (bsum s n)))) (some (.int (nI n0))) (some (.int (nI k0))) v11 v12)
              rw [ex, show nI (n0 + 1, bsum s n).1 - nI 1 = nI n0 from by rw [pk_sub (by simp)]; rfl, ← nI_add]
              rfl
            · have q : ¬ (tuX g j (0, 0)).1 < n0 + 1 := fun z => q ((m1_lt (by omega) (by omega)).mpr z)
              have ex : tuX g (j + 1) (0, 0) = tuX g j (0, 0) := by rw [tuX, e1, e2, if_neg q]
              refine r_goto C 214 rfl (by decide) ?_
              refine r_iinc (c := nI 1) C rfl rfl (by decide) ?_
              refine r_goto C 68 rfl (by decide) ?_
              refine r_eqL ?_ (ih (j + 1) M4 (by omega) hFr6 (some (.int (nI (bsum s n)))) (some (.int (nI n0))) (some (.int (nI k0))) v11 v12)
              rw [ex, ← nI_add]
              rfl
          | succ f ihf =>
            intro k0 n0 M4 A B v11 v12 hk hFr6 oA oB a4 c4 hn0 he
            have hsk : bsum s n / 2 ^ k0 % 2 = s k0 := bsum_bit hs2 (by omega)
            have hsj : j % 2 ^ (f + 1) / 2 ^ f = s k0 := by rw [tu_s, hs]; show _ = j / 2 ^ (n - 1 - k0) % 2; rw [show n - 1 - k0 = f by omega]
            have he2 : g j = tuE Y f (k0 + 1) (n0 + tuUp Y (s k0) A B) (bsum s (k0 + 1)) (tuA Y (s k0) A B) (tuB Y (s k0) A B) (j % 2 ^ f) := by
              rw [he, tuE, hsj, tu_m, bsum]
            have hsk2 := hs2 k0
            generalize s k0 = sk at hsk he2 hsk2
            have ub := tuUp_le Y sk A B
            obtain ⟨h24, o1, o2⟩ := tu_ok hF oA oB (by omega) sk
            have hi9 := (hiY_le Y (if sk = 0 then A else B)).1
            have hY4 : YR M4 o Y := hY0.fr hFr6 (fun k q z => by simp only [SB] at z; omega)
            have bn : bsum s n < 2 ^ 8 := Nat.lt_of_lt_of_le (bs n) hp8
            refine r_iload C rfl rfl ?_
            refine r_iload_n C 3 rfl rfl rfl ?_
            refine r_icmp_ge C 196 rfl (by decide) (fun q => absurd (le_nI (by omega) (by omega) q) (by omega)) (fun _ => ?_)
            refine r_bi (v := nI 12) C rfl (by decide) ?_
            refine r_iload C rfl rfl ?_
            refine r_iload C rfl rfl ?_
            refine r_ishr C rfl ?_
            rw [nx_shr (by omega) (by omega)]
            refine r_ic (v := nI 1) C rfl (by decide) ?_
            refine r_iand C rfl ?_
            rw [pk_andN (by have := Nat.div_le_self (bsum s n) (2 ^ k0); omega) 1 (by decide), hsk]
            refine r_iadd C rfl ?_
            rw [nI_add]
            have tail : ∀ (M5 : MM) (A1 B1 : Row), FrR o (SB o) (fun r => 12 ≤ r ∧ r < 32) M0 M5 → OK (b + k0) A1 → OK (b + k0) B1 → Ag (mrow M5 o 12) A1 → Ag (mrow M5 o 13) B1 → wkR Y A1 = tuA Y sk A B → wkR Y B1 = tuB Y sk A B → PT k E Q 0 0 Sh N G M5 171 [some (.ref o), some (.int (nI w)), some (.int (nI v)), some (.int (nI n)), some (.int z), some (.int (nI (tuX g j (0, 0)).2)), some (.int (nI (tuX g j (0, 0)).1 - nI 1)), some (.int (nI j)), some (.int (nI (bsum s n))), some (.int (nI n0)), some (.int (nI k0)), some (.int (nI (12 + sk))), some (.int (nI (tuUp Y sk A B)))] [] := by
              intro M5 A1 B1 hFr7 oA1 oB1 a5 c5 eA eB
              have hY5 : YR M5 o Y := hY0.fr hFr7 (fun k q z => by simp only [SB] at z; omega)
              refine r_iload C rfl rfl ?_
              refine r_iload C rfl rfl ?_
              refine r_iadd C rfl ?_
              rw [nI_add]
              refine r_istore C rfl (by exact Nat.le_of_ble_eq_true rfl) ?_
              refine r_aload_n C 0 rfl rfl rfl rfl ?_
              refine r_bi (v := nI 12) C rfl (by decide) ?_
              refine v1_g C rfl mfX12_week lk_X12_317 (by assumption) (m_week hM rfl (by decide) hY5 hF oA1 (by omega) a5) ?_
              rintro z1 M6 ⟨rfl, a6, hFr8⟩
              have hFr9 : FrR o (SB o) (fun r => 12 ≤ r ∧ r < 32) M0 M6 := hFr7.trans hFr8 (fun _ q => q) (fun _ q => q) (fun _ q => q) (fun _ q => by omega)
              have hY6 : YR M6 o Y := hY0.fr hFr9 (fun k q z => by simp only [SB] at z; omega)
              have c6 : Ag (mrow M6 o 13) B1 := hFr8.row (by decide) (by decide) c5 oB1.mn
              refine r_aload_n C 0 rfl rfl rfl rfl ?_
              refine r_bi (v := nI 13) C rfl (by decide) ?_
              refine v1_g C rfl mfX12_week lk_X12_317 (by assumption) (m_week hM rfl (by decide) hY6 hF oB1 (by omega) c6) ?_
              rintro z1 M7 ⟨rfl, c7, hFrA⟩
              have hFrB : FrR o (SB o) (fun r => 12 ≤ r ∧ r < 32) M0 M7 := hFr9.trans hFrA (fun _ q => q) (fun _ q => q) (fun _ q => q) (fun _ q => by omega)
              have a7 : Ag (mrow M7 o 12) (wkR Y A1) := hFrA.row (by decide) (by decide) a6 (ok_wk hF oA1 (by omega)).mn
              rw [eA] at a7
              rw [eB] at c7
              refine r_iinc (c := nI 1) C rfl rfl (by decide) ?_
              refine r_goto C 133 rfl (by decide) ?_
              refine r_eqL ?_ (ihf (k0 + 1) (n0 + tuUp Y sk A B) M7 (tuA Y sk A B) (tuB Y sk A B) (some (.int (nI (12 + sk)))) (some (.int (nI (tuUp Y sk A B)))) (by omega) hFrB o1 o2 a7 c7 (by omega) he2)
              rw [← nI_add k0 1]
              rfl
            rcases (show sk = 0 ∨ sk = 1 by omega) with e | e
            · subst e
              have h24 : mno A + tuUp Y 0 A B ≤ 24 := h24
              refine r_istore C rfl (by exact Nat.le_of_ble_eq_true rfl) ?_
              refine r_ic (v := nI 3) C rfl (by decide) ?_
              refine r_aload_n C 0 rfl rfl rfl rfl ?_
              refine r_iload C rfl rfl ?_
              refine v1_g C rfl mfX12_highOf lk_X12_322 (by assumption) (m_high hM rfl (by decide) hY4 oA a4) ?_
              rintro z1 M5 ⟨rfl, hFr7⟩
              refine r_min C rfl lk_X12_130 ?_
              rw [show (if nI (hiY Y A) < nI 3 then nI (hiY Y A) else nI 3) = nI (tuUp Y 0 A B) from min3 _ hi9]
              have hFr8 : FrR o (SB o) (fun r => 12 ≤ r ∧ r < 32) M0 M5 := hFr6.trans hFr7 (fun _ q => q) (fun _ q => q.elim) (fun _ q => q) (fun _ q => by omega)
              have a5 : Ag (mrow M5 o 12) A := hFr7.row (by decide) (by decide) a4 oA.mn
              have c5 : Ag (mrow M5 o 13) B := hFr7.row (by decide) (by decide) c4 oB.mn
              refine r_istore C rfl (by exact Nat.le_of_ble_eq_true rfl) ?_
              refine r_aload_n C 0 rfl rfl rfl rfl ?_
              refine r_iload C rfl rfl ?_
              refine r_iload C rfl rfl ?_
              refine v2_g C rfl mfX12_raise lk_X12_282 (by assumption) (m_raise hM (tuUp Y 0 A B) rfl rfl (by decide) oA h24 a5) ?_
              rintro z1 M6 ⟨rfl, a6, hFr9⟩
              exact tail M6 (rsR (tuUp Y 0 A B) A) B (hFr8.trans hFr9 (fun _ q => q) (fun _ q => q.elim) (fun _ q => q) (fun _ q => by omega)) (ok_rs oA h24) oB a6 (hFr9.row (by decide) (by decide) c5 oB.mn) rfl rfl
            · subst e
              have h24 : mno B + tuUp Y 1 A B ≤ 24 := h24
              refine r_istore C rfl (by exact Nat.le_of_ble_eq_true rfl) ?_
              refine r_ic (v := nI 3) C rfl (by decide) ?_
              refine r_aload_n C 0 rfl rfl rfl rfl ?_
              refine r_iload C rfl rfl ?_
              refine v1_g C rfl mfX12_highOf lk_X12_322 (by assumption) (m_high hM rfl (by decide) hY4 oB c4) ?_
              rintro z1 M5 ⟨rfl, hFr7⟩
              refine r_min C rfl lk_X12_130 ?_
              rw [show (if nI (hiY Y B) < nI 3 then nI (hiY Y B) else nI 3) = nI (tuUp Y 1 A B) from min3 _ hi9]
              have hFr8 : FrR o (SB o) (fun r => 12 ≤ r ∧ r < 32) M0 M5 := hFr6.trans hFr7 (fun _ q => q) (fun _ q => q.elim) (fun _ q => q) (fun _ q => by omega)
              have a5 : Ag (mrow M5 o 12) A := hFr7.row (by decide) (by decide) a4 oA.mn
              have c5 : Ag (mrow M5 o 13) B := hFr7.row (by decide) (by decide) c4 oB.mn
              refine r_istore C rfl (by exact Nat.le_of_ble_eq_true rfl) ?_
              refine r_aload_n C 0 rfl rfl rfl rfl ?_
              refine r_iload C rfl rfl ?_
              refine r_iload C rfl rfl ?_
              refine v2_g C rfl mfX12_raise lk_X12_282 (by assumption) (m_raise hM (tuUp Y 1 A B) rfl rfl (by decide) oB h24 c5) ?_
              rintro z1 M6 ⟨rfl, a6, hFr9⟩
              exact tail M6 A (rsR (tuUp Y 1 A B) B) (hFr8.trans hFr9 (fun _ q => q) (fun _ q => q.elim) (fun _ q => q) (fun _ q => by omega)) oA (ok_rs oB h24) (hFr9.row (by decide) (by decide) a5 oA.mn) a6 rfl rfl
        refine r_ic (v := nI 0) C rfl (by decide) ?_
        refine r_istore C rfl (by exact Nat.le_of_ble_eq_true rfl) ?_
        refine r_ic (v := nI 0) C rfl (by decide) ?_
        refine r_istore C rfl (by exact Nat.le_of_ble_eq_true rfl) ?_
        exact wl n 0 0 M3 (Rw w) (Rw v) _ _ (by omega) hFr5 (hO w hw) (hO v hv) a3 c3 (by omega) (by rw [hg, Nat.mod_eq_of_lt (show j < 2 ^ n by omega)]; rfl)
      have first : ∀ (m i : Nat), i + m = n → PT k E Q 0 0 Sh N G M1 82 [some (.ref o), some (.int (nI w)), some (.int (nI v)), some (.int (nI n)), some (.int z), some (.int (nI (tuX g j (0, 0)).2)), some (.int (nI (tuX g j (0, 0)).1 - nI 1)), some (.int (nI j)), some (.int (nI (bsum s i))), some (.int (nI i)), v10, v11, v12] [] := by
        intro m
        induction m with
        | zero =>
          intro i hi
          refine r_iload C rfl rfl ?_
          refine r_iload_n C 3 rfl rfl rfl ?_
          refine r_icmp_ge C 113 rfl (by decide) (fun _ => ?_) (fun q => absurd ((nI_leI (by omega) (by omega)).mpr (by omega)) q)
          rw [show i = n by omega]
          exact second _ _ _ _
        | succ m ihm =>
          intro i hi
          refine r_iload C rfl rfl ?_
          refine r_iload_n C 3 rfl rfl rfl ?_
          refine r_icmp_ge C 113 rfl (by decide) (fun q => absurd (le_nI (by omega) (by omega) q) (by omega)) (fun _ => ?_)
          refine r_iload C rfl rfl ?_
          refine r_iload C rfl rfl ?_
          refine r_iload_n C 3 rfl rfl rfl ?_
          refine r_ic (v := nI 1) C rfl (by decide) ?_
          refine r_isub C rfl ?_
          rw [pk_sub (a := n) (b := 1) (by omega)]
          refine r_iload C rfl rfl ?_
          refine r_isub C rfl ?_
          rw [pk_sub (a := n - 1) (b := i) (by omega)]
          refine r_ishr C rfl ?_
          rw [nx_shr (by omega) (by omega)]
          refine r_ic (v := nI 1) C rfl (by decide) ?_
          refine r_iand C rfl ?_
          rw [pk_andN (by have := Nat.div_le_self j (2 ^ (n - 1 - i)); omega) 1 (by decide), show j / 2 ^ (n - 1 - i) % 2 ^ 1 = s i from by rw [hs]]
          refine r_iload C rfl rfl ?_
          refine r_ishl C rfl ?_
          refine r_ior C rfl ?_
          rw [row_or (bs i) (hs2 i) (by omega)]
          refine r_istore C rfl (by exact Nat.le_of_ble_eq_true rfl) ?_
          refine r_iinc (c := nI 1) C rfl rfl (by decide) ?_
          refine r_goto C 82 rfl (by decide) ?_
          refine r_eqL ?_ (ihm (i + 1) (by omega))
          rw [bsum, ← nI_add i 1]
          rfl
      refine r_ic (v := nI 0) C rfl (by decide) ?_
      refine r_istore C rfl (by exact Nat.le_of_ble_eq_true rfl) ?_
      refine r_ic (v := nI 0) C rfl (by decide) ?_
      refine r_istore C rfl (by exact Nat.le_of_ble_eq_true rfl) ?_
      exact first n 0 (by omega)
  refine r_ic (v := nI 0) C rfl (by decide) ?_
  refine r_istore C rfl (by exact Nat.le_of_ble_eq_true rfl) ?_
  refine r_ic (v := (-1)) C rfl (by decide) ?_
  refine r_istore C rfl (by exact Nat.le_of_ble_eq_true rfl) ?_
  refine r_ic (v := nI 0) C rfl (by decide) ?_
  refine r_istore C rfl (by exact Nat.le_of_ble_eq_true rfl) ?_
  exact big (2 ^ n) 0 M0 (by omega) FrR.rfl none none none none none
end MTURN
