section WEATHER4
variable {E : VE} {Sh : Nat → SE} {N : Nat} {G : Bool} {M : MM} {w yd t : Nat} {R : Row}
theorem sm_shift (f : Nat → Int32) : ∀ n : Nat, sm f (n + 1) = f 0 + sm (fun i => f (i + 1)) n
  | 0 => by simp only [sm]; rw [Int32.add_comm]
  | n + 1 => by rw [sm, sm_shift f n, sm, add3]
theorem upd_same {f : Nat → Int32} {i : Nat} : upd f i (f i) = f := by
  funext j
  simp only [upd]
  by_cases h : j = i
  · rw [if_pos h, h]
  · rw [if_neg h]
theorem lods_cong {R R' : Row} (h : ∀ j, j < 13 ∨ 37 ≤ j → R j = R' j) (dp l : Nat) : lods R dp l = lods R' dp l := by
  simp only [lods]; exact sm_cong (fun c _ => lod_cong h _)
/-- the loads of the layers from m on -/
def pab (R : Row) (dp mn m : Nat) : Int32 := sm (fun i => lods R dp (m + i)) (mn - m)
theorem pab_prs (R : Row) (dp mn l : Nat) : pab R dp mn (l + 1) = prs R dp l (mn - 1 - l) := by
  rw [pab, prs, show mn - (l + 1) = mn - 1 - l by omega]
theorem pab_step (R : Row) (dp mn l : Nat) (h : l < mn) : pab R dp mn (l + 1) + lods R dp l = pab R dp mn l := by
  rw [pab, pab, show mn - l = (mn - (l + 1)) + 1 by omega, sm_shift, Int32.add_comm]
  congr 1
  exact sm_cong (fun i _ => by rw [show l + 1 + i = l + (i + 1) by omega])
theorem t_settle (hA : WA Sh N w yd) (hT : TA Sh N t yd) (dp mn : Nat) (hW : WF R dp mn) (h7 : R 7 = 0 ∨ R 7 = 1) : Con E mX9_settle 3 0 0 [.ref t, .ref w] Sh N G (wset M w R) (P1 (some (.int (fI (lowN (sitR (M yd 8) (M yd 6) dp mn 0 R) 0 mn)))) Sh N (wset M w (sitR (M yd 8) (M yd 6) dp mn 0 R))) nox := by
  obtain ⟨w0, w1, w2, w3, w4⟩ := hW
  have hA' := hA
  obtain ⟨a0, a1, a2, a3, a4, a5⟩ := hA
  obtain ⟨t0, t1, t2, t3⟩ := hT
  refine Con.ofQ (by decide +kernel) (by simp [Value.category]) (Nat.le_of_ble_eq_true rfl) (fun k C0 Q hQ => ?_)
  have C : CK k E mX9_settle kdX9_settle 3 0 0 := ⟨C0, kdX9_settle_ok⟩
  have hWs : ∀ l, WF (sitR (M yd 8) (M yd 6) dp mn l R) dp mn := fun l => ⟨by rw [sit_keep _ _ _ _ _ _ w4 (by omega)]; exact w0, w1, w2, by rw [sit_keep _ _ _ _ _ _ w4 (by omega)]; exact w3, w4⟩
  have h7s : ∀ l, sitR (M yd 8) (M yd 6) dp mn l R 7 = 0 ∨ sitR (M yd 8) (M yd 6) dp mn l R 7 = 1 := fun l => by rw [sit_keep _ _ _ _ _ _ w4 (by omega)]; exact h7
  have loop : ∀ n m : Nat, m ≤ mn → m < n → ∀ v5 : Option Value, PT k E Q 0 0 Sh N G (wset M w (sitR (M yd 8) (M yd 6) dp mn m R)) 12 [some (.ref t), some (.ref w), some (.int (pab R dp mn m)), some (.int (fI (lowN (sitR (M yd 8) (M yd 6) dp mn 0 R) m (mn - m)))), some (.int (nI m - nI 1)), v5] [] := by
    intro n
    induction n with
    | zero => intro m _ h; omega
    | succ n ih =>
      intro m hm hn v5
      refine r_iload C rfl rfl ?_
      refine r_if_lt C 84 rfl (by decide) (fun h => ?_) (fun h => ?_)
      · have h := (lt0_nI (by omega)).mp h
        subst h
        refine r_iload_n C 3 rfl rfl rfl ?_
        exact q_iret C hQ rfl rfl rfl ⟨by rw [Nat.sub_zero], rfl, rfl, rfl⟩
      have hm0 : m ≠ 0 := fun q => h ((lt0_nI (by omega)).mpr q)
      obtain ⟨l, rfl⟩ : ∃ l, m = l + 1 := ⟨m - 1, by omega⟩
      have hcong : ∀ l', ∀ j, j < 13 ∨ 37 ≤ j → sitR (M yd 8) (M yd 6) dp mn l' R j = R j := fun l' j hj => sit_keep _ _ _ _ _ _ w4 hj
      refine r_eqL (L' := [some (.ref t), some (.ref w), some (.int (pab R dp mn (l + 1))), some (.int (fI (lowN (sitR (M yd 8) (M yd 6) dp mn 0 R) (l + 1) (mn - (l + 1))))), some (.int (nI l)), v5]) (by rw [pk_sub (by omega)]; rfl) ?_
      refine r_aload_n C 1 rfl rfl rfl rfl ?_
      refine r_iload C rfl rfl ?_
      refine v1_r C rfl mfX8_bears lk_X9_116 (by assumption) (w_bears hA' dp mn l (hWs (l + 1)) (h7s (l + 1)) rfl (by omega)) ?_
      rw [bear_cong (hcong (l + 1))]
      have k69 : ∀ z : Int32, z = fI (lowN (sitR (M yd 8) (M yd 6) dp mn 0 R) l (mn - l)) → PT k E Q 0 0 Sh N G (wset M w (sitR (M yd 8) (M yd 6) dp mn l R)) 69 [some (.ref t), some (.ref w), some (.int (pab R dp mn (l + 1))), some (.int z), some (.int (nI l)), some (.int (bear (M yd 8) (M yd 6) R dp l))] [] := by
        intro z hz
        subst hz
        refine r_iload_n C 2 rfl rfl rfl ?_
        refine r_aload_n C 1 rfl rfl rfl rfl ?_
        refine r_iload C rfl rfl ?_
        refine v1_r C rfl mfX8_loads lk_X9_123 (by assumption) (w_loads hA' dp mn l (hWs l) rfl (by omega)) ?_
        rw [lods_cong (hcong l)]
        refine r_iadd C rfl ?_
        rw [pab_step R dp mn l (by omega)]
        refine r_istore_n C 2 rfl rfl (by exact Nat.le_of_ble_eq_true rfl) ?_
        refine r_iinc (c := (-1)) C rfl rfl (by decide) ?_
        refine r_goto C 12 rfl (by decide) ?_
        refine r_eqL ?_ (ih l (by omega) (by omega) (some (.int (bear (M yd 8) (M yd 6) R dp l))))
        rw [show nI l + (-1) = nI l - nI 1 from by rw [Int32.sub_eq_add_neg]; rfl]
        rfl
      have k54 : ∀ X : Row, X = sitR (M yd 8) (M yd 6) dp mn l R → PT k E Q 0 0 Sh N G (wset M w X) 54 [some (.ref t), some (.ref w), some (.int (pab R dp mn (l + 1))), some (.int (fI (lowN (sitR (M yd 8) (M yd 6) dp mn 0 R) (l + 1) (mn - (l + 1))))), some (.int (nI l)), some (.int (bear (M yd 8) (M yd 6) R dp l))] [] := by
        intro X hX
        subst hX
        have hlow : lowN (sitR (M yd 8) (M yd 6) dp mn 0 R) l (mn - l) = if nI 6 ≤ sitR (M yd 8) (M yd 6) dp mn l R (13 + l) then some l else lowN (sitR (M yd 8) (M yd 6) dp mn 0 R) (l + 1) (mn - (l + 1)) := by
          rw [show mn - l = (mn - (l + 1)) + 1 by omega, lowN, sit_same _ _ _ _ l _ (Nat.le_refl l)]
        refine r_aload_n C 1 rfl rfl rfl rfl ?_
        refine r_getv C rfl f_X9_120 (by assumption) rfl ?_
        refine r_iload C rfl rfl ?_
        refine r_iald C rfl (by assumption) (l) rfl (by omega) (by decide) ?_
        refine r_top _ (wg_b _ _ _ (by omega)) ?_
        refine r_bi (v := nI 6) C rfl (by decide) ?_
        refine r_icmp_lt C 69 rfl (by decide) (fun h2 => ?_) (fun h2 => ?_)
        · exact k69 _ (by rw [hlow, if_neg (Int32.not_le.mpr h2)])
        · refine r_iload C rfl rfl ?_
          refine r_istore_n C 3 rfl rfl (by exact Nat.le_of_ble_eq_true rfl) ?_
          exact k69 (nI l) (by rw [hlow, if_pos (Int32.not_lt.mp h2)]; rfl)
      refine r_istore C rfl (by exact Nat.le_of_ble_eq_true rfl) ?_
      refine r_iload_n C 2 rfl rfl rfl ?_
      refine r_iload C rfl rfl ?_
      refine r_icmp_le C 54 rfl (by decide) (fun h2 => ?_) (fun h2 => ?_)
      · refine k54 _ ?_
        rw [pab_prs] at h2
        rw [← sit_step _ _ _ _ _ _ (show l < mn by omega), more, if_neg (Int32.not_lt.mpr h2), if_neg (fun q => absurd q.1 (Int32.not_lt.mpr h2)), show R (13 + l) + ((0 : Int32) + 0) = sitR (M yd 8) (M yd 6) dp mn (l + 1) R (13 + l) from by rw [sit_below _ _ _ _ _ _ (by omega)]; simp, upd_same]
      have h2 := Int32.not_le.mp h2
      have k52 : ∀ z : Int32, z = more (bear (M yd 8) (M yd 6) R dp l) (prs R dp l (mn - 1 - l)) → PT k E Q 0 0 Sh N G (wset M w (sitR (M yd 8) (M yd 6) dp mn (l + 1) R)) 52 [some (.ref t), some (.ref w), some (.int (pab R dp mn (l + 1))), some (.int (fI (lowN (sitR (M yd 8) (M yd 6) dp mn 0 R) (l + 1) (mn - (l + 1))))), some (.int (nI l)), some (.int (bear (M yd 8) (M yd 6) R dp l))] [.int z, .int (R (13 + l)), .int (nI l), .ref (w + 3)] := by
        intro z hz
        refine r_iadd C rfl ?_
        refine r_iast C rfl (by assumption) (l) rfl (by omega) (by decide) ?_
        refine r_eqM (wp_b _ _ _ _ (by omega)) ?_
        exact k54 _ (by rw [hz, sit_step _ _ _ _ _ _ (by omega)])
      refine r_aload_n C 1 rfl rfl rfl rfl ?_
      refine r_getv C rfl f_X9_120 (by assumption) rfl ?_
      refine r_iload C rfl rfl ?_
      refine r_dup2 C rfl rfl rfl ?_
      refine r_iald C rfl (by assumption) (l) rfl (by omega) (by decide) ?_
      refine r_top _ (wg_b _ _ _ (by omega)) ?_
      refine r_top (R (13 + l)) (sit_below _ _ _ _ _ _ (by omega)) ?_
      refine r_iload_n C 2 rfl rfl rfl ?_
      refine r_ic (v := nI 2) C rfl (by decide) ?_
      refine r_iload C rfl rfl ?_
      refine r_imul C rfl ?_
      refine r_icmp_lt C 51 rfl (by decide) (fun h3 => ?_) (fun h3 => ?_)
      · refine r_ic (v := nI 1) C rfl (by decide) ?_
        refine k52 _ ?_
        rw [pab_prs] at h2 h3
        rw [more, if_pos h2, if_neg (fun q => absurd q.2 (Int32.not_le.mpr h3))]
        rfl
      · refine r_ic (v := nI 2) C rfl (by decide) ?_
        refine r_goto C 52 rfl (by decide) ?_
        refine k52 _ ?_
        rw [pab_prs] at h2 h3
        rw [more, if_pos h2, if_pos ⟨h2, Int32.not_lt.mp h3⟩]
        rfl
  refine r_ic (v := nI 0) C rfl (by decide) ?_
  refine r_istore_n C 2 rfl rfl (by exact Nat.le_of_ble_eq_true rfl) ?_
  refine r_ic (v := (-1)) C rfl (by decide) ?_
  refine r_istore_n C 3 rfl rfl (by exact Nat.le_of_ble_eq_true rfl) ?_
  refine r_aload_n C 1 rfl rfl rfl rfl ?_
  refine r_geti C rfl f_X9_45 (by assumption) rfl ?_
  refine r_top _ (wg_5 _ _ _) ?_
  refine r_top (nI mn) w3 ?_
  refine r_ic (v := nI 1) C rfl (by decide) ?_
  refine r_isub C rfl ?_
  refine r_istore C rfl (by exact Nat.le_of_ble_eq_true rfl) ?_
  refine r_eqM ?_ (r_eqL ?_ (loop (mn + 1) mn (Nat.le_refl _) (by omega) none))
  · rw [sit_end]
  · rw [Nat.sub_self, pab, Nat.sub_self]
    rfl
end WEATHER4
