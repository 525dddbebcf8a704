section MANY
variable {k : MC} {E : VE} {md : MD} {kd : List (Nat × Instr × Nat)} {d mc ms : Nat} {Q : State → Prop} {cm sm : Nat} {Sh : Nat → SE} {N : Nat} {G : Bool} {M : MM} {pc : Nat} {L : List (Option Value)} {st : List Value} {o yd : Nat}
theorem r_room (cm' sm' : Nat) (h1 : cm' ≤ cm) (h2 : sm' ≤ sm) (kk : PT k E Q cm' sm' Sh N G M pc L st) : PT k E Q cm sm Sh N G M pc L st :=
  fun ls H locs cells slots hL hH hS hc hs => kk ls H locs cells slots hL hH hS (Nat.le_trans (Nat.add_le_add_left h1 cells) hc) (Nat.le_trans (Nat.add_le_add_left h2 slots) hs)
theorem arrV_cong {cA : ClassId} {n : Nat} {f g : Nat → Value} (h : ∀ j, j < n → f j = g j) : arrV cA n f = arrV cA n g := by
  have e : (fun j : Fin n => f j.val) = (fun j : Fin n => g j.val) := funext (fun j => h j.1 j.2)
  unfold arrV
  rw [e]
/-- of an array of walls only its places count -/
theorem r_arW {n : Nat} {f f' : Nat → Option Nat} (h : Sh o = arW n f) (hf : ∀ j, j < n → f j = f' j) (kk : PT k E Q cm sm (shUp Sh o (arW n f')) N G M pc L st) : PT k E Q cm sm Sh N G M pc L st := by
  intro ls H locs cells slots hL hH hS hc hs
  refine kk ls H locs cells slots hL ⟨hH.1, hH.2.1, fun i hi => ?_⟩ hS hc hs
  have h1 := hH.2.2 i hi
  by_cases e : i = o
  · subst e
    rw [shUp_eq]
    rw [h] at h1
    show H[E.2.1 + i]? = some (vp_cell _ _)
    have h1 : H[E.2.1 + i]? = some (vp_cell _ _) := h1
    rw [h1, vp_cell_q, vp_cell_q]
    exact congrArg some (arrV_cong (fun j hj => by rw [hf j hj]))
  · rw [shUp_ne e]
    exact h1
/-- a new wall -/
def WNew (Sh : Nat → SE) (M : MM) (w yd : Nat) : Prop := Sh w = .inr (8, waFl w yd) ∧ Sh (w + 1) = arE 0 144 ∧ Sh (w + 2) = arE 0 144 ∧ Sh (w + 3) = arE 0 24 ∧ (∀ j, M w j = if j = 4 then nI 1 else 0) ∧ ∀ j, M (w + 1) j = 0 ∧ M (w + 2) j = 0 ∧ M (w + 3) j = 0
theorem WNew.low {Sh' : Nat → SE} {M' : MM} {w p : Nat} (h : WNew Sh M w yd) (hp : w + 4 ≤ p) (hs : ∀ c, w ≤ c → c < p → Sh' c = Sh c ∧ M' c = M c) : WNew Sh' M' w yd := by
  unfold WNew
  rw [(hs w (by omega) (by omega)).1, (hs (w + 1) (by omega) (by omega)).1, (hs (w + 2) (by omega) (by omega)).1, (hs (w + 3) (by omega) (by omega)).1, (hs w (by omega) (by omega)).2, (hs (w + 1) (by omega) (by omega)).2, (hs (w + 2) (by omega) (by omega)).2, (hs (w + 3) (by omega) (by omega)).2]
  exact h
theorem mk_many {n ma mb : Nat} (hn : n ≤ 16) (hma : ma = 1 + 4 * n) (hmb : mb = 330 * n) : Con E mX11_manyWalls 4 ma mb [.int (nI n), .ref yd] Sh o true M (fun r Sh' N' M' => r = some (.ref o) ∧ N' = o + 1 + 4 * n ∧ Low o Sh Sh' M M' ∧ Sh' o = arW n (fun j => some (o + 1 + 4 * j)) ∧ ∀ i, i < n → WNew Sh' M' (o + 1 + 4 * i) yd) nox := by
  refine Con.ofQ (by decide +kernel) (by simp [Value.category]) (Nat.le_of_ble_eq_true rfl) (fun k C0 Q hQ => ?_)
  have C : CK k E mX11_manyWalls kdX11_manyWalls 4 ma mb := ⟨C0, kdX11_manyWalls_ok⟩
  have loop : ∀ (m i : Nat) (S : Nat → SE) (M1 : MM) (f : Nat → Option Nat), i + m = n → Low o Sh S M M1 → S o = arW n f → (∀ j, j < i → f j = some (o + 1 + 4 * j)) → (∀ l, l < i → WNew S M1 (o + 1 + 4 * l) yd) → PT k E Q (4 * m) (329 * m) S (o + 1 + 4 * i) true M1 11 [some (.int (nI n)), some (.ref yd), some (.ref o), some (.int (nI i))] [] := by
    intro m
    induction m with
    | zero =>
      intro i S M1 f hi low so hf hw
      have e : i = n := by omega
      subst e
      have ao : At S (o + 1 + 4 * i) o (arW i f) := ⟨by omega, so⟩
      refine r_iload_n C 3 rfl rfl rfl ?_
      refine r_aload_n C 2 rfl rfl rfl rfl ?_
      refine r_alen4 C rfl ao ?_
      refine r_icmp_ge C 34 rfl (by decide) (fun _ => ?_) (fun z => absurd (Int32.le_refl _) z)
      refine r_aload_n C 2 rfl rfl rfl rfl ?_
      refine r_arW so (f' := fun j => some (o + 1 + 4 * j)) hf ?_
      exact q_aret C hQ rfl rfl (Or.inr ⟨_, rfl⟩) ⟨rfl, rfl, fun c hc => ⟨by rw [shUp_ne (by omega)]; exact (low c hc).1, (low c hc).2⟩, shUp_eq, fun l hl => (hw l hl).low (p := o + 1 + 4 * l + 4) (by omega) (fun c q1 q2 => ⟨shUp_ne (by omega), rfl⟩)⟩
    | succ m ih =>
      intro i S M1 f hi low so hf hw
      have ao : At S (o + 1 + 4 * i) o (arW n f) := ⟨by omega, so⟩
      refine r_iload_n C 3 rfl rfl rfl ?_
      refine r_aload_n C 2 rfl rfl rfl rfl ?_
      refine r_alen4 C rfl ao ?_
      refine r_icmp_ge C 34 rfl (by decide) (fun z => absurd (le_nI (by omega) (by omega) z) (by omega)) (fun _ => ?_)
      refine r_aload_n C 2 rfl rfl rfl rfl ?_
      refine r_iload_n C 3 rfl rfl rfl ?_
      refine r_newo C rfl nw_X8 (by decide +kernel) (fl := [nul, nul, nul, nul, none, none, none, none, none, none, none, none, none, none, none, none, none]) rfl (by omega) (show 17 ≤ _ by omega) ?_
      refine r_dup C rfl rfl ?_
      refine r_aload_n C 1 rfl rfl rfl rfl ?_
      refine r_callI (As := [.ref yd]) (rest := [.ref (o + 1 + 4 * i), .int (nI i), .ref o]) C rfl mnX8_init lk_X11_122 (mk_wall (M := aset M1 (o + 1 + 4 * i) (fun _ => 0)) shUp_eq (fun j => congrFun (aset_own _ _ _) j)) rfl rfl (by omega) (Nat.le_of_ble_eq_true rfl) (by omega) (show 312 ≤ 329 * (m + 1) - 17 by omega) ?_
      rintro r S2 N2 M2 ⟨rfl, rfl, low2, t0, t1, t2, t3, t4, t5⟩
      have l2 : ∀ c, c < o + 1 + 4 * i → S2 c = S c ∧ M2 c = M1 c := fun c hc => ⟨(low2 c hc).1.trans (shUp_ne (by omega)), (low2 c hc).2.trans (aset_ne _ _ (by omega))⟩
      refine r_aast C rfl (f := f) (n := n) ⟨by omega, by rw [(l2 o (by omega)).1]; exact so⟩ ⟨by omega, t0⟩ i rfl (by omega) (by omega) ?_
      refine r_iinc (c := nI 1) C rfl rfl (by decide) ?_
      refine r_goto C 11 rfl (by decide) ?_
      refine r_room (4 * m) (329 * m) (by omega) (by show _ ≤ 329 * (m + 1) - 17 - 312; omega) ?_
      refine r_eqL ?_ (ih (i + 1) _ M2 _ (by omega) (fun c hc => ⟨by rw [shUp_ne (by omega), (l2 c (by omega)).1]; exact (low c hc).1, by rw [(l2 c (by omega)).2]; exact (low c hc).2⟩) shUp_eq (fun j hj => ?_) (fun l hl => ?_))
      · first | rfl | (simp only [sm, add3, nI_add, Int32.add_zero, Int32.zero_add]; rfl)
      · by_cases e : j = i
        · rw [if_pos e, e]
        · rw [if_neg e]; exact hf j (by omega)
      · by_cases e : l = i
        · subst e
          exact WNew.low (Sh := S2) (M := M2) ⟨t0, t1, t2, t3, t4, t5⟩ (p := o + 1 + 4 * l + 4) (by omega) (fun c q1 q2 => ⟨shUp_ne (by omega), rfl⟩)
        · exact (hw l (by omega)).low (p := o + 1 + 4 * l + 4) (by omega) (fun c q1 q2 => ⟨by rw [shUp_ne (by omega)]; exact (l2 c (by omega)).1, (l2 c (by omega)).2⟩)
  refine r_ic (v := nI 0) C rfl (by decide) ?_
  refine r_iload_n C 0 rfl rfl rfl ?_
  refine r_max C rfl lk_X11_114 ?_
  rw [show (if nI 0 < nI n then nI n else nI 0) = nI n from by
    by_cases q : 0 < n
    · rw [if_pos ((nI_ltI (by decide) (by omega)).mpr q)]
    · rw [if_neg (fun z => q (lt_nI (by decide) (by omega) z)), show n = 0 by omega]]
  refine r_anew C rfl nw_X8.2.1 rfl (by omega) (by omega) (by omega) ?_
  refine r_astore_n C 2 rfl rfl (by exact Nat.le_of_ble_eq_true rfl) rfl ?_
  refine r_ic (v := nI 0) C rfl (by decide) ?_
  refine r_istore_n C 3 rfl rfl (by exact Nat.le_of_ble_eq_true rfl) ?_
  refine r_room (4 * n) (329 * n) (by omega) (by omega) ?_
  exact loop n 0 _ _ (fun _ => none) (by omega) (fun c hc => ⟨shUp_ne (by omega), aset_ne _ _ (by omega)⟩) shUp_eq (fun j hj => absurd hj (Nat.not_lt_zero j)) (fun l hl => absurd hl (Nat.not_lt_zero l))
end MANY
