section MAKEC
variable {k : MC} {E : VE} {md : MD} {kd : List (Nat × Instr × Nat)} {d mc ms : Nat} {Q : State → Prop} {cm sm : Nat} {Sh S : Nat → SE} {N : Nat} {G : Bool} {M M1 : MM} {pc : Nat} {L : List (Option Value)} {st : List Value}
/-- a maker is called that only the nest may call -/
theorem r_callIN (C : CK k E md kd d mc ms) {idx n d' mc' ms' : Nat} {md' : MD} {host : String} {o : Nat} {As rest : List Value} {Post : Option Value → (Nat → SE) → Nat → MM → Prop}
    (hd : cod kd pc = some (.invokespecial idx, 3)) (hm : MN md' n) (hlk : va_Nw (.methodLinkNest md.1.cls idx md'.1 host) (kS k))
    (hC : Con E md' d' mc' ms' (.ref o :: As) Sh N G M Post (fun _ => False)) (hn : As.length = n) (hLn : L.length = md.2.2.1) (hd' : d' < d) (hrest : (rest.map fun v => v.category).sum ≤ 8) (h1 : mc' ≤ cm) (h2 : ms' ≤ sm)
    (kk : ∀ r Sh' N' M', Post r Sh' N' M' → PT k E Q (cm - mc') (sm - ms') Sh' N' G M' (pc + 3) L (r.toList ++ rest)) : PT k E Q cm sm Sh N G M pc L (As.reverse ++ .ref o :: rest) := by
  intro ls H locs cells slots hL hH hS hc hs
  rw [map_rev]
  have hM := hC.met k.2.1 C.tr
  have cb : va_CN (kR k) (kS k) (kA k) md.1.cls idx md'.1 host md'.2.1 md'.2.2.1 md'.2.2.2 (Cond.code md'.1 md'.2.1 md'.2.2.1 md'.2.2.2 :: TB) { frames := d', cells := mc', slots := ms', locals := 40 * d' } mc' ms' n :=
    va_cnB n C.ts (good_all md' hm.1.1) rfl rfl rfl hlk (C.ts _ hm.1.2.1) hm.1.2.2.1 (by
      have h20 := hm.1.2.2.2
      have h21 := C.lc
      exact ⟨by rw [C.fr]; exact hd', by show 8 + (md'.2.2.1 + 11) + 40 * d' ≤ (kR k).locals; omega⟩)
  rw [hm.2.2.2] at hM cb
  have hr := va_runIN (cells := cells) (slots := slots) (rest := rest.map (cv E)) (As := As.map (cv E)) (b := E.2.1 + o) (g := F0 (kM k) pc ls ((As.map (cv E)).reverse ++ Value.ref (E.2.1 + o) :: rest.map (cv E))) (Pc := va_Pc ((.ref o :: As).map (cv E)) (fun U => HR E Sh N G M U.heap ∧ KX E U)) (locs := locs) (meth := kMe k) (below := kB k) (e := k.2.2.1) ⟨C.x, C.b, C.ml, C.own, C.ts⟩ hM ⟨cb, hm.2.2.1, C.ts _ hm.2.1⟩ ⟨blind, pre_at C hH hS (.ref o :: As)⟩ rfl (by rw [List.length_map]; exact hn) (by show ls.size = md.2.2.1; rw [hL.1, hLn]) rfl (cat_rest rest hrest) (C.dec hd) ⟨by omega, by omega⟩
  intro T hT X
  obtain ⟨v, st₀, t, T', Lo, h0, X', hLo, e1, e2, ⟨⟨r, Sh', N', M', hv, hp, hb⟩, hF⟩, st⟩ := hr T hT X
  cases hv
  obtain ⟨k1, k2, k3⟩ := vx_keep h0 e1 hS (fun _ _ h => h) (fun _ h => h) hLo hF
  have hw := kk r Sh' N' M' hp ls T'.heap (locs ++ Lo) (cells + mc') (slots + ms') hL (by rw [e1]; exact hb) k3 (by omega) (by omega)
  rw [← opt_list] at hw
  obtain ⟨t2, a1, b1⟩ := hw T' rfl X'
  exact ⟨t2, st t2 a1, b1⟩
theorem r_N {N' : Nat} (h : N = N') (kk : PT k E Q cm sm Sh N' G M pc L st) : PT k E Q cm sm Sh N G M pc L st := by
  rw [h]; exact kk
/-- what is said of the cells 1 .. n - 1, and stays -/
def Stb (n : Nat) (F : (Nat → SE) → MM → Prop) (S : Nat → SE) (M : MM) : Prop := ∀ S' M', (∀ c, 1 ≤ c → c < n → S' c = S c ∧ M' c = M c) → F S' M'
theorem Stb.step {F F' : (Nat → SE) → MM → Prop} {n n2 : Nat} {S2 : Nat → SE} {M2 : MM} (I : Stb n F S M) (low : ∀ c, 1 ≤ c → c < n → S2 c = S c ∧ M2 c = M c) (hn : n ≤ n2) (new : ∀ S' M', (∀ c, 1 ≤ c → c < n2 → S' c = S2 c ∧ M' c = M2 c) → F' S' M') : Stb n2 (fun S' M' => F S' M' ∧ F' S' M') S2 M2 :=
  fun S' M' h => ⟨I S' M' (fun c h1 h2 => ⟨(h c h1 (by omega)).1.trans (low c h1 h2).1, (h c h1 (by omega)).2.trans (low c h1 h2).2⟩), new S' M' h⟩
/-- a field of the class's object is written -/
theorem r_put0 (C : CK k E md kd d mc ms) {idx j : Nat} {t : FieldType} {v : Value} {fl fl' : List (Option Value)} {n : Nat} {F : (Nat → SE) → MM → Prop} (I : Stb n F S M1) (s0 : S 0 = .inr (11, fl)) (hN : 0 < N) (hd : cod kd pc = some (.putfield idx, 3)) (hF : FL md.1.cls idx 11 j t (some true)) (hi : md.1.name = "<init>") (hl : j < fl.length) (hnr : narrow t (cv E v) = cv E v) (hft : fits t (cv E v) = true) (hfl : fl.set j (some v) = fl')
    (kk : ∀ S2 : Nat → SE, Stb n F S2 M1 → S2 0 = .inr (11, fl') → (∀ c, 1 ≤ c → S2 c = S c) → PT k E Q cm sm S2 N G M1 (pc + 3) L st) : PT k E Q cm sm S N G M1 pc L (v :: .ref 0 :: st) := by
  subst hfl
  refine r_putv C hd hF (fun h => by cases h) (fun _ => hi) (fl := fl) ⟨hN, s0⟩ hl hnr hft ?_
  refine kk _ (fun S' M' h => I S' M' (fun c h1 h2 => ⟨(h c h1 h2).1.trans (shUp_ne (by omega)), (h c h1 h2).2⟩)) shUp_eq (fun c h1 => shUp_ne (by omega))
def YAs (S : Nat → SE) (y : Nat) : Prop := S y = .inr (10, yaFl y) ∧ S (y + 1) = arE 0 3 ∧ S (y + 2) = arE 0 24 ∧ S (y + 3) = arE 0 90
def PAs (S : Nat → SE) : Prop := S 117 = .inr (5, [some (.ref 48), some (.ref 51), some (.ref 118), some (.ref 119), none]) ∧ S 118 = arE 0 5 ∧ S 119 = arE 0 5
def OAs (S : Nat → SE) : Prop := S 121 = .inr (4, [some (.ref 48), some (.ref 51), some (.ref 122), none, some (.ref 123), none]) ∧ S 122 = arE 0 6 ∧ S 123 = arE 0 6
def HAs (S : Nat → SE) : Prop := S 125 = .inr (3, [some (.ref 126), some (.ref 127), none, none, none, none]) ∧ S 126 = arE 0 12 ∧ S 127 = arE 0 12
def GAs (S : Nat → SE) : Prop := S 128 = .inr (2, [some (.ref 129), some (.ref 130)]) ∧ S 129 = arE 0 576 ∧ S 130 = arE 0 4
theorem wa_of {w : Nat} (h : WNew S M w 10) (hy : YAs S 10) (hw : 14 ≤ w) (hN : w + 4 ≤ 131) : WA S 131 w 10 := ⟨⟨by omega, h.1⟩, ⟨by omega, h.2.1⟩, ⟨by omega, h.2.2.1⟩, ⟨by omega, h.2.2.2.1⟩, ⟨⟨by omega, hy.1⟩, ⟨by omega, hy.2.1⟩, ⟨by omega, hy.2.2.1⟩, ⟨by omega, hy.2.2.2⟩⟩, by omega⟩
theorem mu_of (h0 : S 0 = .inr (11, muFl) ∧ S 1 = arE 1 700 ∧ S 2 = arE 0 4 ∧ S 3 = arE 0 4 ∧ S 4 = .inr (6, rdFl 5)) (h6 : YAs S 6) (h10 : YAs S 10) (h14 : S 14 = arW 4 (fun j => some (15 + 4 * j))) (hw : ∀ i, i < 4 → WNew S M (15 + 4 * i) 10) (h31 : S 31 = arW 4 (fun j => some (32 + 4 * j))) (hi : ∀ i, i < 4 → WNew S M (32 + 4 * i) 10) (h48 : S 48 = .inr (9, taFl 48 10) ∧ S 49 = arE 0 144 ∧ S 50 = arE 0 144) (h51 : S 51 = arW 16 (fun j => some (52 + 4 * j))) (hb : ∀ i, i < 16 → WNew S M (52 + 4 * i) 10) (h116 : S 116 = .inr (1, [some (.ref 10), some (.ref 48), some (.ref 52), some (.ref 56)])) (h117 : PAs S) (h120 : S 120 = .inr (7, [some (.ref 48), some (.ref 51), none, none, none])) (h121 : OAs S) (h124 : S 124 = .inr (0, [none, none, none])) (h125 : HAs S) (h128 : GAs S) : MU S 131 5 :=
  ⟨⟨by omega, h0.1⟩, ⟨by omega, h0.2.1⟩, ⟨by omega, h0.2.2.1⟩, ⟨by omega, h0.2.2.2.1⟩, ⟨by omega, h0.2.2.2.2⟩, ⟨⟨by omega, h6.1⟩, ⟨by omega, h6.2.1⟩, ⟨by omega, h6.2.2.1⟩, ⟨by omega, h6.2.2.2⟩⟩, ⟨⟨by omega, h10.1⟩, ⟨by omega, h10.2.1⟩, ⟨by omega, h10.2.2.1⟩, ⟨by omega, h10.2.2.2⟩⟩, ⟨by omega, h14⟩, fun i hq => wa_of (hw i hq) h10 (by omega) (by omega), ⟨by omega, h31⟩, fun i hq => wa_of (hi i hq) h10 (by omega) (by omega), ⟨⟨by omega, h48.1⟩, ⟨by omega, h48.2.1⟩, ⟨by omega, h48.2.2⟩, by omega⟩, ⟨⟨by omega, h51⟩, fun i hq => wa_of (hb i hq) h10 (by omega) (by omega)⟩, ⟨by omega, h116⟩, ⟨⟨by omega, h117.1⟩, ⟨by omega, h117.2.1⟩, ⟨by omega, h117.2.2⟩⟩, ⟨by omega, h120⟩, ⟨⟨by omega, h121.1⟩, ⟨by omega, h121.2.1⟩, ⟨by omega, h121.2.2⟩⟩, ⟨by omega, h124⟩, ⟨⟨by omega, h125.1⟩, ⟨by omega, h125.2.1⟩, ⟨by omega, h125.2.2⟩⟩, ⟨⟨by omega, h128.1⟩, ⟨by omega, h128.2.1⟩, ⟨by omega, h128.2.2⟩⟩⟩
theorem wn_row {w : Nat} (h : WNew S M w 10) : Ag (wrow M w) rowN := by
  have e : ∀ j, j < 13 → wrow M w j = rowN j := fun j hj => by
    rcases (show j = 0 ∨ j = 1 ∨ j = 2 ∨ j = 3 ∨ j = 4 ∨ j = 5 ∨ j = 6 ∨ j = 7 ∨ j = 8 ∨ j = 9 ∨ j = 10 ∨ j = 11 ∨ j = 12 by omega) with rfl | rfl | rfl | rfl | rfl | rfl | rfl | rfl | rfl | rfl | rfl | rfl | rfl <;> exact h.2.2.2.2.1 _
  have e0 : mno (wrow M w) = 0 := by
    unfold mno
    rw [e 1 (by decide)]
    rfl
  unfold Ag
  rw [e0]
  exact ⟨e, fun l hl => absurd hl (Nat.not_lt_zero l), fun p hp => absurd hp (Nat.not_lt_zero _)⟩
theorem ci_of (m0 : M 0 = upd (fun _ => 0) 2 (-1)) (h2 : ∀ i, M 2 i = 0) (h6 : YDr M 6 dr0) (h10 : YDr M 10 dr0) (hw : ∀ i, i < 4 → WNew S M (15 + 4 * i) 10) (h117 : M 117 4 = 0) (h121 : M 121 5 = 0) (h124 : BRC M 124 (0, -1, -1)) (h125 : HOC M 125 0 (fun _ => 0) (fun _ => 0)) (h128 : GC M 128 (fun _ => none) (fun _ => 0)) : CI M st0 := by
  obtain ⟨t1, t2, t3, ⟨t4, t5, t6, t7⟩, t8, t9⟩ := h10
  refine ⟨⟨by rw [m0]; rfl, fun i hi => absurd hi (Nat.not_lt_zero i), by rw [m0]; rfl⟩, fun i _ => h2 i, ⟨by rw [m0]; rfl, fun q => by cases q⟩, ⟨fun _ => 0, fun _ => 0, h6.2.2.2.2.1, h6.2.2.2.2.2, ⟨show 30 ≤ 99 by decide, show 50 ≤ 99 by decide, show 5 ≤ 99 by decide⟩, Nat.zero_le _, Nat.zero_le _, fun i hi => ⟨fun q => absurd q (Nat.not_lt_zero i), Nat.zero_le _, Nat.zero_le _, Nat.zero_le _, Nat.zero_le _, Nat.zero_le _, Nat.zero_le _⟩, fun k hk => absurd hk (Nat.not_lt_zero k)⟩, ⟨t2, t7, t5, t6, t3, fun k hk => absurd hk (Nat.not_lt_zero k)⟩, fun i hi => wn_row (hw i hi), ⟨Nat.zero_le _, h117, fun i hi => absurd hi (Nat.not_lt_zero i)⟩, ⟨Nat.zero_le _, h121, fun i hi => absurd hi (Nat.not_lt_zero i)⟩, h124, h125, h128⟩
theorem vi_0 : VI 0 st0 := by
  have ok : OK 0 rowN := by
    refine ⟨⟨rfl, by decide, by decide, rfl, by decide⟩, ?_, ?_, Or.inl rfl, Or.inl rfl, ⟨0, by decide, rfl⟩, by decide, by decide, by decide, ⟨by decide, rfl⟩, ⟨by decide, rfl⟩⟩
    · intro p hp
      exact absurd hp (Nat.not_lt_zero _)
    · intro l hl
      exact absurd hl (Nat.not_lt_zero _)
  exact ⟨Nat.zero_le _, yd_fine (D := dr0) ⟨⟨by decide, by decide, by decide⟩, Nat.zero_le _, Nat.zero_le _, fun i hi => ⟨fun q => absurd q (Nat.not_lt_zero i), Nat.zero_le _, Nat.zero_le _, Nat.zero_le _, Nat.zero_le _, Nat.zero_le _, Nat.zero_le _⟩, fun k hk => absurd hk (Nat.not_lt_zero k)⟩, fun _ _ => ok, fun _ _ _ => ⟨rfl, rfl⟩, (fun q => by cases q), ⟨by decide, Or.inl rfl, Or.inl rfl⟩, Nat.zero_le _, (fun g hg R hR => by cases hR), Nat.zero_le _⟩
theorem mk_class (h0 : Sh 0 = .inr (11, [nul, none, none, nul, nul, none, nul, nul, nul, nul, nul, nul, nul, nul, nul, nul, nul, nul, nul])) (hz : ∀ j, M 0 j = 0) : Con E mX11_init 6 130 9835 [.ref 0] Sh 1 true M (fun r Sh' N' M' => r = none ∧ N' = 131 ∧ MU Sh' 131 5 ∧ CI M' st0) nox := by
  have I : Stb 1 (fun _ _ => True) Sh M := fun _ _ _ => trivial
  have m0 : M 0 = fun _ => 0 := funext hz
  refine Con.ofQ (by decide +kernel) (by simp [Value.category]) (Nat.le_of_ble_eq_true rfl) (fun k C0 Q hQ => ?_)
  have C : CK k E mX11_init kdX11_init 6 130 9835 := ⟨C0, kdX11_init_ok⟩
  refine r_aload_n C 0 rfl rfl rfl rfl ?_
  refine r_oinit C rfl ol_X11 rfl (by decide) ?_
  have s0 := h0
  refine r_aload_n C 0 rfl rfl rfl rfl ?_
  refine r_si (v := nI 700) C rfl (by decide) ?_
  refine r_newB (N := 1) C rfl rfl (by decide) (by omega) (by omega) ?_
  refine r_eqS ?_
  intro S2 M2 hS2 hM2
  have I := I.step (n2 := 2) (S2 := S2) (M2 := M2) (F' := fun S' M' => S' 1 = arE 1 700) (fun c h1 h2 => ⟨by rw [← hS2]; exact shUp_ne (by omega), by rw [← hM2]; exact aset_ne _ _ (by omega)⟩) (by omega) (fun S' M' h => by rw [(h 1 (by omega) (by omega)).1, ← hS2]; exact shUp_eq)
  have s0 := (congrFun hS2.symm 0).trans ((shUp_ne (by omega)).trans s0)
  have m0 := (congrFun hM2.symm 0).trans ((aset_ne _ _ (by omega)).trans m0)
  refine r_put0 C I s0 (by omega) rfl f_X11_9 rfl (show 0 < 19 by decide) rfl rfl (fl' := [some (.ref 1), none, none, nul, nul, none, nul, nul, nul, nul, nul, nul, nul, nul, nul, nul, nul, nul, nul]) rfl ?_
  clear I s0
  intro S I s0 _
  refine r_aload_n C 0 rfl rfl rfl rfl ?_
  refine r_ic (v := (-1)) C rfl (by decide) ?_
  refine r_puti C rfl f_X11_13 ⟨by omega, s0⟩ rfl rfl rfl ?_
  refine r_eqS ?_
  intro S2 M2 hS2 hM2
  have I := I.step (n2 := 2) (S2 := S2) (M2 := M2) (F' := fun _ _ => True) (fun c h1 h2 => ⟨by rw [← hS2], by rw [← hM2]; exact up_row _ _ (by omega)⟩) (by omega) (fun _ _ _ => trivial)
  have s0 := (congrFun hS2.symm 0).trans s0
  have m0 : M2 0 = upd (fun _ => 0) 2 (-1) := by rw [← hM2, up_own, m0]
  refine r_aload_n C 0 rfl rfl rfl rfl ?_
  refine r_ic (v := nI 4) C rfl (by decide) ?_
  refine r_newI (N := 2) C rfl rfl (by decide) (by omega) (by omega) ?_
  refine r_eqS ?_
  intro S2 M2 hS2 hM2
  have I := I.step (n2 := 3) (S2 := S2) (M2 := M2) (F' := fun S' M' => S' 2 = arE 0 4 ∧ ∀ i, M' 2 i = 0) (fun c h1 h2 => ⟨by rw [← hS2]; exact shUp_ne (by omega), by rw [← hM2]; exact aset_ne _ _ (by omega)⟩) (by omega) (fun S' M' h => ⟨by rw [(h 2 (by omega) (by omega)).1, ← hS2]; exact shUp_eq, fun i => by rw [(h 2 (by omega) (by omega)).2, ← hM2]; exact congrFun (aset_own _ _ _) i⟩)
  have s0 := (congrFun hS2.symm 0).trans ((shUp_ne (by omega)).trans s0)
  have m0 := (congrFun hM2.symm 0).trans ((aset_ne _ _ (by omega)).trans m0)
  refine r_put0 C I s0 (by omega) rfl f_X11_17 rfl (show 3 < 19 by decide) rfl rfl (fl' := [some (.ref 1), none, none, some (.ref 2), nul, none, nul, nul, nul, nul, nul, nul, nul, nul, nul, nul, nul, nul, nul]) rfl ?_
  clear I s0
  intro S I s0 _
  refine r_aload_n C 0 rfl rfl rfl rfl ?_
  refine r_ic (v := nI 4) C rfl (by decide) ?_
  refine r_newI (N := 3) C rfl rfl (by decide) (by omega) (by omega) ?_
  refine r_eqS ?_
  intro S2 M2 hS2 hM2
  have I := I.step (n2 := 4) (S2 := S2) (M2 := M2) (F' := fun S' M' => S' 3 = arE 0 4) (fun c h1 h2 => ⟨by rw [← hS2]; exact shUp_ne (by omega), by rw [← hM2]; exact aset_ne _ _ (by omega)⟩) (by omega) (fun S' M' h => by rw [(h 3 (by omega) (by omega)).1, ← hS2]; exact shUp_eq)
  have s0 := (congrFun hS2.symm 0).trans ((shUp_ne (by omega)).trans s0)
  have m0 := (congrFun hM2.symm 0).trans ((aset_ne _ _ (by omega)).trans m0)
  refine r_put0 C I s0 (by omega) rfl f_X11_21 rfl (show 4 < 19 by decide) rfl rfl (fl' := [some (.ref 1), none, none, some (.ref 2), some (.ref 3), none, nul, nul, nul, nul, nul, nul, nul, nul, nul, nul, nul, nul, nul]) rfl ?_
  clear I s0
  intro S I s0 _
  refine r_aload_n C 0 rfl rfl rfl rfl ?_
  refine r_newo (N := 4) C rfl nw_X6 (by decide +kernel) (fl := [nul, none, none, none, none, none, none]) rfl (by omega) (show 7 ≤ _ by omega) ?_
  refine r_room 126 9120 (show 126 ≤ 127 - 1 by decide) (show 9120 ≤ 9127 - 7 by decide) ?_
  have a0 : At (shUp S 4 (.inr (6, [nul, none, none, none, none, none, none]))) (4 + 1) 0 (.inr (11, [some (.ref 1), none, none, some (.ref 2), some (.ref 3), none, nul, nul, nul, nul, nul, nul, nul, nul, nul, nul, nul, nul, nul])) := ⟨by omega, (shUp_ne (by omega)).trans s0⟩
  refine r_dup C rfl rfl ?_
  refine r_callIN (As := []) (rest := [.ref 4, .ref 0]) C rfl mnX6_init C.K.2.2.2.2.2.2.2.1.2.2.1.1 (mk_reader shUp_eq) rfl rfl (by omega) (Nat.le_of_ble_eq_true rfl) (by omega) (by omega) ?_
  clear a0
  rintro r S2 N2 M4 ⟨rfl, rfl, low, t0, t1⟩
  have lo2 := fun c (hc : c < 4) => And.intro ((low c hc).1.trans (shUp_ne (by omega))) ((low c hc).2.trans (aset_ne _ _ (by omega)))
  have I := I.step (n2 := 6) (S2 := S2) (M2 := M4) (F' := fun S' M' => S' 4 = .inr (6, rdFl 5)) (fun c h1 h2 => lo2 c h2) (by omega) (fun S' M' h => (h 4 (by omega) (by omega)).1.trans t0)
  have s0 := (lo2 0 (by omega)).1.trans s0
  have m0 := (lo2 0 (by omega)).2.trans m0
  refine r_N (N' := 6) rfl ?_
  refine r_put0 C I s0 (by omega) rfl f_X11_27 rfl (show 6 < 19 by decide) rfl rfl (fl' := [some (.ref 1), none, none, some (.ref 2), some (.ref 3), none, some (.ref 4), nul, nul, nul, nul, nul, nul, nul, nul, nul, nul, nul, nul]) rfl ?_
  clear I s0
  intro S I s0 keep
  refine r_aload_n C 0 rfl rfl rfl rfl ?_
  refine r_newo (N := 6) C rfl nw_X10 (by decide +kernel) (fl := [nul, nul, nul, none, none, none, none, none, none]) rfl (by omega) (show 9 ≤ _ by omega) ?_
  refine r_room 124 9111 (show 124 ≤ 125 - 1 by decide) (show 9111 ≤ 9120 - 9 by decide) ?_
  have a0 : At (shUp S 6 (.inr (10, [nul, nul, nul, none, none, none, none, none, none]))) (6 + 1) 0 (.inr (11, [some (.ref 1), none, none, some (.ref 2), some (.ref 3), none, some (.ref 4), nul, nul, nul, nul, nul, nul, nul, nul, nul, nul, nul, nul])) := ⟨by omega, (shUp_ne (by omega)).trans s0⟩
  refine r_dup C rfl rfl ?_
  refine r_callI (As := []) (rest := [.ref 6, .ref 0]) C rfl mnX10_init lk_X11_33 (mk_yard shUp_eq) rfl rfl (by omega) (Nat.le_of_ble_eq_true rfl) (by omega) (by omega) ?_
  clear a0
  rintro r S2 N2 M4 ⟨rfl, rfl, low, t0, t1, t2, t3, t4⟩
  have lo2 := fun c (hc : c < 6) => And.intro ((low c hc).1.trans (shUp_ne (by omega))) ((low c hc).2.trans (aset_ne _ _ (by omega)))
  have I := I.step (n2 := 10) (S2 := S2) (M2 := M4) (F' := fun S' M' => YAs S' 6 ∧ YDr M' 6 dr0) (fun c h1 h2 => lo2 c h2) (by omega) (fun S' M' h => ⟨⟨(h 6 (by omega) (by omega)).1.trans t0, (h 7 (by omega) (by omega)).1.trans t1, (h 8 (by omega) (by omega)).1.trans t2, (h 9 (by omega) (by omega)).1.trans t3⟩, t4.cong (fun c q1 q2 => (h c (by omega) (by omega)).2)⟩)
  have s0 := (lo2 0 (by omega)).1.trans s0
  have m0 := (lo2 0 (by omega)).2.trans m0
  refine r_N (N' := 10) rfl ?_
  refine r_put0 C I s0 (by omega) rfl f_X11_34 rfl (show 7 < 19 by decide) rfl rfl (fl' := [some (.ref 1), none, none, some (.ref 2), some (.ref 3), none, some (.ref 4), some (.ref 6), nul, nul, nul, nul, nul, nul, nul, nul, nul, nul, nul]) rfl ?_
  clear I s0
  intro S I s0 keep
  refine r_aload_n C 0 rfl rfl rfl rfl ?_
  refine r_newo (N := 10) C rfl nw_X10 (by decide +kernel) (fl := [nul, nul, nul, none, none, none, none, none, none]) rfl (by omega) (show 9 ≤ _ by omega) ?_
  refine r_room 120 8985 (show 120 ≤ 121 - 1 by decide) (show 8985 ≤ 8994 - 9 by decide) ?_
  have a0 : At (shUp S 10 (.inr (10, [nul, nul, nul, none, none, none, none, none, none]))) (10 + 1) 0 (.inr (11, [some (.ref 1), none, none, some (.ref 2), some (.ref 3), none, some (.ref 4), some (.ref 6), nul, nul, nul, nul, nul, nul, nul, nul, nul, nul, nul])) := ⟨by omega, (shUp_ne (by omega)).trans s0⟩
  refine r_dup C rfl rfl ?_
  refine r_callI (As := []) (rest := [.ref 10, .ref 0]) C rfl mnX10_init lk_X11_33 (mk_yard shUp_eq) rfl rfl (by omega) (Nat.le_of_ble_eq_true rfl) (by omega) (by omega) ?_
  clear a0
  rintro r S2 N2 M4 ⟨rfl, rfl, low, t0, t1, t2, t3, t4⟩
  have lo2 := fun c (hc : c < 10) => And.intro ((low c hc).1.trans (shUp_ne (by omega))) ((low c hc).2.trans (aset_ne _ _ (by omega)))
  have I := I.step (n2 := 14) (S2 := S2) (M2 := M4) (F' := fun S' M' => YAs S' 10 ∧ YDr M' 10 dr0) (fun c h1 h2 => lo2 c h2) (by omega) (fun S' M' h => ⟨⟨(h 10 (by omega) (by omega)).1.trans t0, (h 11 (by omega) (by omega)).1.trans t1, (h 12 (by omega) (by omega)).1.trans t2, (h 13 (by omega) (by omega)).1.trans t3⟩, t4.cong (fun c q1 q2 => (h c (by omega) (by omega)).2)⟩)
  have s0 := (lo2 0 (by omega)).1.trans s0
  have m0 := (lo2 0 (by omega)).2.trans m0
  refine r_N (N' := 14) rfl ?_
  refine r_put0 C I s0 (by omega) rfl f_X11_38 rfl (show 8 < 19 by decide) rfl rfl (fl' := [some (.ref 1), none, none, some (.ref 2), some (.ref 3), none, some (.ref 4), some (.ref 6), some (.ref 10), nul, nul, nul, nul, nul, nul, nul, nul, nul, nul]) rfl ?_
  clear I s0
  intro S I s0 keep
  have a0 : At S 14 0 (.inr (11, [some (.ref 1), none, none, some (.ref 2), some (.ref 3), none, some (.ref 4), some (.ref 6), some (.ref 10), nul, nul, nul, nul, nul, nul, nul, nul, nul, nul])) := ⟨by omega, s0⟩
  refine r_aload_n C 0 rfl rfl rfl rfl ?_
  refine r_ic (v := nI 4) C rfl (by decide) ?_
  refine r_aload_n C 0 rfl rfl rfl rfl ?_
  refine r_getv C rfl f_X11_38 (by assumption) rfl ?_
  refine r_callS (As := [.int (nI 4), .ref 10]) (rest := [.ref 0]) C rfl mfX11_manyWalls lk_X11_41 (mk_many (n := 4) (ma := 17) (mb := 1320) (by omega) rfl rfl) rfl rfl (by omega) (Nat.le_of_ble_eq_true rfl) (by omega) (by omega) (fun _ h => h.elim) ?_
  clear a0
  rintro r S2 N2 M4 ⟨rfl, rfl, low, t0, t1⟩
  have lo2 := low
  have I := I.step (n2 := 31) (S2 := S2) (M2 := M4) (F' := fun S' M' => S' 14 = arW 4 (fun j => some (15 + 4 * j)) ∧ ∀ i, i < 4 → WNew S' M' (15 + 4 * i) 10) (fun c h1 h2 => lo2 c h2) (by omega) (fun S' M' h => ⟨(h 14 (by omega) (by omega)).1.trans t0, fun i hi => (t1 i hi).low (p := 15 + 4 * i + 4) (by omega) (fun c q1 q2 => h c (by omega) (by omega))⟩)
  have s0 := (lo2 0 (by omega)).1.trans s0
  have m0 := (lo2 0 (by omega)).2.trans m0
  refine r_N (N' := 31) rfl ?_
  refine r_put0 C I s0 (by omega) rfl f_X11_45 rfl (show 9 < 19 by decide) rfl rfl (fl' := [some (.ref 1), none, none, some (.ref 2), some (.ref 3), none, some (.ref 4), some (.ref 6), some (.ref 10), some (.ref 14), nul, nul, nul, nul, nul, nul, nul, nul, nul]) rfl ?_
  clear I s0
  intro S I s0 keep
  have a0 : At S 31 0 (.inr (11, [some (.ref 1), none, none, some (.ref 2), some (.ref 3), none, some (.ref 4), some (.ref 6), some (.ref 10), some (.ref 14), nul, nul, nul, nul, nul, nul, nul, nul, nul])) := ⟨by omega, s0⟩
  refine r_aload_n C 0 rfl rfl rfl rfl ?_
  refine r_ic (v := nI 4) C rfl (by decide) ?_
  refine r_aload_n C 0 rfl rfl rfl rfl ?_
  refine r_getv C rfl f_X11_38 (by assumption) rfl ?_
  refine r_callS (As := [.int (nI 4), .ref 10]) (rest := [.ref 0]) C rfl mfX11_manyWalls lk_X11_41 (mk_many (n := 4) (ma := 17) (mb := 1320) (by omega) rfl rfl) rfl rfl (by omega) (Nat.le_of_ble_eq_true rfl) (by omega) (by omega) (fun _ h => h.elim) ?_
  clear a0
  rintro r S2 N2 M4 ⟨rfl, rfl, low, t0, t1⟩
  have lo2 := low
  have I := I.step (n2 := 48) (S2 := S2) (M2 := M4) (F' := fun S' M' => S' 31 = arW 4 (fun j => some (32 + 4 * j)) ∧ ∀ i, i < 4 → WNew S' M' (32 + 4 * i) 10) (fun c h1 h2 => lo2 c h2) (by omega) (fun S' M' h => ⟨(h 31 (by omega) (by omega)).1.trans t0, fun i hi => (t1 i hi).low (p := 32 + 4 * i + 4) (by omega) (fun c q1 q2 => h c (by omega) (by omega))⟩)
  have s0 := (lo2 0 (by omega)).1.trans s0
  have m0 := (lo2 0 (by omega)).2.trans m0
  refine r_N (N' := 48) rfl ?_
  refine r_put0 C I s0 (by omega) rfl f_X11_49 rfl (show 10 < 19 by decide) rfl rfl (fl' := [some (.ref 1), none, none, some (.ref 2), some (.ref 3), none, some (.ref 4), some (.ref 6), some (.ref 10), some (.ref 14), some (.ref 31), nul, nul, nul, nul, nul, nul, nul, nul]) rfl ?_
  clear I s0
  intro S I s0 keep
  refine r_aload_n C 0 rfl rfl rfl rfl ?_
  refine r_newo (N := 48) C rfl nw_X9 (by decide +kernel) (fl := [nul, nul, nul]) rfl (by omega) (show 3 ≤ _ by omega) ?_
  refine r_room 82 6225 (show 82 ≤ 83 - 1 by decide) (show 6225 ≤ 6228 - 3 by decide) ?_
  have a0 : At (shUp S 48 (.inr (9, [nul, nul, nul]))) (48 + 1) 0 (.inr (11, [some (.ref 1), none, none, some (.ref 2), some (.ref 3), none, some (.ref 4), some (.ref 6), some (.ref 10), some (.ref 14), some (.ref 31), nul, nul, nul, nul, nul, nul, nul, nul])) := ⟨by omega, (shUp_ne (by omega)).trans s0⟩
  refine r_dup C rfl rfl ?_
  refine r_aload_n C 0 rfl rfl rfl rfl ?_
  refine r_getv C rfl f_X11_38 (by assumption) rfl ?_
  refine r_callI (As := [.ref 10]) (rest := [.ref 48, .ref 0]) C rfl mnX9_init lk_X11_54 (mk_weather shUp_eq) rfl rfl (by omega) (Nat.le_of_ble_eq_true rfl) (by omega) (by omega) ?_
  clear a0
  rintro r S2 N2 M4 ⟨rfl, rfl, low, t0, t1, t2⟩
  have lo2 := fun c (hc : c < 48) => And.intro ((low c hc).1.trans (shUp_ne (by omega))) ((low c hc).2.trans (aset_ne _ _ (by omega)))
  have I := I.step (n2 := 51) (S2 := S2) (M2 := M4) (F' := fun S' M' => S' 48 = .inr (9, taFl 48 10) ∧ S' 49 = arE 0 144 ∧ S' 50 = arE 0 144) (fun c h1 h2 => lo2 c h2) (by omega) (fun S' M' h => ⟨(h 48 (by omega) (by omega)).1.trans t0, (h 49 (by omega) (by omega)).1.trans t1, (h 50 (by omega) (by omega)).1.trans t2⟩)
  have s0 := (lo2 0 (by omega)).1.trans s0
  have m0 := (lo2 0 (by omega)).2.trans m0
  refine r_N (N' := 51) rfl ?_
  refine r_put0 C I s0 (by omega) rfl f_X11_57 rfl (show 11 < 19 by decide) rfl rfl (fl' := [some (.ref 1), none, none, some (.ref 2), some (.ref 3), none, some (.ref 4), some (.ref 6), some (.ref 10), some (.ref 14), some (.ref 31), some (.ref 48), nul, nul, nul, nul, nul, nul, nul]) rfl ?_
  clear I s0
  intro S I s0 keep
  have a0 : At S 51 0 (.inr (11, [some (.ref 1), none, none, some (.ref 2), some (.ref 3), none, some (.ref 4), some (.ref 6), some (.ref 10), some (.ref 14), some (.ref 31), some (.ref 48), nul, nul, nul, nul, nul, nul, nul])) := ⟨by omega, s0⟩
  refine r_bi (v := nI 16) C rfl (by decide) ?_
  refine r_aload_n C 0 rfl rfl rfl rfl ?_
  refine r_getv C rfl f_X11_38 (by assumption) rfl ?_
  refine r_callS (As := [.int (nI 16), .ref 10]) (rest := []) C rfl mfX11_manyWalls lk_X11_41 (mk_many (n := 16) (ma := 65) (mb := 5280) (by omega) rfl rfl) rfl rfl (by omega) (Nat.le_of_ble_eq_true rfl) (by omega) (by omega) (fun _ h => h.elim) ?_
  clear a0
  rintro r S2 N2 M4 ⟨rfl, rfl, low, t0, t1⟩
  have lo2 := low
  have I := I.step (n2 := 116) (S2 := S2) (M2 := M4) (F' := fun S' M' => S' 51 = arW 16 (fun j => some (52 + 4 * j)) ∧ ∀ i, i < 16 → WNew S' M' (52 + 4 * i) 10) (fun c h1 h2 => lo2 c h2) (by omega) (fun S' M' h => ⟨(h 51 (by omega) (by omega)).1.trans t0, fun i hi => (t1 i hi).low (p := 52 + 4 * i + 4) (by omega) (fun c q1 q2 => h c (by omega) (by omega))⟩)
  have s0 := (lo2 0 (by omega)).1.trans s0
  have m0 := (lo2 0 (by omega)).2.trans m0
  refine r_N (N' := 116) rfl ?_
  have b51 := t0
  refine r_eqS ?_
  intro S M9 hS9 hM9
  rw [hS9] at s0 I b51
  rw [hM9] at m0 I
  clear low lo2 t0 t1 hS9 hM9
  refine r_astore_n C 1 rfl rfl (by exact Nat.le_of_ble_eq_true rfl) rfl ?_
  refine r_aload_n C 0 rfl rfl rfl rfl ?_
  refine r_newo (N := 116) C rfl nw_X1 (by decide +kernel) (fl := [nul, nul, nul, nul]) rfl (by omega) (show 4 ≤ _ by omega) ?_
  refine r_room 14 653 (show 14 ≤ 15 - 1 by decide) (show 653 ≤ 657 - 4 by decide) ?_
  have a0 : At (shUp S 116 (.inr (1, [nul, nul, nul, nul]))) (116 + 1) 0 (.inr (11, [some (.ref 1), none, none, some (.ref 2), some (.ref 3), none, some (.ref 4), some (.ref 6), some (.ref 10), some (.ref 14), some (.ref 31), some (.ref 48), nul, nul, nul, nul, nul, nul, nul])) := ⟨by omega, (shUp_ne (by omega)).trans s0⟩
  refine r_dup C rfl rfl ?_
  refine r_aload_n C 0 rfl rfl rfl rfl ?_
  refine r_getv C rfl f_X11_38 (by assumption) rfl ?_
  refine r_aload_n C 0 rfl rfl rfl rfl ?_
  refine r_getv C rfl f_X11_57 (by assumption) rfl ?_
  refine r_aload_n C 1 rfl rfl rfl rfl ?_
  refine r_callI (As := [.ref 10, .ref 48, .ref 51]) (rest := [.ref 116, .ref 0]) C rfl mnX1_init lk_X11_63 (mk_fore shUp_eq (by omega) ((shUp_ne (by omega)).trans b51)) rfl rfl (by omega) (Nat.le_of_ble_eq_true rfl) (by omega) (by omega) ?_
  clear a0
  rintro r S2 N2 M4 ⟨rfl, rfl, low, t0⟩
  have lo2 := fun c (hc : c < 116) => And.intro ((low c hc).1.trans (shUp_ne (by omega))) ((low c hc).2.trans (aset_ne _ _ (by omega)))
  have I := I.step (n2 := 117) (S2 := S2) (M2 := M4) (F' := fun S' M' => S' 116 = .inr (1, [some (.ref 10), some (.ref 48), some (.ref 52), some (.ref 56)])) (fun c h1 h2 => lo2 c h2) (by omega) (fun S' M' h => (h 116 (by omega) (by omega)).1.trans t0)
  have s0 := (lo2 0 (by omega)).1.trans s0
  have m0 := (lo2 0 (by omega)).2.trans m0
  refine r_N (N' := 117) rfl ?_
  refine r_put0 C I s0 (by omega) rfl f_X11_66 rfl (show 12 < 19 by decide) rfl rfl (fl' := [some (.ref 1), none, none, some (.ref 2), some (.ref 3), none, some (.ref 4), some (.ref 6), some (.ref 10), some (.ref 14), some (.ref 31), some (.ref 48), some (.ref 116), nul, nul, nul, nul, nul, nul]) rfl ?_
  clear I s0
  intro S I s0 keep
  refine r_aload_n C 0 rfl rfl rfl rfl ?_
  refine r_newo (N := 117) C rfl nw_X5 (by decide +kernel) (fl := [nul, nul, nul, nul, none]) rfl (by omega) (show 5 ≤ _ by omega) ?_
  refine r_room 13 648 (show 13 ≤ 14 - 1 by decide) (show 648 ≤ 653 - 5 by decide) ?_
  have a0 : At (shUp S 117 (.inr (5, [nul, nul, nul, nul, none]))) (117 + 1) 0 (.inr (11, [some (.ref 1), none, none, some (.ref 2), some (.ref 3), none, some (.ref 4), some (.ref 6), some (.ref 10), some (.ref 14), some (.ref 31), some (.ref 48), some (.ref 116), nul, nul, nul, nul, nul, nul])) := ⟨by omega, (shUp_ne (by omega)).trans s0⟩
  refine r_dup C rfl rfl ?_
  refine r_aload_n C 0 rfl rfl rfl rfl ?_
  refine r_getv C rfl f_X11_57 (by assumption) rfl ?_
  refine r_aload_n C 1 rfl rfl rfl rfl ?_
  refine r_callI (As := [.ref 48, .ref 51]) (rest := [.ref 117, .ref 0]) C rfl mnX5_init lk_X11_72 (mk_plan shUp_eq (congrFun (aset_own _ _ _) 4)) rfl rfl (by omega) (Nat.le_of_ble_eq_true rfl) (by omega) (by omega) ?_
  clear a0
  rintro r S2 N2 M4 ⟨rfl, rfl, low, t0, t1, t2, t3⟩
  have lo2 := fun c (hc : c < 117) => And.intro ((low c hc).1.trans (shUp_ne (by omega))) ((low c hc).2.trans (aset_ne _ _ (by omega)))
  have I := I.step (n2 := 120) (S2 := S2) (M2 := M4) (F' := fun S' M' => PAs S' ∧ M' 117 4 = 0) (fun c h1 h2 => lo2 c h2) (by omega) (fun S' M' h => ⟨⟨(h 117 (by omega) (by omega)).1.trans t0, (h 118 (by omega) (by omega)).1.trans t1, (h 119 (by omega) (by omega)).1.trans t2⟩, (congrFun (h 117 (by omega) (by omega)).2 4).trans t3⟩)
  have s0 := (lo2 0 (by omega)).1.trans s0
  have m0 := (lo2 0 (by omega)).2.trans m0
  refine r_N (N' := 120) rfl ?_
  refine r_put0 C I s0 (by omega) rfl f_X11_75 rfl (show 13 < 19 by decide) rfl rfl (fl' := [some (.ref 1), none, none, some (.ref 2), some (.ref 3), none, some (.ref 4), some (.ref 6), some (.ref 10), some (.ref 14), some (.ref 31), some (.ref 48), some (.ref 116), some (.ref 117), nul, nul, nul, nul, nul]) rfl ?_
  clear I s0
  intro S I s0 keep
  refine r_aload_n C 0 rfl rfl rfl rfl ?_
  refine r_newo (N := 120) C rfl nw_X7 (by decide +kernel) (fl := [nul, nul, none, none, none]) rfl (by omega) (show 5 ≤ _ by omega) ?_
  refine r_room 10 633 (show 10 ≤ 11 - 1 by decide) (show 633 ≤ 638 - 5 by decide) ?_
  have a0 : At (shUp S 120 (.inr (7, [nul, nul, none, none, none]))) (120 + 1) 0 (.inr (11, [some (.ref 1), none, none, some (.ref 2), some (.ref 3), none, some (.ref 4), some (.ref 6), some (.ref 10), some (.ref 14), some (.ref 31), some (.ref 48), some (.ref 116), some (.ref 117), nul, nul, nul, nul, nul])) := ⟨by omega, (shUp_ne (by omega)).trans s0⟩
  refine r_dup C rfl rfl ?_
  refine r_aload_n C 0 rfl rfl rfl rfl ?_
  refine r_getv C rfl f_X11_57 (by assumption) rfl ?_
  refine r_aload_n C 1 rfl rfl rfl rfl ?_
  refine r_callI (As := [.ref 48, .ref 51]) (rest := [.ref 120, .ref 0]) C rfl mnX7_init lk_X11_81 (mk_turn shUp_eq) rfl rfl (by omega) (Nat.le_of_ble_eq_true rfl) (by omega) (by omega) ?_
  clear a0
  rintro r S2 N2 M4 ⟨rfl, rfl, low, t0⟩
  have lo2 := fun c (hc : c < 120) => And.intro ((low c hc).1.trans (shUp_ne (by omega))) ((low c hc).2.trans (aset_ne _ _ (by omega)))
  have I := I.step (n2 := 121) (S2 := S2) (M2 := M4) (F' := fun S' M' => S' 120 = .inr (7, [some (.ref 48), some (.ref 51), none, none, none])) (fun c h1 h2 => lo2 c h2) (by omega) (fun S' M' h => (h 120 (by omega) (by omega)).1.trans t0)
  have s0 := (lo2 0 (by omega)).1.trans s0
  have m0 := (lo2 0 (by omega)).2.trans m0
  refine r_N (N' := 121) rfl ?_
  refine r_put0 C I s0 (by omega) rfl f_X11_82 rfl (show 14 < 19 by decide) rfl rfl (fl' := [some (.ref 1), none, none, some (.ref 2), some (.ref 3), none, some (.ref 4), some (.ref 6), some (.ref 10), some (.ref 14), some (.ref 31), some (.ref 48), some (.ref 116), some (.ref 117), some (.ref 120), nul, nul, nul, nul]) rfl ?_
  clear I s0
  intro S I s0 keep
  refine r_aload_n C 0 rfl rfl rfl rfl ?_
  refine r_newo (N := 121) C rfl nw_X4 (by decide +kernel) (fl := [nul, nul, nul, none, nul, none]) rfl (by omega) (show 6 ≤ _ by omega) ?_
  refine r_room 9 627 (show 9 ≤ 10 - 1 by decide) (show 627 ≤ 633 - 6 by decide) ?_
  have a0 : At (shUp S 121 (.inr (4, [nul, nul, nul, none, nul, none]))) (121 + 1) 0 (.inr (11, [some (.ref 1), none, none, some (.ref 2), some (.ref 3), none, some (.ref 4), some (.ref 6), some (.ref 10), some (.ref 14), some (.ref 31), some (.ref 48), some (.ref 116), some (.ref 117), some (.ref 120), nul, nul, nul, nul])) := ⟨by omega, (shUp_ne (by omega)).trans s0⟩
  refine r_dup C rfl rfl ?_
  refine r_aload_n C 0 rfl rfl rfl rfl ?_
  refine r_getv C rfl f_X11_57 (by assumption) rfl ?_
  refine r_aload_n C 1 rfl rfl rfl rfl ?_
  refine r_callI (As := [.ref 48, .ref 51]) (rest := [.ref 121, .ref 0]) C rfl mnX4_init lk_X11_88 (mk_order shUp_eq (congrFun (aset_own _ _ _) 5)) rfl rfl (by omega) (Nat.le_of_ble_eq_true rfl) (by omega) (by omega) ?_
  clear a0
  rintro r S2 N2 M4 ⟨rfl, rfl, low, t0, t1, t2, t3⟩
  have lo2 := fun c (hc : c < 121) => And.intro ((low c hc).1.trans (shUp_ne (by omega))) ((low c hc).2.trans (aset_ne _ _ (by omega)))
  have I := I.step (n2 := 124) (S2 := S2) (M2 := M4) (F' := fun S' M' => OAs S' ∧ M' 121 5 = 0) (fun c h1 h2 => lo2 c h2) (by omega) (fun S' M' h => ⟨⟨(h 121 (by omega) (by omega)).1.trans t0, (h 122 (by omega) (by omega)).1.trans t1, (h 123 (by omega) (by omega)).1.trans t2⟩, (congrFun (h 121 (by omega) (by omega)).2 5).trans t3⟩)
  have s0 := (lo2 0 (by omega)).1.trans s0
  have m0 := (lo2 0 (by omega)).2.trans m0
  refine r_N (N' := 124) rfl ?_
  refine r_put0 C I s0 (by omega) rfl f_X11_89 rfl (show 15 < 19 by decide) rfl rfl (fl' := [some (.ref 1), none, none, some (.ref 2), some (.ref 3), none, some (.ref 4), some (.ref 6), some (.ref 10), some (.ref 14), some (.ref 31), some (.ref 48), some (.ref 116), some (.ref 117), some (.ref 120), some (.ref 121), nul, nul, nul]) rfl ?_
  clear I s0
  intro S I s0 keep
  refine r_aload_n C 0 rfl rfl rfl rfl ?_
  refine r_newo (N := 124) C rfl nw_X0 (by decide +kernel) (fl := [none, none, none]) rfl (by omega) (show 3 ≤ _ by omega) ?_
  refine r_room 6 612 (show 6 ≤ 7 - 1 by decide) (show 612 ≤ 615 - 3 by decide) ?_
  have a0 : At (shUp S 124 (.inr (0, [none, none, none]))) (124 + 1) 0 (.inr (11, [some (.ref 1), none, none, some (.ref 2), some (.ref 3), none, some (.ref 4), some (.ref 6), some (.ref 10), some (.ref 14), some (.ref 31), some (.ref 48), some (.ref 116), some (.ref 117), some (.ref 120), some (.ref 121), nul, nul, nul])) := ⟨by omega, (shUp_ne (by omega)).trans s0⟩
  refine r_dup C rfl rfl ?_
  refine r_callIN (As := []) (rest := [.ref 124, .ref 0]) C rfl mnX0_init C.K.2.2.2.2.2.2.2.1.2.2.1.2.1 (mk_bricks shUp_eq (congrFun (aset_own _ _ _) 0)) rfl rfl (by omega) (Nat.le_of_ble_eq_true rfl) (by omega) (by omega) ?_
  clear a0
  rintro r S2 N2 M4 ⟨rfl, rfl, tS, low, t0⟩
  have lo2 := fun c (hc : c < 124) => And.intro ((low c hc).1.trans (shUp_ne (by omega))) ((low c hc).2.trans (aset_ne _ _ (by omega)))
  have I := I.step (n2 := 125) (S2 := S2) (M2 := M4) (F' := fun S' M' => S' 124 = .inr (0, [none, none, none]) ∧ BRC M' 124 (0, -1, -1)) (fun c h1 h2 => lo2 c h2) (by omega) (fun S' M' h => ⟨(h 124 (by omega) (by omega)).1.trans (by rw [tS]; exact shUp_eq), t0.cong (h 124 (by omega) (by omega)).2⟩)
  have s0 := (lo2 0 (by omega)).1.trans s0
  have m0 := (lo2 0 (by omega)).2.trans m0
  refine r_N (N' := 125) rfl ?_
  refine r_put0 C I s0 (by omega) rfl f_X11_96 rfl (show 16 < 19 by decide) rfl rfl (fl' := [some (.ref 1), none, none, some (.ref 2), some (.ref 3), none, some (.ref 4), some (.ref 6), some (.ref 10), some (.ref 14), some (.ref 31), some (.ref 48), some (.ref 116), some (.ref 117), some (.ref 120), some (.ref 121), some (.ref 124), nul, nul]) rfl ?_
  clear I s0
  intro S I s0 keep
  refine r_aload_n C 0 rfl rfl rfl rfl ?_
  refine r_newo (N := 125) C rfl nw_X3 (by decide +kernel) (fl := [nul, nul, none, none, none, none]) rfl (by omega) (show 6 ≤ _ by omega) ?_
  refine r_room 5 606 (show 5 ≤ 6 - 1 by decide) (show 606 ≤ 612 - 6 by decide) ?_
  have a0 : At (shUp S 125 (.inr (3, [nul, nul, none, none, none, none]))) (125 + 1) 0 (.inr (11, [some (.ref 1), none, none, some (.ref 2), some (.ref 3), none, some (.ref 4), some (.ref 6), some (.ref 10), some (.ref 14), some (.ref 31), some (.ref 48), some (.ref 116), some (.ref 117), some (.ref 120), some (.ref 121), some (.ref 124), nul, nul])) := ⟨by omega, (shUp_ne (by omega)).trans s0⟩
  refine r_dup C rfl rfl ?_
  refine r_callIN (As := []) (rest := [.ref 125, .ref 0]) C rfl mnX3_init C.K.2.2.2.2.2.2.2.1.2.2.1.2.2 (mk_houses shUp_eq (congrFun (aset_own _ _ _) 2) (fun _ => 0) (fun _ => 0)) rfl rfl (by omega) (Nat.le_of_ble_eq_true rfl) (by omega) (by omega) ?_
  clear a0
  rintro r S2 N2 M4 ⟨rfl, rfl, low, t0, t1, t2, t3⟩
  have lo2 := fun c (hc : c < 125) => And.intro ((low c hc).1.trans (shUp_ne (by omega))) ((low c hc).2.trans (aset_ne _ _ (by omega)))
  have I := I.step (n2 := 128) (S2 := S2) (M2 := M4) (F' := fun S' M' => HAs S' ∧ HOC M' 125 0 (fun _ => 0) (fun _ => 0)) (fun c h1 h2 => lo2 c h2) (by omega) (fun S' M' h => ⟨⟨(h 125 (by omega) (by omega)).1.trans t0, (h 126 (by omega) (by omega)).1.trans t1, (h 127 (by omega) (by omega)).1.trans t2⟩, t3.cong2 (h 125 (by omega) (by omega)).2 (h 126 (by omega) (by omega)).2 (h 127 (by omega) (by omega)).2⟩)
  have s0 := (lo2 0 (by omega)).1.trans s0
  have m0 := (lo2 0 (by omega)).2.trans m0
  refine r_N (N' := 128) rfl ?_
  refine r_put0 C I s0 (by omega) rfl f_X11_103 rfl (show 17 < 19 by decide) rfl rfl (fl' := [some (.ref 1), none, none, some (.ref 2), some (.ref 3), none, some (.ref 4), some (.ref 6), some (.ref 10), some (.ref 14), some (.ref 31), some (.ref 48), some (.ref 116), some (.ref 117), some (.ref 120), some (.ref 121), some (.ref 124), some (.ref 125), nul]) rfl ?_
  clear I s0
  intro S I s0 keep
  refine r_aload_n C 0 rfl rfl rfl rfl ?_
  refine r_newo (N := 128) C rfl nw_X2 (by decide +kernel) (fl := [nul, nul]) rfl (by omega) (show 2 ≤ _ by omega) ?_
  refine r_room 2 580 (show 2 ≤ 3 - 1 by decide) (show 580 ≤ 582 - 2 by decide) ?_
  have a0 : At (shUp S 128 (.inr (2, [nul, nul]))) (128 + 1) 0 (.inr (11, [some (.ref 1), none, none, some (.ref 2), some (.ref 3), none, some (.ref 4), some (.ref 6), some (.ref 10), some (.ref 14), some (.ref 31), some (.ref 48), some (.ref 116), some (.ref 117), some (.ref 120), some (.ref 121), some (.ref 124), some (.ref 125), nul])) := ⟨by omega, (shUp_ne (by omega)).trans s0⟩
  refine r_dup C rfl rfl ?_
  refine r_callI (As := []) (rest := [.ref 128, .ref 0]) C rfl mnX2_init lk_X11_109 (mk_guess shUp_eq (fun _ => 0)) rfl rfl (by omega) (Nat.le_of_ble_eq_true rfl) (by omega) (by omega) ?_
  clear a0
  rintro r S2 N2 M4 ⟨rfl, rfl, low, t0, t1, t2, t3⟩
  have lo2 := fun c (hc : c < 128) => And.intro ((low c hc).1.trans (shUp_ne (by omega))) ((low c hc).2.trans (aset_ne _ _ (by omega)))
  have I := I.step (n2 := 131) (S2 := S2) (M2 := M4) (F' := fun S' M' => GAs S' ∧ GC M' 128 (fun _ => none) (fun _ => 0)) (fun c h1 h2 => lo2 c h2) (by omega) (fun S' M' h => ⟨⟨(h 128 (by omega) (by omega)).1.trans t0, (h 129 (by omega) (by omega)).1.trans t1, (h 130 (by omega) (by omega)).1.trans t2⟩, t3.cong (h 129 (by omega) (by omega)).2 (h 130 (by omega) (by omega)).2⟩)
  have s0 := (lo2 0 (by omega)).1.trans s0
  have m0 := (lo2 0 (by omega)).2.trans m0
  refine r_N (N' := 131) rfl ?_
  refine r_put0 C I s0 (by omega) rfl f_X11_110 rfl (show 18 < 19 by decide) rfl rfl (fl' := [some (.ref 1), none, none, some (.ref 2), some (.ref 3), none, some (.ref 4), some (.ref 6), some (.ref 10), some (.ref 14), some (.ref 31), some (.ref 48), some (.ref 116), some (.ref 117), some (.ref 120), some (.ref 121), some (.ref 124), some (.ref 125), some (.ref 128)]) rfl ?_
  clear I s0
  intro S I s0 keep
  obtain ⟨⟨⟨⟨⟨⟨⟨⟨⟨⟨⟨⟨⟨⟨⟨⟨⟨⟨-, f1⟩, -⟩, f2, g2⟩, f3⟩, f4⟩, f6, g6⟩, f10, g10⟩, f14, fw⟩, f31, fi⟩, f48⟩, f51, fb⟩, f116⟩, f117, g117⟩, f120⟩, f121, g121⟩, f124, g124⟩, f125, g125⟩, f128, g128⟩ := I _ _ (fun _ _ _ => ⟨rfl, rfl⟩)
  refine q_vret C hQ rfl rfl ⟨rfl, rfl, ?_, ?_⟩
  · exact mu_of ⟨s0, f1, f2, f3, f4⟩ f6 f10 f14 fw f31 fi f48 f51 fb f116 f117 f120 f121 f124 f125 f128
  · exact ci_of m0 g2 g6 g10 fw g117 g121 g124 g125 g128
end MAKEC
