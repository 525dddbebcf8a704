section CALLS
variable {k : MC} {E : VE} {md : MD} {kd : List (Nat × Instr × Nat)} {d mc ms : Nat} {Q : State → Prop} {cm sm : Nat} {Sh : Nat → SE} {N : Nat} {G : Bool} {M : MM} {pc : Nat} {L : List (Option Value)} {st : List Value}
/-- a thing of this name was thrown over the method -/
def TH (k : MC) (E : VE) (Q : State → Prop) (cm sm : Nat) (Sh : Nat → SE) (N : Nat) (M : MM) (pc : Nat) (L : List (Option Value)) (X : String) : Prop :=
  ∀ (ls : Array Slot) (H : Heap) (locs : List Loc) (cells slots : Nat) (rest : List Value) (q : Addr) (ce : Cell), LR E L ls → HR E Sh N false M H → va_S (AE E) (kS k).heap H locs → cells + cm ≤ (kR k).cells → slots + sm ≤ (kR k).slots → H[q]? = some ce → ce.vm = .none → (kS k).vm.findClass X = some ce.cls →
    vx_W k.1 k.2.1 k.2.2.1 (kR k) (kS k) (kM k) (kA k) (kB k) (kMe k) (kC k) H locs cells slots Q (F0 (kM k) pc ls rest) q
theorem TH.out (C : CK k E md kd d mc ms) {Post : Option Value → (Nat → SE) → Nat → MM → Prop} {PX : String → Prop} {X : String} (h : PX X) (hne : md.1.cls ≠ "MudWallsLaw") : TH k E (QM k E mc ms Sh N G M Post PX) cm sm Sh N M pc L X := by
  intro ls H locs cells slots rest q ce hL hH hS hc hs h1 h2 h3
  rw [C.ce] at hc
  rw [C.sl] at hs
  refine vx_out (fun x hx => (C.ex.elim (fun h => absurd h hne) (fun h => h x hx)).elim) C.lk h1 h2 h3 (fun t ht hvm => ⟨h, by rw [ht]; exact hH, hS.F ht⟩) hS.2.2 ?_ ?_
  · exact Nat.le_trans (Nat.le_add_right _ _) hc
  · exact Nat.le_trans (Nat.le_add_right _ _) hs
theorem good_all (md' : MD) (h : Cond.code md'.1 md'.2.1 md'.2.2.1 md'.2.2.2 ∈ TB) : GoodIn TB (Cond.code md'.1 md'.2.1 md'.2.2.1 md'.2.2.2 :: TB) := by
  intro w hw
  rcases List.mem_cons.mp hw with rfl | hw
  · exact ⟨h, good_of_word (TB_good h)⟩
  · exact ⟨hw, good_of_word (TB_good hw)⟩
theorem blind {av : List Value} : FrameBlind (va_Pc (av.map (cv E)) (fun U => HR E Sh N G M U.heap ∧ KX E U)) := fun a U g mk h => ⟨h.1, h.2.1, h.2.2.moved (s := U) (U := U.calling g mk a) (State.WarmedH.refl U) (Nat.le_refl _) (fun _ _ _ => rfl)⟩
theorem pre_at (C : CK k E md kd d mc ms) {H : Heap} {locs : List Loc} (hH : HR E Sh N G M H) (hS : va_S (AE E) (kS k).heap H locs) (av : List Value) : ∀ U : State, U.heap = H → (kS k).WarmedH U.vm → va_Pc (av.map (cv E)) (fun U => HR E Sh N G M U.heap ∧ KX E U) (av.map (cv E)).toArray U :=
  fun U hU hW => ⟨rfl, by rw [hU]; exact hH, C.K.moved hW (by rw [hU]; exact hS.1) (fun a h1 h2 => by rw [hU]; exact hS.2.1 a h1 h2)⟩
theorem opt_list (r : Option Value) (rest : List Value) : (r.map (cv E)).toList ++ rest.map (cv E) = (r.toList ++ rest).map (cv E) := by cases r <;> simp
theorem callb (C : CK k E md kd d mc ms) {md' : MD} {n idx d' mc' ms' : Nat} (hm : MF md' n) (hlk : Cond.methodLink md.1.cls idx md'.1 ∈ TB) (hd' : d' < d) :
    CallB (kR k) (kS k) (kA k) md.1.cls idx md'.1 md'.2.1 md'.2.2.1 md'.2.2.2 (Cond.code md'.1 md'.2.1 md'.2.2.1 md'.2.2.2 :: TB) { frames := d', cells := mc', slots := ms', locals := 40 * d' } mc' ms' n :=
  callB_of n C.ts (good_all md' hm.1) rfl rfl rfl (C.ts _ hm.2.1) (C.ts _ hlk) hm.2.2.1 (by
    have h20 := hm.2.2.2
    have h21 := C.lc
    exact ⟨by rw [C.fr]; exact hd', by show 8 + (md'.2.2.1 + 11) + 40 * d' ≤ (kR k).locals; omega⟩)
/-- behind a call -/
theorem run_W {H : Heap} {locs : List Loc} {cells slots mc' ms' : Nat} {ls : Array Slot} {st0 rest : List Value} {a : Array Value} {Post : Option Value → (Nat → SE) → Nat → MM → Prop} {PX : String → Prop}
    (hr : vx_Run k.1 k.2.1 k.2.2.1 (kR k) (kS k) (kM k) (kA k) (kB k) (kMe k) (kC k) H locs cells slots mc' ms' (F0 (kM k) pc ls st0) (rest.map (cv E)) (QC E G Post a) (XF E PX Sh N M) (AE E)) (hL : LR E L ls) (hS : va_S (AE E) (kS k).heap H locs) (hc : cells + cm ≤ (kR k).cells) (hs : slots + sm ≤ (kR k).slots) (h1 : mc' ≤ cm) (h2 : ms' ≤ sm)
    (kx : ∀ X, PX X → TH k E Q (cm - mc') (sm - ms') Sh N M pc L X)
    (kk : ∀ r Sh' N' M', Post r Sh' N' M' → PT k E Q (cm - mc') (sm - ms') Sh' N' G M' (pc + 3) L (r.toList ++ rest)) : W k.1 k.2.1 k.2.2.1 (kR k) (kS k) (kM k) (kA k) (kB k) (kMe k) (kC k) H locs cells slots Q (F0 (kM k) pc ls st0) := by
  intro T hT X
  rcases hr T hT X with ⟨v, st₀, t, T', Lo, h0, X', hLo, e1, e2, ⟨⟨r, Sh', N', M', hv, hp, hb⟩, hF⟩, st⟩ | ⟨q, st₀, t, T', Lo, X9, ce, h0, X', hLo, e1, e2, ⟨hp, hb, hF⟩, hce, hcv, hcl, st⟩
  · cases hv
    obtain ⟨k1, k2, k3⟩ := vx_keep h0 e1 hS (fun _ _ h => h) (fun _ h => h) hLo hF
    have hw := kk r Sh' N' M' hp ls T'.heap (locs ++ Lo) (cells + mc') (slots + ms') hL (by rw [e1]; exact hb) k3 (by omega) (by omega)
    rw [← opt_list] at hw
    obtain ⟨t2, a1, b1⟩ := hw T' rfl X'
    exact ⟨t2, st t2 a1, b1⟩
  · obtain ⟨k1, k2, k3⟩ := vx_keep h0 e1 hS (fun _ _ h => h) (fun _ h => h) hLo hF
    obtain ⟨t2, a1, b1⟩ := kx X9 hp ls T'.heap (locs ++ Lo) (cells + mc') (slots + ms') (rest.map (cv E)) q ce hL (by rw [e1]; exact hb) k3 (by omega) (by omega) (by rw [e1]; exact hce) hcv hcl T' rfl X'
    exact ⟨t2, st.trans a1, b1⟩
theorem map_rev (As rest : List Value) (v : Value) : (As.reverse ++ v :: rest).map (cv E) = (As.map (cv E)).reverse ++ cv E v :: rest.map (cv E) := by simp
/-- a call by an object -/
theorem r_callV (C : CK k E md kd d mc ms) {idx o ci n d' mc' ms' : Nat} {fl : List (Option Value)} {md' : MD} {As rest : List Value} {Post : Option Value → (Nat → SE) → Nat → MM → Prop} {PX : String → Prop}
    (hd : cod kd pc = some (.invokevirtual idx, 3)) (hm : MI md' n) (hlk : Cond.methodLink md.1.cls idx md'.1 ∈ TB) (ho : At Sh N o (.inr (ci, fl))) (hci : (vwCl[ci]?).map (fun q => q.1) = some md'.1.cls)
    (hC : Con E md' d' mc' ms' (.ref o :: As) Sh N G M Post PX) (hn : As.length = n) (hLn : L.length = md.2.2.1) (hd' : d' < d) (hrest : (rest.map fun v => v.category).sum ≤ 8) (h1 : mc' ≤ cm) (h2 : ms' ≤ sm)
    (kx : ∀ X, PX X → TH k E Q (cm - mc') (sm - ms') Sh N M pc L X)
    (kk : ∀ r Sh' N' M', Post r Sh' N' M' → PT k E Q (cm - mc') (sm - ms') Sh' N' G M' (pc + 3) L (r.toList ++ rest)) : PT k E Q cm sm Sh N G M pc L (As.reverse ++ .ref o :: rest) := by
  intro ls H locs cells slots hL hH hS hc hs
  rw [map_rev]
  have hcell := hH.at ho.1
  rw [ho.2] at hcell
  obtain ⟨r, g1, cell, g2, g3, g4, g5⟩ := hcell
  have hrc : r.1 = md'.1.cls := by rw [g1] at hci; exact Option.some.inj hci
  have hrecv : ∃ cellB : Cell, H[E.2.1 + o]? = some cellB ∧ cellB.vm.isStatics = false ∧ (kS k).vm.findClass md'.1.cls = some cellB.cls := by
    refine ⟨cell, g2, by rw [g4]; rfl, ?_⟩
    rw [g3, ← hrc]
    exact (C.va.1 ci _ g1).2.1
  refine run_W (a := (cv E (.ref o) :: As.map (cv E)).toArray) (rest := rest) (vx_runV (C := md'.1.cls) (As := As.map (cv E)) (Pc := va_Pc ((.ref o :: As).map (cv E)) (fun U => HR E Sh N G M U.heap ∧ KX E U)) ⟨C.x, C.b, C.ml, C.own, C.ts⟩ (hC k.2.1 C.tr) ⟨callb C hm.1 hlk hd', C.ts _ hm.2.1, C.ts _ hm.2.2⟩ ⟨blind, hrecv, pre_at C hH hS (.ref o :: As)⟩ rfl (by rw [List.length_map]; exact hn) ?_ rfl ?_ (C.dec hd) ⟨by omega, by omega⟩) hL hS hc hs h1 h2 kx kk
  · show ls.size = md.2.2.1
    rw [hL.1, hLn]
  · show 2 * 0 + ((rest.map (cv E)).map fun v => v.category).sum ≤ 8
    rw [List.map_map, show ((fun v : Value => v.category) ∘ cv E) = (fun v => v.category) from funext (fun v => cv_cat E v)]
    omega
theorem cat_rest (rest : List Value) (h : (rest.map fun v => v.category).sum ≤ 8) : 2 * 0 + ((rest.map (cv E)).map fun v => v.category).sum ≤ 8 := by
  rw [List.map_map, show ((fun v : Value => v.category) ∘ cv E) = (fun v => v.category) from funext (fun v => cv_cat E v)]
  omega
/-- a static call -/
theorem r_callS (C : CK k E md kd d mc ms) {idx n d' mc' ms' : Nat} {md' : MD} {As rest : List Value} {Post : Option Value → (Nat → SE) → Nat → MM → Prop} {PX : String → Prop}
    (hd : cod kd pc = some (.invokestatic idx, 3)) (hm : MS md' n) (hlk : Cond.methodLink md.1.cls idx md'.1 ∈ TB)
    (hC : Con E md' d' mc' ms' As Sh N G M Post PX) (hn : As.length = n) (hLn : L.length = md.2.2.1) (hd' : d' < d) (hrest : (rest.map fun v => v.category).sum ≤ 8) (h1 : mc' ≤ cm) (h2 : ms' ≤ sm)
    (kx : ∀ X, PX X → TH k E Q (cm - mc') (sm - ms') Sh N M pc L X)
    (kk : ∀ r Sh' N' M', Post r Sh' N' M' → PT k E Q (cm - mc') (sm - ms') Sh' N' G M' (pc + 3) L (r.toList ++ rest)) : PT k E Q cm sm Sh N G M pc L (As.reverse ++ rest) := by
  intro ls H locs cells slots hL hH hS hc hs
  rw [List.map_append, List.map_reverse]
  exact run_W (a := (As.map (cv E)).toArray) (rest := rest) (vx_runS (As := As.map (cv E)) (Pc := va_Pc (As.map (cv E)) (fun U => HR E Sh N G M U.heap ∧ KX E U)) ⟨C.x, C.b, C.ml, C.own, C.ts⟩ (hC k.2.1 C.tr) ⟨callb C hm.1 hlk hd', C.ts _ hm.2⟩ ⟨blind, pre_at C hH hS As⟩ rfl (by rw [List.length_map]; exact hn) (by show ls.size = md.2.2.1; rw [hL.1, hLn]) rfl (cat_rest rest hrest) (C.dec hd) ⟨by omega, by omega⟩) hL hS hc hs h1 h2 kx kk
theorem Con.met {md' : MD} {d' mc' ms' : Nat} {av : List Value} {Post : Option Value → (Nat → SE) → Nat → MM → Prop} (h : Con E md' d' mc' ms' av Sh N G M Post (fun _ => False)) (l : Launch) (hl : l.stackTraces = false) : Met l md'.1 (Cond.code md'.1 md'.2.1 md'.2.2.1 md'.2.2.2 :: TB) { frames := d', cells := mc', slots := ms', locals := 40 * d' } (va_Pc (av.map (cv E)) (fun U => HR E Sh N G M U.heap ∧ KX E U)) (QC E G Post) mc' ms' (AE E) := by
  intro p e ha hc hk s m args below hf happ hP hK
  obtain ⟨n, o, g1, g2, g3, g4⟩ := h l hl p e ha hc hk s m args below hf happ hP hK
  refine ⟨n, o, g1, g2, g3, ?_⟩
  rcases g4 with g4 | ⟨q, -, X, ce, Lo, ⟨hx, -⟩, -⟩
  · exact g4
  · exact hx.elim
/-- a maker is called -/
theorem r_callI (C : CK k E md kd d mc ms) {idx n d' mc' ms' : Nat} {md' : MD} {o : Nat} {As rest : List Value} {Post : Option Value → (Nat → SE) → Nat → MM → Prop}
    (hd : cod kd pc = some (.invokespecial idx, 3)) (hm : MN md' n) (hlk : Cond.methodLink md.1.cls idx md'.1 ∈ TB)
    (hC : Con E md' d' mc' ms' (.ref o :: As) Sh N G M Post (fun _ => False)) (hn : As.length = n) (hLn : L.length = md.2.2.1) (hd' : d' < d) (hrest : (rest.map fun v => v.category).sum ≤ 8) (h1 : mc' ≤ cm) (h2 : ms' ≤ sm)
    (kk : ∀ r Sh' N' M', Post r Sh' N' M' → PT k E Q (cm - mc') (sm - ms') Sh' N' G M' (pc + 3) L (r.toList ++ rest)) : PT k E Q cm sm Sh N G M pc L (As.reverse ++ .ref o :: rest) := by
  intro ls H locs cells slots hL hH hS hc hs
  rw [map_rev]
  have hM := hC.met k.2.1 C.tr
  have cb := callb (mc' := mc') (ms' := ms') C hm.1 hlk hd'
  rw [hm.2.2.2] at hM cb
  have hr := va_runI (cells := cells) (slots := slots) (rest := rest.map (cv E)) (As := As.map (cv E)) (b := E.2.1 + o) (g := F0 (kM k) pc ls ((As.map (cv E)).reverse ++ Value.ref (E.2.1 + o) :: rest.map (cv E))) (Pc := va_Pc ((.ref o :: As).map (cv E)) (fun U => HR E Sh N G M U.heap ∧ KX E U)) (locs := locs) (meth := kMe k) (below := kB k) (e := k.2.2.1) ⟨C.x, C.b, C.ml, C.own, C.ts⟩ hM ⟨cb, hm.2.2.1, C.ts _ hm.2.1⟩ ⟨blind, pre_at C hH hS (.ref o :: As)⟩ rfl (by rw [List.length_map]; exact hn) (by show ls.size = md.2.2.1; rw [hL.1, hLn]) rfl (cat_rest rest hrest) (C.dec hd) ⟨by omega, by omega⟩
  intro T hT X
  obtain ⟨v, st₀, t, T', Lo, h0, X', hLo, e1, e2, ⟨⟨r, Sh', N', M', hv, hp, hb⟩, hF⟩, st⟩ := hr T hT X
  cases hv
  obtain ⟨k1, k2, k3⟩ := vx_keep h0 e1 hS (fun _ _ h => h) (fun _ h => h) hLo hF
  have hw := kk r Sh' N' M' hp ls T'.heap (locs ++ Lo) (cells + mc') (slots + ms') hL (by rw [e1]; exact hb) k3 (by omega) (by omega)
  rw [← opt_list] at hw
  obtain ⟨t2, a1, b1⟩ := hw T' rfl X'
  exact ⟨t2, st t2 a1, b1⟩
/-- returns -/
theorem r_iret (C : CK k E md kd d mc ms) {Sh0 : Nat → SE} {N0 : Nat} {M0 : MM} {Post : Option Value → (Nat → SE) → Nat → MM → Prop} {PX : String → Prop} {v : Int32} {ty : FieldType} (hd : cod kd pc = some (.ireturn, 1)) (ht : md.2.2.2 = some ty) (hn : narrow ty (.int v) = .int v) (hp : Post (some (.int v)) Sh N M) : PT k E (QM k E mc ms Sh0 N0 G M0 Post PX) cm sm Sh N G M pc L [.int v] := by
  intro ls H locs cells slots hL hH hS hc hs
  rw [C.ce] at hc
  rw [C.sl] at hs
  refine W.widen (k := mc) (n := ms) (Nat.le_trans (Nat.le_add_right _ _) hc) (Nat.le_trans (Nat.le_add_right _ _) hs) (vx_ret ?_)
  exact W.zret C.x C.b (by rw [C.rt]; exact ht) hn (fun t ht' hW => ⟨⟨some (.int v), Sh, N, M, rfl, hp, by rw [ht']; exact hH⟩, hS.F ht'⟩) hS.2.2 (C.dec hd) C.lk
theorem r_vret (C : CK k E md kd d mc ms) {Sh0 : Nat → SE} {N0 : Nat} {M0 : MM} {Post : Option Value → (Nat → SE) → Nat → MM → Prop} {PX : String → Prop} (hd : cod kd pc = some (.return_, 1)) (ht : md.2.2.2 = none) (hp : Post none Sh N M) : PT k E (QM k E mc ms Sh0 N0 G M0 Post PX) cm sm Sh N G M pc L [] := by
  intro ls H locs cells slots hL hH hS hc hs
  rw [C.ce] at hc
  rw [C.sl] at hs
  refine W.widen (k := mc) (n := ms) (Nat.le_trans (Nat.le_add_right _ _) hc) (Nat.le_trans (Nat.le_add_right _ _) hs) (vx_ret ?_)
  exact W.vret C.x C.b (by rw [C.rt]; exact ht) (fun t ht' hW => ⟨⟨none, Sh, N, M, rfl, hp, by rw [ht']; exact hH⟩, hS.F ht'⟩) hS.2.2 (C.dec hd) C.lk
theorem r_aret (C : CK k E md kd d mc ms) {Sh0 : Nat → SE} {N0 : Nat} {M0 : MM} {Post : Option Value → (Nat → SE) → Nat → MM → Prop} {PX : String → Prop} {o : Nat} {rt : FieldType} (hd : cod kd pc = some (.areturn, 1)) (ht : md.2.2.2 = some rt) (hrt : (∃ n, rt = .object n) ∨ ∃ t, rt = .array t) (hp : Post (some (.ref o)) Sh N M) : PT k E (QM k E mc ms Sh0 N0 G M0 Post PX) cm sm Sh N G M pc L [.ref o] := by
  intro ls H locs cells slots hL hH hS hc hs
  rw [C.ce] at hc
  rw [C.sl] at hs
  refine W.widen (k := mc) (n := ms) (Nat.le_trans (Nat.le_add_right _ _) hc) (Nat.le_trans (Nat.le_add_right _ _) hs) (vx_ret ?_)
  exact W.aret C.x C.b (by rw [C.rt]; exact ht) hrt (Or.inr ⟨_, rfl⟩) (fun t ht' hW => ⟨⟨some (.ref o), Sh, N, M, rfl, hp, by rw [ht']; exact hH⟩, hS.F ht'⟩) hS.2.2 (C.dec hd) C.lk
end CALLS
