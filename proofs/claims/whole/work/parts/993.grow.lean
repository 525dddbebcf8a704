section GROW
variable {Sh Sh' : Nat → SE} {N N' : Nat} {M M' : MM} {tx b : Nat} {x : ST}
theorem CI.below (h : CI M x) (hM : ∀ c, c < 131 → M' c = M c) : CI M' x := by
  have hF : Fr (fun c => 131 ≤ c) M M' := fun c hc => hM c (by omega)
  obtain ⟨c1, c2, c3, c4, c5, c6, c7, c8, c9, c10, c11⟩ := h
  exact ⟨c1.keep hF (by decide) (by decide), c2.keep hF (by decide), c3.keep hF (by decide) (by decide) (fun c _ _ => by omega), c4.keep hF (by decide) (by decide), c5.keep hF (by decide) (by decide), c6.keep hF (fun c _ _ => by omega), c7.cong (hF _ (by decide)) (hF _ (by decide)), c8.cong (hF _ (by decide)) (hF _ (by decide)), c9.cong (hF _ (by decide)), c10.cong2 (hF _ (by decide)) (hF _ (by decide)) (hF _ (by decide)), c11.cong (hF _ (by decide)) (hF _ (by decide))⟩
theorem At.over {o : Nat} {e : SE} (h : At Sh N o e) (hs : ∀ c, c < 131 → Sh' c = Sh c) (hN : N ≤ N') (ho : o < 131) : At Sh' N' o e := ⟨Nat.lt_of_lt_of_le h.1 hN, (hs o ho).trans h.2⟩
theorem YA.over {y : Nat} (h : YA Sh N y) (hs : ∀ c, c < 131 → Sh' c = Sh c) (hN : N ≤ N') (ho : y + 3 < 131) : YA Sh' N' y := ⟨h.1.over hs hN (by omega), h.2.1.over hs hN (by omega), h.2.2.1.over hs hN (by omega), h.2.2.2.over hs hN (by omega)⟩
theorem WA.over {w y : Nat} (h : WA Sh N w y) (hs : ∀ c, c < 131 → Sh' c = Sh c) (hN : N ≤ N') (ho : w + 3 < 131) : WA Sh' N' w y := by
  obtain ⟨h1, h2, h3, h4, h5, h6⟩ := h
  exact ⟨h1.over hs hN (by omega), h2.over hs hN (by omega), h3.over hs hN (by omega), h4.over hs hN (by omega), h5.over hs hN (by omega), h6⟩
theorem MU.over (hU : MU Sh N tx) (hs : ∀ c, c < 131 → Sh' c = Sh c) (hN : N ≤ N') : MU Sh' N' tx := by
  obtain ⟨u0, u1, u2, u3, u4, u6, u10, u14, uw, u31, ui, u48, u51, u116, u117, u120, u121, u124, u125, u128⟩ := hU
  exact ⟨u0.over hs hN (by decide), u1.over hs hN (by decide), u2.over hs hN (by decide), u3.over hs hN (by decide), u4.over hs hN (by decide), u6.over hs hN (by decide), u10.over hs hN (by decide), u14.over hs hN (by decide), fun i hi => (uw i hi).over hs hN (by omega), u31.over hs hN (by decide), fun i hi => (ui i hi).over hs hN (by omega), ⟨u48.1.over hs hN (by decide), u48.2.1.over hs hN (by decide), u48.2.2.1.over hs hN (by decide), u48.2.2.2⟩, ⟨u51.1.over hs hN (by decide), fun j hj => (u51.2 j hj).over hs hN (by omega)⟩, At.over u116 hs hN (by decide), ⟨u117.1.over hs hN (by decide), u117.2.1.over hs hN (by decide), u117.2.2.over hs hN (by decide)⟩, At.over u120 hs hN (by decide), ⟨u121.1.over hs hN (by decide), u121.2.1.over hs hN (by decide), u121.2.2.over hs hN (by decide)⟩, At.over u124 hs hN (by decide), ⟨u125.1.over hs hN (by decide), u125.2.1.over hs hN (by decide), u125.2.2.over hs hN (by decide)⟩, ⟨u128.1.over hs hN (by decide), u128.2.1.over hs hN (by decide), u128.2.2.over hs hN (by decide)⟩⟩
theorem MO.over {o : Nat} (h : MO Sh N o) (hs : ∀ c, o ≤ c → c < o + 22 → Sh' c = Sh c) (hN : N ≤ N') : MO Sh' N' o := by
  refine ⟨⟨Nat.lt_of_lt_of_le h.1.1 hN, (hs o (by omega) (by omega)).trans h.1.2⟩, fun i t n hi => ?_⟩
  have h2 := h.2 i t n hi
  have h3 : i < 21 := (List.getElem?_eq_some_iff.mp hi).1
  exact ⟨Nat.lt_of_lt_of_le h2.1 hN, (hs _ (by omega) (by omega)).trans h2.2⟩
end GROW
