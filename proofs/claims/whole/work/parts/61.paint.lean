/-! one copy -/
theorem WF_pnt {s c : Nat → Nat} {k v : Nat} (h : WF s c) (hv : v ≤ s 0) : WF s (up c k v) := by
  obtain ⟨h1, h2, h3, h4, h5, h6, h7, h8, h9, h10⟩ := h
  refine ⟨h1, h2, h3, h4, h5, h6, h7, h8, h9, fun j hj => ?_⟩
  by_cases z : j = k
  · rw [z, upS]; exact hv
  · rw [upN z]; exact h10 j hj
theorem BK_pnt {M : mM} {m k v : Nat} {s c : Nat → Nat} (h : BK M m s c) (hk : k < 48) : BK (mI M (m + 1) (upd (M.1 (m + 1)) (150 + k) (oI v))) m s (up c k v) := by
  refine ⟨fun i hi => ?_, fun i hi => ?_⟩
  · rw [mI_s, updN (by omega)]; exact h.1 i hi
  · rw [mI_s]
    by_cases z : i = k
    · rw [z, updS, upS]
    · rw [updN (by omega), upN z]; exact h.2 i hi
theorem ST_pnt {M : mM} {b k v : Nat} {s c : Nat → Nat} (h : ST M b s c) (hk : k < 48) : ST (mI M (b + 11) (upd (M.1 (b + 11)) k (oI v))) b s (up c k v) := by
  obtain ⟨g1, g2, g3, g4, g5, g6, g7⟩ := h
  refine ⟨by rw [mI_o (by omega)]; exact g1, by rw [mI_o (by omega)]; exact g2, fun i hi => by rw [mI_o (by omega)]; exact g3 i hi, fun i hi => by rw [mI_o (by omega)]; exact g4 i hi, fun a ha => ?_, fun t ht => ?_, fun j hj => ?_⟩
  · have := g5 a ha
    unfold stS at this ⊢
    rw [mI_o (by omega), mI_o (by omega), mI_o (by omega), mI_o (by omega)]
    exact this
  · have := g6 t ht
    unfold stT at this ⊢
    rw [mI_o (by omega), mI_o (by omega), mI_o (by omega), mI_o (by omega)]
    exact this
  · rw [mI_s]
    by_cases z : j = k
    · rw [z, updS, upS]
    · rw [updN z, upN z]; exact g7 j hj
