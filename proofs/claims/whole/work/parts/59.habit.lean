/-! one habit -/
def up (s : Nat → Nat) (k v : Nat) : Nat → Nat := fun j => if j = k then v else s j
theorem upS {s : Nat → Nat} {k v : Nat} : up s k v k = v := if_pos rfl
theorem upN {s : Nat → Nat} {k v j : Nat} (h : j ≠ k) : up s k v j = s j := if_neg h
theorem WF.hab {s c : Nat → Nat} {k v : Nat} (h : WF s c) (hk : k < 21) (hv : v ≤ 9) : WF (up s (10 + k) v) c := by
  obtain ⟨h1, h2, h3, h4, h5, h6, h7, h8, h9, h10⟩ := h
  have e : ∀ j, j < 10 ∨ 31 ≤ j → up s (10 + k) v j = s j := fun j hj => upN (by omega)
  refine ⟨by rw [e 0 (by omega)]; exact h1, by rw [e 1 (by omega)]; exact h2, fun i hi => by rw [e _ (by omega)]; exact h3 i hi, by rw [e 6 (by omega)]; exact h4, by rw [e 7 (by omega)]; exact h5, by rw [e 8 (by omega)]; exact h6, fun j hj => ?_, fun a ha => ?_, fun t ht => ?_, fun j hj => by rw [e 0 (by omega)]; exact h10 j hj⟩
  · by_cases z : j = k
    · rw [z, upS]; exact hv
    · rw [upN (by omega)]; exact h7 j hj
  · rw [e 0 (by omega)] at ha
    have := h8 a ha
    unfold wSt at this ⊢
    rw [e _ (by omega), e _ (by omega), e _ (by omega), e _ (by omega)]
    exact this
  · rw [e 1 (by omega)] at ht
    have := h9 t ht
    unfold wTr at this ⊢
    rw [e _ (by omega), e _ (by omega), e _ (by omega), e _ (by omega), e 0 (by omega)]
    exact this
