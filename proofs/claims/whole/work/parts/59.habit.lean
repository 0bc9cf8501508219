/-! one habit -/
def up (s : Nat → Nat) (k v : Nat) : Nat → Nat := fun j => if j = k then v else s j
theorem upS {s : Nat → Nat} {k v : Nat} : up s k v k = v := if_pos rfl
theorem upN {s : Nat → Nat} {k v j : Nat} (h : j ≠ k) : up s k v j = s j := if_neg h
theorem WF.hab {s c : Nat → Nat} {k v : Nat} (h : WF s c) (hk : k < 21) (hv : v ≤ 9) : WF (up s (10 + k) v) c := by
  obtain ⟨h1, h2, h3, h4, h5, h6, h7, h8, h9, h10⟩ := h
  have e : ∀ j, j < 10 ∨ 31 ≤ j → up s (10 + k) v j = s j := fun j hj => upN (by omega)
  refine ⟨by rw [e 0 (by omega)]; exact h1, by rw [e 1 (by omega)]; exact h2, fun i hi => by rw [e _ (by omega)]; exact h3 i hi, by rw [e 6 (by omega)]; exact h4, by rw [e 7 (by omega)]; exact h5, by rw [e 8 (by omega)]; exact h6, fun j hj => ?_, fun a ha => ?_, fun t ht => ?_, fun j hj => by rw [e 0 (by omega)]; exact h10 j hj⟩
  · by_cases z : j = k
    · rw [z, upS]; exact hv
    · rw [upN (by omega)]; exact h7 j hj
  · rw [e 0 (by omega)] at ha
    have := h8 a ha
    unfold wSt at this ⊢
    rw [e _ (by omega), e _ (by omega), e _ (by omega), e _ (by omega)]
    exact this
  · rw [e 1 (by omega)] at ht
    have := h9 t ht
    unfold wTr at this ⊢
    rw [e _ (by omega), e _ (by omega), e _ (by omega), e _ (by omega), e 0 (by omega)]
    exact this
theorem sp_setHabit {b : Nat} {x y : Int32} {s c : Nat → Nat} {M : mM} {Q : Int32 → mM → Prop} (hs : ST M b s c) (h1 : ∀ k v, x = nI k → y = nI v → k < 21 → v ≤ 9 → ∀ M', fr M M' b (b + 12) → ST M' b (up s (10 + k) v) c → Q (nI (s (10 + k))) M') (h0 : ¬ (iB x 0 20 ∧ iB y 0 9) → Q (-2) M) : p_X2_setHabit b x y M Q := by
  refine sp_within (lo := 0) (hi := 20) (by decide) (by decide) (fun hb => ⟨fun a => absurd a (by decide), fun _ => sp_within (lo := 0) (hi := 9) (by decide) (by decide) (fun hc => ⟨fun _ => ?_, fun a => absurd a (by decide)⟩) (fun hc => ⟨fun a => absurd rfl a, fun _ => h0 (fun q => hc q.2)⟩)⟩) (fun hb => ⟨fun _ => h0 (fun q => hb q.1), fun a => absurd rfl a⟩)
  obtain ⟨k, _, k2, rfl⟩ := hb
  obtain ⟨v, _, v2, rfl⟩ := hc
  obtain ⟨g1, g2, g3, g4, g5, g6, g7⟩ := hs
  have e : ∀ j, j < 10 ∨ 31 ≤ j → up s (10 + k) v j = s j := fun j hj => upN (by omega)
  rw [clp (show k < 2147483648 by omega)]
  refine ⟨vin (by omega) (by decide), ?_⟩
  rintro x4 rfl
  refine ⟨vin (by omega) (by decide), ?_⟩
  rintro M5 rfl
  rw [g4 k (by omega)]
  refine h1 k v rfl rfl (by omega) v2 _ (fr.rf.mI (by omega) (by omega)) ⟨?_, ?_, fun i hi => ?_, fun j hj => ?_, fun a ha => ?_, fun t ht => ?_, fun j hj => ?_⟩
  · rw [mI_o (by omega), e 0 (by omega)]; exact g1
  · rw [mI_o (by omega), e 1 (by omega)]; exact g2
  · rw [mI_o (by omega), e _ (by omega)]; exact g3 i hi
  · rw [mI_s]
    by_cases z : j = k
    · rw [z, updS, upS]
    · rw [updN z, upN (by omega)]; exact g4 j hj
  · rw [e 0 (by omega)] at ha
    have := g5 a ha
    unfold stS at this ⊢
    rw [mI_o (by omega), mI_o (by omega), mI_o (by omega), mI_o (by omega), e _ (by omega), e _ (by omega), e _ (by omega), e _ (by omega)]
    exact this
  · rw [e 1 (by omega)] at ht
    have := g6 t ht
    unfold stT at this ⊢
    rw [mI_o (by omega), mI_o (by omega), mI_o (by omega), mI_o (by omega), e _ (by omega), e _ (by omega), e _ (by omega), e _ (by omega)]
    exact this
  · rw [mI_o (by omega)]; exact g7 j hj
