/-! refusals counted -/
def bmp (f : Nat → Int32) (k : Nat) : Nat → Int32 := fun j => if j = k then f k + 1 else f j
theorem sp_told_k {g k : Nat} {x : Int32} {M : mM} {Q : Int32 → mM → Prop} (hk : k < 3) (hx : x = -2 - nI k) (h : Q x (mI M (g + 144) (bmp (M.1 (g + 144)) k))) : p_X6_told g x M Q := by
  have ks : k = 0 ∨ k = 1 ∨ k = 2 := by omega
  unfold p_X6_told
  rcases ks with rfl | rfl | rfl
  · subst hx
    refine ⟨fun q => absurd q (by decide), fun _ => ⟨fun q => absurd q (by decide), fun _ => ⟨vin (i := 0) (by decide) (by decide), vin (i := 0) (by decide) (by decide), ?_⟩⟩⟩
    rintro M2 rfl
    exact h
  · subst hx
    refine ⟨fun q => absurd q (by decide), fun _ => ⟨fun q => absurd q (by decide), fun _ => ⟨vin (i := 1) (by decide) (by decide), vin (i := 1) (by decide) (by decide), ?_⟩⟩⟩
    rintro M2 rfl
    exact h
  · subst hx
    refine ⟨fun q => absurd q (by decide), fun _ => ⟨fun q => absurd q (by decide), fun _ => ⟨vin (i := 2) (by decide) (by decide), vin (i := 2) (by decide) (by decide), ?_⟩⟩⟩
    rintro M2 rfl
    exact h
theorem sp_told_n {g n : Nat} {M : mM} {Q : Int32 → mM → Prop} (hn : n < 2147483648) (h : Q (nI n) M) : p_X6_told g (nI n) M Q := by
  unfold p_X6_told
  refine ⟨fun _ => h, fun q => absurd ?_ q⟩
  rw [jI_n, show (-2 : Int32) = jI (-2) from rfl, jI_lt (by decide) (by decide) (by omega) (by omega)]
  omega
theorem sp7_refuses {m k : Nat} {x : Int32} {M : mM} {Q : Int32 → mM → Prop} (hk : k < 3) (hq : M.1 m 5 = 0) (h : Q x (mI M (m + 5) (bmp (M.1 (m + 5)) k))) : p_X7_refuses m (nI k) x M Q := by
  unfold p_X7_refuses
  rw [clp (show k < 2147483648 by omega)]
  refine ⟨vin hk (by decide), fun _ => ⟨vin hk (by decide), ?_⟩, fun q => absurd hq q⟩
  rintro M2 rfl
  exact h
