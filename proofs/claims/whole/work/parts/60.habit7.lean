/-! the row's habit -/
theorem sp7_puts {m k v : Nat} {y : Int32} {M : mM} {Q : Int32 → mM → Prop} (hk : k < 210) (h : ∀ M', M' = mI M (m + 1) (upd (M.1 (m + 1)) k y) → Q (M.1 (m + 1) k) M') : p_X7_puts m (nI k) y M Q := by
  unfold p_X7_puts
  rw [clp (show k < 2147483648 by omega)]
  refine ⟨vin hk (by decide), ?_⟩
  rintro x2 rfl
  exact ⟨vin hk (by decide), h⟩
theorem BK.up {M : mM} {m k v : Nat} {s c : Nat → Nat} (h : BK M m s c) (hk : k < 150) : BK (mI M (m + 1) (upd (M.1 (m + 1)) k (nI v))) m (up s k v) c := by
  refine ⟨fun i hi => ?_, fun i hi => ?_⟩
  · rw [mI_s]
    by_cases z : i = k
    · rw [z, updS, upS]
    · rw [updN z, upN z]; exact h.1 i hi
  · rw [mI_s, updN (by omega)]; exact h.2 i hi
theorem sp7_bad {m : Nat} {M : mM} {Q : Int32 → mM → Prop} (hq : M.1 m 5 = 0) (h : Q (-2) (mI M (m + 5) (bmp (M.1 (m + 5)) 0))) : p_X7_bad m M Q := sp7_refuses (k := 0) (by decide) hq h
theorem sp7_habit {m : Nat} {x y : Int32} {s c : Nat → Nat} {M : mM} {Q : Int32 → mM → Prop} (hs : BK M m s c) (hq : M.1 m 5 = 0) (h1 : ∀ k v, x = nI k → y = nI v → k < 21 → v ≤ 9 → ∀ M', M' = mI M (m + 1) (upd (M.1 (m + 1)) (10 + k) (nI v)) → BK M' m (up s (10 + k) v) c → Q (nI (s (10 + k))) M') (h0 : ¬ (iB x 0 20 ∧ iB y 0 9) → Q (-2) (mI M (m + 5) (bmp (M.1 (m + 5)) 0))) : p_X7_habit m x y M Q := by
  refine sp7_inI (lo := 0) (hi := 20) (by decide) (by decide) (fun hb => ⟨fun a => absurd a (by decide), fun _ => sp7_inI (lo := 0) (hi := 9) (by decide) (by decide) (fun hc => ⟨fun a => absurd a (by decide), fun _ => ?_⟩) (fun hc => ⟨fun _ => sp7_bad hq (h0 (fun q => hc q.2)), fun a => absurd rfl a⟩)⟩) (fun hb => ⟨fun _ => sp7_bad hq (h0 (fun q => hb q.1)), fun a => absurd rfl a⟩)
  obtain ⟨k, _, k2, rfl⟩ := hb
  obtain ⟨v, _, v2, rfl⟩ := hc
  rw [show (10 : Int32) + nI k = nI (10 + k) from nI_add 10 k]
  refine sp7_puts (by omega) (v := v) (fun M' e => ?_)
  rw [hs.1 _ (by omega)]
  subst e
  exact h1 k v rfl rfl (by omega) v2 _ rfl (hs.up (by omega))
