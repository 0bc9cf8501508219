/-! a hem around a cell, in the whole object -/
theorem lN_inj {a b : Nat} (ha : a < 18446744073709551616) (hb : b < 18446744073709551616) : lN a = lN b ↔ a = b := by
  constructor
  · intro h
    have h1 : (BitVec.ofNat 64 a) = (BitVec.ofNat 64 b) := congrArg Int64.toBitVec h
    have h2 := congrArg BitVec.toNat h1
    rw [BitVec.toNat_ofNat, BitVec.toNat_ofNat] at h2
    omega
  · intro h; rw [h]
theorem lN_z {a : Nat} (ha : a < 18446744073709551616) : lN a = 0 ↔ a = 0 := lN_inj (b := 0) ha (by decide)
theorem fL.fr {M M' : mM} {b lo hi : Nat} {S : Nat → Prop} (h : fL M M' b S) (hb : lo ≤ b ∧ b < hi) (hS : ∀ k, S k → lo ≤ k ∧ k < hi) : fr M M' lo hi := by
  refine ⟨fun k _ => by rw [h.1], fun k hk => h.2.1 k ?_ (fun q => ?_)⟩
  · omega
  · have := hS k q; omega
theorem sp_lookAt {g st hem : Nat} {s c : Nat → Nat} {M : mM} {Q : mM → Prop} (hs : ST M st s c) (w : WF s c) (d : st + 12 ≤ g + 54) (hh : hem < 6) (h : ∀ M', fr M M' (g + 54) (g + 122) → WE M' (g + 54) s → HL M' (g + 70) s hem → HS M' (g + 70) s hem 0 → Q M') : p_X6_lookAt g st (nI hem) M Q := by
  refine sp_take hs w (Or.inr d) (fun M1 f1 w1 => ?_)
  refine sp_look (hs.fr f1 (by omega)) w w1 (by omega) (by omega) hh (fun M2 f2 l2 s2 => h M2 ?_ (w1.fr f2 (by omega)) l2 s2)
  exact (f1.wd (by omega) (by omega)).tr (f2.wd (by omega) (by omega))
theorem sp_reckonAround {g cl : Nat} {s c : Nat → Nat} {M : mM} {Q : Int32 → mM → Prop} (hs : ST M (g + 1) s c) (w : WF s c) (hc : cl < 48) (h1 : aA s (cl / 8) ≠ 0 → ∀ M', fr M M' (g + 54) (g + 122) → WE M' (g + 54) s → HR M' (g + 70) s (cl / 8) → Q 1 M') (h0 : aA s (cl / 8) = 0 → ∀ M', fr M M' (g + 54) (g + 122) → Q 0 M') : p_X6_reckonAround g (nI cl) M Q := by
  unfold p_X6_reckonAround
  rw [show nI cl / 8 = nI (cl / 8) from pk_div (d := 8) (by omega) (by decide) (by decide)]
  refine sp_lookAt hs w (by omega) (by omega) (fun M1 f1 w1 l1 s1 => sp_reckon w l1 s1 (fun M2 f2 r2 => ?_))
  have F2 : fr M1 M2 (g + 70) (g + 122) := f2.fr (by omega) (fun k hk => by unfold rkS at hk; omega)
  have F : fr M M2 (g + 54) (g + 122) := f1.tr (F2.wd (by omega) (by omega))
  rw [r2.2.2.1, lN_z (aA_64 w _)]
  exact ⟨fun z => h0 z M2 F, fun z => h1 z M2 F (w1.fr F2 (by omega)) r2⟩
theorem wt1_64 {s c : Nat → Nat} (w : WF s c) (hem : Nat) {p k : Nat} (hp : p < 8) (hk : k < 21) : wt1 s hem p k < 18446744073709551616 := Nat.lt_of_le_of_lt (wt1_le s hem hp hk) (aA_64 w hem)
theorem HR.fr {M M' : mM} {b hem lo hi : Nat} {s : Nat → Nat} (h : HR M b s hem) (f : fr M M' lo hi) (q : b + 52 ≤ lo ∨ hi ≤ b) : HR M' b s hem := by
  obtain ⟨h1, h2, h3, h4, h5⟩ := h
  have e2 : ∀ k, k < 52 → M'.1 (b + k) = M.1 (b + k) := fun k hk => f.1 _ (by omega)
  have e3 : ∀ k, k < 52 → M'.2 (b + k) = M.2 (b + k) := fun k hk => f.2 _ (by omega)
  obtain ⟨a1, a2, a3, a4⟩ := h1
  refine ⟨⟨a1.cp (by rw [show M'.1 b = M.1 b from e2 0 (by omega)]) (e2 1 (by omega)) (fun p hp => by rw [Nat.add_assoc]; exact e2 _ (by omega)), fun p hp k hk => (a2 p hp k hk).cp (by rw [Nat.add_assoc]; rw [e2 _ (by omega)]), fun t ht => (a3 t ht).cp (by rw [e2 20 (by omega)]) (by rw [e2 21 (by omega)]), ?_⟩, fun p hp => by rw [e2 22 (by omega)]; exact h2 p hp, by rw [show M'.2 b = M.2 b from e3 0 (by omega)]; exact h3, fun p hp k hk => ?_, fun p hp k hk => ?_⟩
  · obtain ⟨O, o1, o2, o3⟩ := a4
    exact ⟨O, o1, by rw [show M'.1 b = M.1 b from e2 0 (by omega)]; exact o2, o3⟩
  · rw [Nat.add_assoc, e3 _ (by omega), ← Nat.add_assoc]; exact h4 p hp k hk
  · rw [Nat.add_assoc, e3 _ (by omega), ← Nat.add_assoc]; exact h5 p hp k hk
