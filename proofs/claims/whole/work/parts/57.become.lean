/-! one statue becomes another -/
theorem sp_becomeS {b p : Nat} {s c : Nat → Nat} {M : mM} {Q : mM → Prop} (w : WF s c) (hp : p + 12 ≤ b ∨ b + 12 ≤ p) (hs : ST M p s c) (h : ∀ M', fr M M' b (b + 12) → ST M' b s c → Q M') : p_X2_become b p M Q := by
  have w0 := w.1
  have w1 := w.2.1
  unfold p_X2_become
  rintro M1 rfl M2 rfl M3 e3 M4 e4 M5 e5 M6 e6 M7 e7 M8 e8 M9 e9 M10 e10 M11 e11 M12 e12 M13 e13
  have f2 : fr M (mI (mI M b (upd (M.1 b) 11 (M.1 p 11))) b (upd ((mI M b (upd (M.1 b) 11 (M.1 p 11))).1 b) 12 ((mI M b (upd (M.1 b) 11 (M.1 p 11))).1 p 12))) b (b + 12) := (fr.rf.mI (by omega) (by omega)).mI (by omega) (by omega)
  have z1 : (mI (mI M b (upd (M.1 b) 11 (M.1 p 11))) b (upd ((mI M b (upd (M.1 b) 11 (M.1 p 11))).1 b) 12 ((mI M b (upd (M.1 b) 11 (M.1 p 11))).1 p 12))).1 b 11 = nI (s 0) := by
    rw [mI_s, updN (by decide), mI_s, updS]; exact hs.1
  have z2 : (mI (mI M b (upd (M.1 b) 11 (M.1 p 11))) b (upd ((mI M b (upd (M.1 b) 11 (M.1 p 11))).1 b) 12 ((mI M b (upd (M.1 b) 11 (M.1 p 11))).1 p 12))).1 b 12 = nI (s 1) := by
    rw [mI_s, updS, mI_o (by omega)]; exact hs.2.1
  generalize mI (mI M b (upd (M.1 b) 11 (M.1 p 11))) b (upd ((mI M b (upd (M.1 b) 11 (M.1 p 11))).1 b) 12 ((mI M b (upd (M.1 b) 11 (M.1 p 11))).1 p 12)) = M2 at *
  have f3 : fr M M3 b (b + 12) := by rw [e3]; exact f2.mI (by omega) (by omega)
  have g3 : ∀ j, j < 4 → M3.1 (b + 1) j = M.1 (p + 1) j := fun j hj => by rw [e3, mI_s, cpyN 4 (by decide), if_pos hj, f2.1 (p + 1) (by omega)]
  have n3 : ∀ q, q ≠ b + 1 → M3.1 q = M2.1 q := fun q hq => by rw [e3]; exact mI_n hq
  have f4 : fr M M4 b (b + 12) := by rw [e4]; exact f3.mI (by omega) (by omega)
  have g4 : ∀ j, j < 4 → M4.1 (b + 2) j = M.1 (p + 2) j := fun j hj => by rw [e4, mI_s, cpyN 4 (by decide), if_pos hj, f3.1 (p + 2) (by omega)]
  have n4 : ∀ q, q ≠ b + 2 → M4.1 q = M3.1 q := fun q hq => by rw [e4]; exact mI_n hq
  have f5 : fr M M5 b (b + 12) := by rw [e5]; exact f4.mI (by omega) (by omega)
  have g5 : ∀ j, j < 4 → M5.1 (b + 3) j = M.1 (p + 3) j := fun j hj => by rw [e5, mI_s, cpyN 4 (by decide), if_pos hj, f4.1 (p + 3) (by omega)]
  have n5 : ∀ q, q ≠ b + 3 → M5.1 q = M4.1 q := fun q hq => by rw [e5]; exact mI_n hq
  have f6 : fr M M6 b (b + 12) := by rw [e6]; exact f5.mI (by omega) (by omega)
  have g6 : ∀ j, j < 4 → M6.1 (b + 4) j = M.1 (p + 4) j := fun j hj => by rw [e6, mI_s, cpyN 4 (by decide), if_pos hj, f5.1 (p + 4) (by omega)]
  have n6 : ∀ q, q ≠ b + 4 → M6.1 q = M5.1 q := fun q hq => by rw [e6]; exact mI_n hq
  have f7 : fr M M7 b (b + 12) := by rw [e7]; exact f6.mI (by omega) (by omega)
  have g7 : ∀ j, j < 7 → M7.1 (b + 5) j = M.1 (p + 5) j := fun j hj => by rw [e7, mI_s, cpyN 7 (by decide), if_pos hj, f6.1 (p + 5) (by omega)]
  have n7 : ∀ q, q ≠ b + 5 → M7.1 q = M6.1 q := fun q hq => by rw [e7]; exact mI_n hq
  have f8 : fr M M8 b (b + 12) := by rw [e8]; exact f7.mI (by omega) (by omega)
  have g8 : ∀ j, j < 21 → M8.1 (b + 6) j = M.1 (p + 6) j := fun j hj => by rw [e8, mI_s, cpyN 21 (by decide), if_pos hj, f7.1 (p + 6) (by omega)]
  have n8 : ∀ q, q ≠ b + 6 → M8.1 q = M7.1 q := fun q hq => by rw [e8]; exact mI_n hq
  have f9 : fr M M9 b (b + 12) := by rw [e9]; exact f8.mI (by omega) (by omega)
  have g9 : ∀ j, j < 20 → M9.1 (b + 7) j = M.1 (p + 7) j := fun j hj => by rw [e9, mI_s, cpyN 20 (by decide), if_pos hj, f8.1 (p + 7) (by omega)]
  have n9 : ∀ q, q ≠ b + 7 → M9.1 q = M8.1 q := fun q hq => by rw [e9]; exact mI_n hq
  have f10 : fr M M10 b (b + 12) := by rw [e10]; exact f9.mI (by omega) (by omega)
  have g10 : ∀ j, j < 20 → M10.1 (b + 8) j = M.1 (p + 8) j := fun j hj => by rw [e10, mI_s, cpyN 20 (by decide), if_pos hj, f9.1 (p + 8) (by omega)]
  have n10 : ∀ q, q ≠ b + 8 → M10.1 q = M9.1 q := fun q hq => by rw [e10]; exact mI_n hq
  have f11 : fr M M11 b (b + 12) := by rw [e11]; exact f10.mI (by omega) (by omega)
  have g11 : ∀ j, j < 20 → M11.1 (b + 9) j = M.1 (p + 9) j := fun j hj => by rw [e11, mI_s, cpyN 20 (by decide), if_pos hj, f10.1 (p + 9) (by omega)]
  have n11 : ∀ q, q ≠ b + 9 → M11.1 q = M10.1 q := fun q hq => by rw [e11]; exact mI_n hq
  have f12 : fr M M12 b (b + 12) := by rw [e12]; exact f11.mI (by omega) (by omega)
  have g12 : ∀ j, j < 20 → M12.1 (b + 10) j = M.1 (p + 10) j := fun j hj => by rw [e12, mI_s, cpyN 20 (by decide), if_pos hj, f11.1 (p + 10) (by omega)]
  have n12 : ∀ q, q ≠ b + 10 → M12.1 q = M11.1 q := fun q hq => by rw [e12]; exact mI_n hq
  have f13 : fr M M13 b (b + 12) := by rw [e13]; exact f12.mI (by omega) (by omega)
  have g13 : ∀ j, j < 48 → M13.1 (b + 11) j = M.1 (p + 11) j := fun j hj => by rw [e13, mI_s, cpyN 48 (by decide), if_pos hj, f12.1 (p + 11) (by omega)]
  have n13 : ∀ q, q ≠ b + 11 → M13.1 q = M12.1 q := fun q hq => by rw [e13]; exact mI_n hq
  have q0 : M13.1 (b) = M2.1 (b) := by rw [n13 _ (by omega), n12 _ (by omega), n11 _ (by omega), n10 _ (by omega), n9 _ (by omega), n8 _ (by omega), n7 _ (by omega), n6 _ (by omega), n5 _ (by omega), n4 _ (by omega), n3 _ (by omega)]
  have q1 : M13.1 (b + 1) = M3.1 (b + 1) := by rw [n13 _ (by omega), n12 _ (by omega), n11 _ (by omega), n10 _ (by omega), n9 _ (by omega), n8 _ (by omega), n7 _ (by omega), n6 _ (by omega), n5 _ (by omega), n4 _ (by omega)]
  have q2 : M13.1 (b + 2) = M4.1 (b + 2) := by rw [n13 _ (by omega), n12 _ (by omega), n11 _ (by omega), n10 _ (by omega), n9 _ (by omega), n8 _ (by omega), n7 _ (by omega), n6 _ (by omega), n5 _ (by omega)]
  have q3 : M13.1 (b + 3) = M5.1 (b + 3) := by rw [n13 _ (by omega), n12 _ (by omega), n11 _ (by omega), n10 _ (by omega), n9 _ (by omega), n8 _ (by omega), n7 _ (by omega), n6 _ (by omega)]
  have q4 : M13.1 (b + 4) = M6.1 (b + 4) := by rw [n13 _ (by omega), n12 _ (by omega), n11 _ (by omega), n10 _ (by omega), n9 _ (by omega), n8 _ (by omega), n7 _ (by omega)]
  have q5 : M13.1 (b + 5) = M7.1 (b + 5) := by rw [n13 _ (by omega), n12 _ (by omega), n11 _ (by omega), n10 _ (by omega), n9 _ (by omega), n8 _ (by omega)]
  have q6 : M13.1 (b + 6) = M8.1 (b + 6) := by rw [n13 _ (by omega), n12 _ (by omega), n11 _ (by omega), n10 _ (by omega), n9 _ (by omega)]
  have q7 : M13.1 (b + 7) = M9.1 (b + 7) := by rw [n13 _ (by omega), n12 _ (by omega), n11 _ (by omega), n10 _ (by omega)]
  have q8 : M13.1 (b + 8) = M10.1 (b + 8) := by rw [n13 _ (by omega), n12 _ (by omega), n11 _ (by omega)]
  have q9 : M13.1 (b + 9) = M11.1 (b + 9) := by rw [n13 _ (by omega), n12 _ (by omega)]
  have q10 : M13.1 (b + 10) = M12.1 (b + 10) := by rw [n13 _ (by omega)]
  have q11 : M13.1 (b + 11) = M13.1 (b + 11) := by rfl
  obtain ⟨h1, h2, h3, h4, h5, h6, h7⟩ := hs
  refine h M13 f13 ⟨by rw [q0]; exact z1, by rw [q0]; exact z2, fun i hi => by rw [q5, g7 i hi]; exact h3 i hi, fun i hi => by rw [q6, g8 i hi]; exact h4 i hi, fun a ha => ⟨by rw [q1, g3 a (by omega)]; exact (h5 a ha).1, by rw [q2, g4 a (by omega)]; exact (h5 a ha).2.1, by rw [q3, g5 a (by omega)]; exact (h5 a ha).2.2.1, by rw [q4, g6 a (by omega)]; exact (h5 a ha).2.2.2⟩, fun t ht => ⟨by rw [q7, g9 t (by omega)]; exact (h6 t ht).1, by rw [q8, g10 t (by omega)]; exact (h6 t ht).2.1, by rw [q9, g11 t (by omega)]; exact (h6 t ht).2.2.1, by rw [q10, g12 t (by omega)]; exact (h6 t ht).2.2.2⟩, fun k hk => by rw [q11, g13 k hk]; exact h7 k hk⟩
