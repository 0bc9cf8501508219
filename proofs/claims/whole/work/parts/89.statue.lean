/-! the row tells a statue -/
theorem tlS_k {t : zT} {s : Nat → Nat} {n : Nat} (h : (tlS t s n).1 ≠ 0) : ∀ k, tlS t s (n + k) = tlS t s n
  | 0 => rfl
  | k + 1 => by
    rw [show n + (k + 1) = n + k + 1 by omega, tlS_s, tlS_k h k, if_pos h]
def kS (M M' : mM) (m : Nat) : Prop := (∀ q, q ≠ m → q ≠ m + 1 → q ≠ m + 4 → q ≠ m + 9 → q ≠ m + 10 → M'.1 q = M.1 q) ∧ M'.2 = M.2 ∧ ∀ j, j < 10 → j ≠ 5 → M'.1 m j = M.1 m j
theorem kS_G {M M' : mM} {m : Nat} (f : fG M M' m) : kS M M' m := ⟨fun q a _ _ b c => f.1 q a b c, f.2.1, fun j a _ => f.2.2 j (Or.inl a)⟩
theorem kS.tr {M M1 M2 : mM} {m : Nat} (h : kS M M1 m) (k : kS M1 M2 m) : kS M M2 m := ⟨fun q a b c d e => (k.1 q a b c d e).trans (h.1 q a b c d e), k.2.1.trans h.2.1, fun j a b => (k.2.2 j a b).trans (h.2.2 j a b)⟩
theorem kS.ce {M M1 : mM} {m k : Nat} {f : Nat → Int32} (h : kS M M1 m) (hk : k = m + 1 ∨ k = m + 4) : kS M (mI M1 k f) m := ⟨fun q a b c d e => (mI_n (by omega)).trans (h.1 q a b c d e), h.2.1, fun j a b => by rw [mI_o (by omega)]; exact h.2.2 j a b⟩
theorem kS.s5 {M M1 : mM} {m : Nat} {x : Int32} (h : kS M M1 m) : kS M (mI M1 m (upd (M1.1 m) 5 x)) m := ⟨fun q a b c d e => (mI_n a).trans (h.1 q a b c d e), h.2.1, fun j a b => by rw [mI_s, updN b]; exact h.2.2 j a b⟩
theorem kS.fr {M M' : mM} {m : Nat} (h : kS M M' m) : fr M M' m (m + 15) := ⟨fun k hk => h.1 k (by omega) (by omega) (by omega) (by omega) (by omega), fun k _ => by rw [h.2.1]⟩
theorem MR_k {M M' : mM} {m : Nat} {S : zS} {s c : Nat → Nat} (h : MR M m S) (f : kS M M' m) (hs : BK M' m s c) (h5 : M'.1 m 5 = 0) : MR M' m (zSt S s c) := by
  obtain ⟨a1, a2, a3, a4, a5, a6⟩ := h
  have e : ∀ k, k = 2 ∨ k = 3 ∨ k = 5 ∨ k = 6 ∨ k = 7 ∨ k = 8 → M'.1 (m + k) = M.1 (m + k) := fun k hk => f.1 _ (by omega) (by omega) (by omega) (by omega) (by omega)
  exact ⟨hs, fun i hi => (a2 i hi).ag (e 2 (by decide)) (e 3 (by decide)), a3.ag (f.2.2 9 (by decide) (by decide)) (e 8 (by decide)), ⟨a4.1.ag (e 6 (by decide)) (e 7 (by decide)), a4.2.ag (e 6 (by decide)) (e 7 (by decide))⟩, fun k hk => by rw [e 5 (by decide)]; exact a5 k hk, h5⟩
theorem sp7_statue {m : Nat} {S : zS} {M : mM} {Q : Int32 → mM → Prop} (hS : SW S) (hM : MR M m S) (h : ∀ M', fr M M' m (m + 15) → MR M' m (F_statue S).2 → Q (F_statue S).1 M') : p_X7_statue m M Q := by
  have hg := SW_tG hS
  have hN := itN_b hg
  unfold F_statue f_tell at h
  unfold p_X7_statue
  refine sp7_reads hM.2.2.1 hg (fun k0 nb M1 f1 m16 is => ⟨fun _ => ?_, fun e => absurd e (by decide)⟩) (fun k0 M1 f1 m11 => ⟨fun e => absurd rfl e, fun _ => ?_⟩)
  rotate_left
  · rw [if_neg (fun e => k0 e.1), if_neg k0] at h
    rw [m11]
    have c1 : MR M1 m (zSt S (zs S) (zc S)) := MR_k hM (kS_G f1) (hM.1.ag (f1.1 _ (by omega) (by omega) (by omega))) (by rw [f1.2.2 5 (by omega)]; exact hM.2.2.2.2.2)
    exact h M1 (kS_G f1).fr c1
  have K1 := kS_G f1
  have b1 : BK M1 m (zs S) (zc S) := hM.1.ag (f1.1 _ (by omega) (by omega) (by omega))
  generalize et : zt S = t at *
  generalize eN : itN t = N at *
  refine loopU (A := mM) 210 (fun k a => (nI k, a)) (fun k a => (∀ q, q ≠ m + 4 → a.1 q = M1.1 q) ∧ a.2 = M1.2 ∧ ∀ j, j < k → a.1 (m + 4) j = M1.1 (m + 1) j) M1 rfl ⟨fun _ _ => rfl, rfl, fun j hj => absurd hj (Nat.not_lt_zero _)⟩ ?_
  rintro k a ag hk ⟨fa, la, ca⟩ hag
  show p_X7_statue_F17 m Q ag (nI k) a
  unfold p_X7_statue_F17
  refine ⟨fun z => ?_, fun z => ?_⟩
  rotate_left
  · have z := nlei (a := 210) (by decide) (by omega) z
    refine ⟨vin z (by decide), vin z (by decide), ?_⟩
    rw [clp (by omega), show nI k + 1 = nI (k + 1) from nI_add k 1]
    intro M12 e12
    refine hag z M12 ⟨fun q hq => by rw [e12, mI_n hq]; exact fa q hq, by rw [e12]; exact la, fun j hj => ?_⟩
    rw [e12, mI_s]
    by_cases y : j = k
    · rw [y, updS, fa (m + 1) (by omega)]
    · rw [updN y]; exact ca j (by omega)
  have z := lei (a := 210) (by decide) (by omega) z
  have k210 : k = 210 := by omega
  subst k210
  have Ka : kS M a m := K1.tr ⟨fun q _ _ c _ _ => fa q c, la, fun j _ _ => by rw [fa m (by omega)]⟩
  refine sp7_begins (b1.ag (fa (m + 1) (by omega))) (fun M3 f3 b3 M4 e4 => ?_)
  have K3 : kS M M3 m := Ka.tr ⟨fun q _ b _ _ _ => f3.1 q b, f3.2, fun j _ _ => by rw [f3.1 m (by unfold bkS; omega)]⟩
  have K4 : kS M M4 m := by rw [e4]; exact K3.s5
  have g4 : M4.1 m 16 = nI N := by
    rw [e4, mI_s, updN (by decide), f3.1 m (by unfold bkS; omega), fa m (by omega)]
    exact m16
  have q4 : M4.1 m 5 = 1 := by rw [e4, mI_s, updS]
  have is4 : itS M4 m t N := is.ag (by rw [e4, mI_n (by omega), f3.1 _ (by unfold bkS; omega), fa _ (by omega)]) (by rw [e4, mI_n (by omega), f3.1 _ (by unfold bkS; omega), fa _ (by omega)])
  have c4 : ∀ j, j < 210 → M4.1 (m + 4) j = M.1 (m + 1) j := fun j hj => by
    rw [e4, mI_n (by omega), f3.1 _ (by unfold bkS; omega), ca j hj, f1.1 _ (by omega) (by omega) (by omega)]
  have b4 : BK M4 m (sBg (zs S)) cZ := b3.ag (by rw [e4, mI_n (by omega)])
  clear e4 b3 f3 ca fa la Ka K3 hag
  refine loopU (A := mM) N (fun n a => (nI n, a)) (fun n b => fq M4 b (bkS m) ∧ (tlS t (zs S) n).1 = 0 ∧ BK b m (tlS t (zs S) n).2.1 (tlS t (zs S) n).2.2) M4 rfl ⟨fq.rf, rfl, b4⟩ ?_
  rintro n b ag2 hn ⟨fb, r0, bb⟩ hag2
  show p_X7_statue_F53 m Q ag2 (nI n) b
  have bn : ∀ q, q ≠ m + 1 → b.1 q = M4.1 q := fun q hq => fb.1 q hq
  have b16 : b.1 m 16 = nI N := by rw [bn m (by omega)]; exact g4
  have Kb : kS M b m := K4.tr ⟨fun q _ y _ _ _ => bn q y, fb.2, fun j _ _ => by rw [bn m (by omega)]⟩
  unfold p_X7_statue_F53
  rw [b16]
  refine ⟨fun y => ?_, fun y => ?_⟩
  · have y := lei (by omega) (by omega) y
    have nN : n = N := by omega
    subst nN
    intro M5 e5
    have K5 : kS M M5 m := by rw [e5]; exact Kb.s5
    have g16 : M5.1 m 16 = nI n := by rw [e5, mI_s, updN (by decide)]; exact b16
    rw [g16]
    refine ⟨fun x => absurd rfl x, fun _ => ?_⟩
    rw [if_pos ⟨k0, r0⟩] at h
    exact h M5 K5.fr (MR_k hM K5 (bb.ag (by rw [e5, mI_n (by omega)])) (by rw [e5, mI_s, updS]))
  · have y := nlei (by omega) (by omega) y
    have w := tlS_W t (zs S) n
    have ok : itOK t (ip t n) := by
      by_cases x : itOK t (ip t n)
      · exact x
      · exact absurd (Or.inr x) (nb n y)
    have hs := tlS_s t (zs S) n
    rw [if_neg (fun e => e r0)] at hs
    have is9 := is4 n y
    refine sp7_tellsItem (x := (tlS t (zs S) n).2) (nm := nmI t n) bb w (by rw [bn m (by omega)]; exact q4) (by omega) (stp_b nb n y) (by rw [bn _ (by omega)]; exact is9.1) (fun j hj => by rw [bn _ (by omega)]; exact is9.2 j hj) (nmI_le ok) (fun tk M9 f9 b9 => ⟨fun e => absurd e (by decide), fun _ => ?_⟩) (fun tk M9 f9 => ⟨fun _ => ?_, fun e => absurd rfl e⟩)
    · rw [show nI n + 1 = nI (n + 1) from nI_add n 1]
      rw [pqI_t tk] at hs
      exact hag2 y M9 ⟨fb.tr f9, by rw [hs], by rw [hs]; exact b9⟩
    · rw [pqI_f tk] at hs
      have tn : (tlS t (zs S) N).1 = n + 1 := by
        have := tlS_k (t := t) (s := zs S) (n := n + 1) (by rw [hs]; show n + 1 ≠ 0; omega) (N - (n + 1))
        rw [show n + 1 + (N - (n + 1)) = N by omega] at this
        rw [this, hs]
      rw [tn, if_neg (fun e => by have := e.2; omega), if_pos k0, if_neg (by omega), oI_s] at h
      have K9 : kS M M9 m := Kb.tr ⟨fun q _ y _ _ _ => f9.1 q y, f9.2, fun j _ _ => by rw [f9.1 m (by unfold bkS; omega)]⟩
      intro M5 e5
      have K5 : kS M M5 m := by rw [e5]; exact K9.s5
      have g16 : M5.1 m 16 = nI N := by rw [e5, mI_s, updN (by decide), f9.1 m (by unfold bkS; omega)]; exact b16
      have c5 : ∀ j, j < 210 → M5.1 (m + 4) j = M.1 (m + 1) j := fun j hj => by
        rw [e5, mI_n (by omega), f9.1 _ (by unfold bkS; omega), bn _ (by omega)]
        exact c4 j hj
      have q5 : M5.1 m 5 = 0 := by rw [e5, mI_s, updS]
      clear e5
      rw [g16]
      refine ⟨fun _ => ?_, fun x => absurd (eqi (by omega) (by omega) x) (by omega)⟩
      refine loopU (A := mM) 210 (fun k a => (nI k, a)) (fun k a => (∀ q, q ≠ m + 1 → a.1 q = M5.1 q) ∧ a.2 = M5.2 ∧ ∀ j, j < k → a.1 (m + 1) j = M.1 (m + 1) j) M5 rfl ⟨fun _ _ => rfl, rfl, fun j hj => absurd hj (Nat.not_lt_zero _)⟩ ?_
      rintro k a ag3 hk ⟨fa, la, ca⟩ hag3
      show p_X7_statue_F95 m (nI n) Q ag3 (nI k) a
      unfold p_X7_statue_F95
      refine ⟨fun z => ?_, fun z => ?_⟩
      · have z := lei (a := 210) (by decide) (by omega) z
        have Ka : kS M a m := K5.tr ⟨fun q _ b _ _ _ => fa q b, la, fun j _ _ => by rw [fa m (by omega)]⟩
        have ba : BK a m (zs S) (zc S) := ⟨fun i hi => by rw [ca i (by omega)]; exact hM.1.1 i hi, fun i hi => by rw [ca (150 + i) (by omega)]; exact hM.1.2 i hi⟩
        have c1 : MR a m (zSt S (zs S) (zc S)) := MR_k hM Ka ba (by rw [fa m (by omega)]; exact q5)
        exact h a Ka.fr c1
      · have z := nlei (a := 210) (by decide) (by omega) z
        refine ⟨vin z (by decide), vin z (by decide), ?_⟩
        rw [clp (by omega), show nI k + 1 = nI (k + 1) from nI_add k 1]
        intro M7 e7
        refine hag3 z M7 ⟨fun q hq => by rw [e7, mI_n hq]; exact fa q hq, by rw [e7]; exact la, fun j hj => ?_⟩
        rw [e7, mI_s]
        by_cases y : j = k
        · rw [y, updS, fa (m + 4) (by omega)]; exact c5 k z
        · rw [updN y]; exact ca j (by omega)
theorem SW_tell {S : zS} (h : SW S) : SW (F_statue S).2 := by
  unfold F_statue
  split
  · exact SW_st h (tlS_W _ _ _)
  · exact h
theorem bo_statue {g m : Nat} {S : zS} : BO g m S (F_statue S) (fun M Q => p_X6_statue g M Q) (fun M Q => p_X7_statue m M Q) := fun hS => ⟨SW_tell hS, fun _ _ hC h => sp_statue hS hC h, fun _ _ hM h => sp7_statue hS hM h⟩
