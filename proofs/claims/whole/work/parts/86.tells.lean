/-! the class tells a statue -/
theorem sp_tellItem {b g wd : Nat} {n : Nat → Nat} {x : zX} {M : mM} {Q : Int32 → mM → Prop} (hs : ST M g x.1 x.2) (w : WF x.1 x.2) (hwd : wd < 14) (hn : ∀ i, i < nmb wd → M.1 (b + 2) i = nI (n i)) (hl : ∀ i, n i < 1000) (h1 : tokR (tI wd n x).1 → ∀ M', fr M M' g (g + 12) → ST M' g (tI wd n x).2.1 (tI wd n x).2.2 → Q 1 M') (h0 : ¬ tokR (tI wd n x).1 → ∀ M', fr M M' g (g + 12) → Q 0 M') : p_X3_tellItem b g (nI wd) M Q :=
  sp_answerTo hs w hwd hn hl (fun M' f s => ⟨fun z => h0 (fun q => q z) M' f, fun z => h1 z M' f s⟩)
/-- the teller's frame: its own cells and the statue -/
def fU (M M' : mM) (b g : Nat) : Prop := (∀ k, ¬ (k = b ∨ k = b + 2 ∨ (g ≤ k ∧ k < g + 12)) → M'.1 k = M.1 k ∧ M'.2 k = M.2 k) ∧ M'.1 b 2 = M.1 b 2
theorem fU.rf {M : mM} {b g : Nat} : fU M M b g := ⟨fun _ _ => ⟨rfl, rfl⟩, rfl⟩
theorem fU.tr {M M1 M2 : mM} {b g : Nat} (h : fU M M1 b g) (k : fU M1 M2 b g) : fU M M2 b g := ⟨fun q a => ⟨(k.1 q a).1.trans (h.1 q a).1, (k.1 q a).2.trans (h.1 q a).2⟩, k.2.trans h.2⟩
theorem fU_F {M M' : mM} {b g : Nat} (h : fF M M' b) : fU M M' b g := ⟨fun k a => ⟨h.1 k (by omega) (by omega), by rw [h.2.1]⟩, h.2.2⟩
theorem fU_r {M M' : mM} {b g : Nat} (hb : g + 12 ≤ b) (h : fr M M' g (g + 12)) : fU M M' b g := ⟨fun k a => ⟨h.1 k (by omega), h.2 k (by omega)⟩, by rw [h.1 b (by omega)]⟩
theorem tX.U {M M' : mM} {b g : Nat} {t : zT} (h : tX M b t) (f : fU M M' b g) (hb : g + 12 ≤ b) : tX M' b t := ⟨by rw [f.2]; exact h.1, fun j hj => by rw [(f.1 _ (by omega)).1]; exact h.2 j hj⟩
theorem ST.F {M M' : mM} {b g : Nat} {s c : Nat → Nat} (h : ST M g s c) (f : fF M M' b) (hb : g + 12 ≤ b) : ST M' g s c := h.ag (fun k _ _ => f.1 k (by omega) (by omega))
theorem CK.r {M M' : mM} {b g p : Nat} {t : zT} (h : CK M b t p) (f : fr M M' g (g + 12)) (hb : g + 12 ≤ b) : CK M' b t p := by
  unfold CK
  rw [f.1 b (by omega)]
  exact h
noncomputable def itN (t : zT) : Nat := fstP (stp t) 200
noncomputable def f_tell (t : zT) (s : Nat → Nat) : Int32 := if tKd t (ip t (itN t)) = 0 then (if (tlS t s (itN t)).1 = 0 then nI (itN t) else (-1000) - oI (tlS t s (itN t)).1) else (-10) - nI (fpos t (ip t (itN t)))
theorem tlS_s (t : zT) (s : Nat → Nat) (n : Nat) : tlS t s (n + 1) = if (tlS t s n).1 ≠ 0 then tlS t s n else pqI (tokR (tI (wdI t n) (nmI t n) (tlS t s n).2).1) (0, (tI (wdI t n) (nmI t n) (tlS t s n).2).2) (n + 1, (tlS t s n).2) := rfl
theorem itN_le {t : zT} (hg : tG t) {i : Nat} (nb : ∀ j, j < i → ¬ stp t j) : i ≤ 150 := by
  have h1 := ip_2 i nb
  have h2 := ip_le t i
  have h3 := hg.1
  omega
theorem sp_tell {b g : Nat} {t : zT} (s : Nat → Nat) {M : mM} {Q : Int32 → mM → Prop} (hb : g + 12 ≤ b) (hx : tX M b t) (hg : tG t) (h : ∀ M', fU M M' b g → (tKd t (ip t (itN t)) = 0 → (tlS t s (itN t)).1 = 0 → ST M' g (tlS t s (itN t)).2.1 (tlS t s (itN t)).2.2) → Q (f_tell t s) M') : p_X3_tell b g M Q := by
  refine sp_beAtFirst s (fun M1 f1 s1 M2 e2 => ?_)
  have F12 : fF M1 M2 b := by rw [e2]; exact fF_D (fD.rf.st (by decide))
  have F2 : fU M M2 b g := (fU_r hb f1).tr (fU_F F12)
  have b3 : M2.1 b 3 = nI 0 := by rw [e2, mI_s, updS]; rfl
  refine sp_readToken (hx.U F2 hb) hg (Nat.zero_le _) b3 (fun M3 f3 c3 => ?_)
  refine loopU (A := mM) 150 (fun i a => (nI i, oI (tlS t s i).1, nI i, a)) (fun i a => fU M a b g ∧ CK a b t (ip t i) ∧ (∀ j, j < i → ¬ stp t j) ∧ ((tlS t s i).1 = 0 → ST a g (tlS t s i).2.1 (tlS t s i).2.2)) M3 rfl ⟨F2.tr (fU_F (fF_D f3)), c3, fun j hj => absurd hj (Nat.not_lt_zero _), fun _ => (s1.F F12 hb).F (fF_D f3) hb⟩ ?_
  rintro i a ag hi ⟨fa, ca, nb, sa⟩ hag
  show p_X3_tell_F20 b g Q ag (nI i) (oI (tlS t s i).1) (nI i) a
  have kl := tKd_le t (ip t i)
  have rl := tlS_le t s i
  have xa := hx.U fa hb
  have w := tlS_W t s i
  unfold p_X3_tell_F20
  rw [ca.2.1]
  refine ⟨fun z => ?_, fun _ => ⟨fun z => ?_, fun z => ?_⟩⟩
  · have z := lei (a := 300) (by decide) (by omega) z
    omega
  · have z : tKd t (ip t i) = 0 := eqi (b := 0) (by omega) (by decide) z
    have eN : itN t = i := fstP_at nb (Or.inl z) (by omega)
    have go := h a fa
    unfold f_tell at go
    rw [eN, if_pos z] at go
    refine ⟨fun y => ?_, fun y => ?_⟩
    · have y : ¬ (tlS t s i).1 = 0 := fun e => y (by rw [e]; rfl)
      rw [if_neg y] at go
      exact go (fun _ e => absurd e y)
    · have y := (oI_eq0 (by omega)).mp y
      rw [if_pos y] at go
      exact go (fun _ e => sa e)
  · have z : ¬ tKd t (ip t i) = 0 := fun e => z (by rw [e]; rfl)
    have J85 : itOK t (ip t i) → ∀ a' (v : Int32), fU M a' b g → a'.1 b 3 = nI (ip t (i + 1)) → ((tlS t s (i + 1)).1 = 0 → ST a' g (tlS t s (i + 1)).2.1 (tlS t s (i + 1)).2.2) → v = oI (tlS t s (i + 1)).1 → p_X3_tell_J85 b g Q ag (nI i) v (nI i) a' := by
      intro ok a' v f' b3 s' ev
      have nb' : ∀ j, j < i + 1 → ¬ stp t j := fun j hj => by
        rcases Nat.lt_or_ge j i with x | x
        · exact nb j x
        · have : j = i := by omega
          subst this
          rintro (e | e)
          · exact z e
          · exact e ok
      have l150 := itN_le hg nb'
      unfold p_X3_tell_J85
      refine sp_readToken (hx.U f' hb) hg (ip_le t (i + 1)) b3 (fun M6 f6 c6 => ?_)
      rw [ev, show nI i + 1 = nI (i + 1) from nI_add i 1]
      exact hag (by omega) M6 ⟨f'.tr (fU_F (fF_D f6)), c6, nb', fun e => (s' e).F (fF_D f6) hb⟩
    have J51 : ∀ s0, (tKd t (ip t i) = 1 → s0 = nI (wdI t i)) → p_X3_tell_J51 b g Q ag (nI i) (oI (tlS t s i).1) (nI i) s0 a := by
      intro s0 e0
      unfold p_X3_tell_J51
      refine sp_readItem xa hg (ip_le t i) ca (fun ok M4 f4 m3 mn => ⟨fun _ => ?_, fun e => absurd e (by decide)⟩) (fun no M4 f4 m5 => ⟨fun e => absurd rfl e, fun _ => ?_⟩)
      · have k1 : tKd t (ip t i) = 1 := by
          by_cases y : tKd t (ip t i) = 1
          · exact y
          · exact absurd (Or.inl ⟨rfl, y⟩) (ok 0 (by omega))
        have F4 : fU M M4 b g := fa.tr (fU_F f4)
        have hs := tlS_s t s i
        refine ⟨fun y => ?_, fun y => ?_⟩
        · have y : (tlS t s i).1 ≠ 0 := fun e => y (by rw [e]; rfl)
          rw [if_pos y] at hs
          exact J85 ok M4 _ F4 m3 (fun e => absurd (by rw [hs] at e; exact e) y) (by rw [hs])
        · have y := (oI_eq0 (by omega)).mp y
          rw [if_neg (fun e => e y)] at hs
          rw [e0 k1]
          refine sp_tellItem (n := nmI t i) ((sa y).F f4 hb) w (tVl_w k1) (fun j hj => ?_) (nmI_le ok) (fun tk M7 f7 s7 => ⟨fun _ => ?_, fun e => absurd e (by decide)⟩) (fun tk M7 f7 => ⟨fun e => absurd rfl e, fun _ => ?_⟩)
          · rw [mn j hj]
            unfold nmI
            rw [if_pos hj]
          · rw [pqI_t tk] at hs
            refine J85 ok M7 _ (F4.tr (fU_r hb f7)) (by rw [f7.1 b (by omega)]; exact m3) (fun _ => ?_) ?_
            · rw [hs]; exact s7
            · rw [hs, y]
          · rw [pqI_f tk] at hs
            refine J85 ok M7 _ (F4.tr (fU_r hb f7)) (by rw [f7.1 b (by omega)]; exact m3) (fun e => ?_) ?_
            · rw [hs] at e
              have e : i + 1 = 0 := e
              omega
            · rw [hs]; exact (oI_s i).symm
      · have eN : itN t = i := fstP_at nb (Or.inr no) (by omega)
        have go := h M4 (fa.tr (fU_F f4))
        unfold f_tell at go
        rw [eN, if_neg z] at go
        rw [m5]
        exact go (fun e => absurd e z)
    refine ⟨fun y => J51 _ (fun e => absurd (by rw [e]; rfl) y), fun y => J51 _ (fun e => ?_)⟩
    exact ca.2.2.2 (Or.inl e)
noncomputable def F_statue (S : zS) : Int32 × zS := if tKd (zt S) (ip (zt S) (itN (zt S))) = 0 ∧ (tlS (zt S) (zs S) (itN (zt S))).1 = 0 then (nI (itN (zt S)), zSt S (tlS (zt S) (zs S) (itN (zt S))).2.1 (tlS (zt S) (zs S) (itN (zt S))).2.2) else (f_tell (zt S) (zs S), S)
theorem itN_b {t : zT} (hg : tG t) : itN t ≤ 150 := by
  unfold itN
  by_cases z : ∃ n, n ≤ 150 ∧ stp t n ∧ ∀ j, j < n → ¬ stp t j
  · obtain ⟨n, h1, h2, h3⟩ := z
    rw [fstP_at h3 h2 (by omega)]
    exact h1
  · exfalso
    have all : ∀ n, n ≤ 151 → ∀ j, j < n → ¬ stp t j := by
      intro n
      induction n with
      | zero => exact fun _ j hj => absurd hj (Nat.not_lt_zero _)
      | succ n ih =>
        intro hn j hj
        have ih := ih (by omega)
        rcases Nat.lt_or_ge j n with x | x
        · exact ih j x
        · have : j = n := by omega
          subst this
          exact fun q => z ⟨j, by omega, q, ih⟩
    have := itN_le hg (all 151 (Nat.le_refl _))
    omega
theorem fpos_le {t : zT} {p : Nat} (h : p ≤ t.1) : fpos t p ≤ t.1 := (tSt_b (pos_le h _)).2
theorem jI_ng {a b : Nat} (ha : a < 1000000) (h0 : 0 < a) (hb : b < 1000000) : jI (-(a : Int)) - nI b < 0 := by
  rw [jI_n, jI_sub, show (0 : Int32) = jI 0 from rfl, jI_lt (by omega) (by omega) (by decide) (by decide)]
  omega
theorem f_tell_n {t : zT} (hg : tG t) {s : Nat → Nat} (h : ¬ (tKd t (ip t (itN t)) = 0 ∧ (tlS t s (itN t)).1 = 0)) : f_tell t s < 0 := by
  have hN := itN_b hg
  have l := tlS_le t s (itN t)
  have g1 := hg.1
  unfold f_tell
  by_cases z : tKd t (ip t (itN t)) = 0
  · have y : ¬ (tlS t s (itN t)).1 = 0 := fun e => h ⟨z, e⟩
    rw [if_pos z, if_neg y, oI_p y]
    exact jI_ng (a := 1000) (by decide) (by decide) (by omega)
  · rw [if_neg z]
    have := fpos_le (ip_le t (itN t))
    exact jI_ng (a := 10) (by decide) (by decide) (by omega)
theorem SW_tG {S : zS} (h : SW S) : tG (zt S) := h.2.2
theorem sp_statue {g : Nat} {S : zS} {M : mM} {Q : Int32 → mM → Prop} (hS : SW S) (hC : CR M g S) (h : ∀ M', fr M M' g (g + 145) → CR M' g (F_statue S).2 → Q (F_statue S).1 M') : p_X6_statue g M Q := by
  have hg := SW_tG hS
  have hN := itN_b hg
  unfold p_X6_statue
  refine sp_tell (t := zt S) (zs S) (by omega) hC.2.2.1 hg (fun M1 f1 s1 => ?_)
  have F1 : fr M M1 g (g + 145) := ⟨fun k hk => (f1.1 k (by omega)).1, fun k hk => (f1.1 k (by omega)).2⟩
  have C1 : CR M1 g S := by
    obtain ⟨h1, h2, h3, h4, h5⟩ := hC
    refine ⟨h1.ag (fun k a b => (f1.1 k (by omega)).1), fun i hi => (h2 i hi).ag hi (fun k a b => (f1.1 k (by omega)).1), h3.ag f1.2 (f1.1 _ (by omega)).1, ⟨h4.1.ag (f1.1 _ (by omega)).1 (f1.1 _ (by omega)).1, h4.2.ag (f1.1 _ (by omega)).1 (f1.1 _ (by omega)).1⟩, fun k hk => by rw [(f1.1 _ (by omega)).1]; exact h5 k hk⟩
  unfold F_statue at h
  by_cases z : tKd (zt S) (ip (zt S) (itN (zt S))) = 0 ∧ (tlS (zt S) (zs S) (itN (zt S))).1 = 0
  · rw [if_pos z] at h
    have e : f_tell (zt S) (zs S) = nI (itN (zt S)) := by
      unfold f_tell
      rw [if_pos z.1, if_pos z.2]
    rw [e]
    refine ⟨fun y => absurd (lti (b := 0) (by omega) (by decide) y) (by omega), fun _ => ?_⟩
    exact sp_becomeS (tlS_W _ _ _) (by omega) (s1 z.1 z.2) (fun M3 f3 s3 => h M3 (F1.tr (f3.wd (by omega) (by omega))) (CR_st C1 f3 s3))
  · rw [if_neg z] at h
    have n := f_tell_n hg z
    generalize f_tell (zt S) (zs S) = r at *
    exact ⟨fun _ => h M1 F1 C1, fun y => absurd n y⟩
