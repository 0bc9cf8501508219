/-! behind -/
def bhS (b k : Nat) : Prop := k = b + 50 ∨ (b + 33 ≤ k ∧ k < b + 41)
theorem sp_reckonBehind {b hem : Nat} {s c : Nat → Nat} {M : mM} {Q : mM → Prop} (w : WF s c) (hL : HL M b s hem) (hS : HS M b s hem 0) (h : ∀ M', fL M M' b (bhS b) → (∀ p, p < 8 → ∀ k, stk s k → M'.2 (b + 33 + p) k = lN (aB s hem p k)) → M'.2 b 12 = M.2 b 12 → Q M') : p_X1_reckonBehind b M Q := by
  refine loopU (A := mM) 21 (fun k a => (nI k, a)) (fun k a => fL M a b (bhS b) ∧ (∀ k', k' < k → a.2 (b + 33 + 7) k' = 1) ∧ a.2 b 12 = M.2 b 12) M rfl ⟨fL.rf, fun k hk => absurd hk (Nat.not_lt_zero _), rfl⟩ ?_
  rintro k a ag hk ⟨hf, hg, h12⟩ hag
  show p_X1_reckonBehind_F2 b Q ag (nI k) a
  unfold p_X1_reckonBehind_F2
  refine ⟨fun q => ?_, fun q => ⟨vin (nlei (a := 21) (by decide) (by omega) q) (by decide), ?_⟩⟩
  · have q := lei (a := 21) (by decide) (by omega) q
    have : k = 21 := by omega
    subst this
    refine loopD (A := mM) 7 (fun i a => (oI i, a)) (fun i a => fL M a b (bhS b) ∧ (∀ p, i ≤ p → p < 8 → ∀ k, stk s k → a.2 (b + 33 + p) k = lN (aB s hem p k)) ∧ a.2 b 12 = M.2 b 12) a rfl ⟨hf, fun p hp hp2 k hk => by rw [show p = 7 by omega]; exact hg k hk.1, h12⟩ ?_
    rintro i a1 ag1 hi ⟨hf1, hg1, h121⟩ hag1
    show p_X1_reckonBehind_F27 b Q ag1 (oI i) a1
    have hL1 := hL.i hf1.1
    have hS1 := hS.i hf1.1
    unfold p_X1_reckonBehind_F27
    rcases i with _ | p
    · exact ⟨fun _ => h a1 hf1 (fun p hp k hk => hg1 p (by omega) hp k hk) h121, fun q => absurd (by decide) q⟩
    have hag1 := hag1 p rfl
    rw [oI_s]
    refine ⟨fun q => absurd (lti (a := p) (b := 0) (by omega) (by decide) q) (by omega), fun _ => ?_⟩
    rw [show nI p + 1 = nI (p + 1) from nI_add p 1, clp (show p + 1 < 2147483648 by omega)]
    refine ⟨vin (by omega) (by decide), sp_weighParts (p := p + 1) (y := aB s hem (p + 1)) w hL1 (by omega) (by omega) (by omega) (fun k hk nz => hg1 (p + 1) (by omega) (by omega) k (w0_s nz)) (fun M4 f4 p4 t4 z4 => ?_)⟩
    have F4 : fL M M4 b (bhS b) := hf1.tr (f4.wd (fun k e => Or.inl e))
    refine loopU (A := mM) 21 (fun k a => (nI k, a)) (fun k a => fL M a b (bhS b) ∧ (∀ p', p + 1 ≤ p' → p' < 8 → ∀ k, stk s k → a.2 (b + 33 + p') k = lN (aB s hem p' k)) ∧ a.2 (b + 50) = M4.2 (b + 50) ∧ a.2 b = M4.2 b ∧ ∀ k', k' < k → stk s k' → a.2 (b + 33 + p) k' = lN (aB s hem p k')) M4 rfl ⟨F4, fun p' hp hp2 k hk => by rw [f4.2.1 _ (by omega) (by omega)]; exact hg1 p' hp hp2 k hk, rfl, rfl, fun k hk => absurd hk (Nat.not_lt_zero _)⟩ ?_
    rintro k a5 ag5 hk ⟨hf5, hg5, hp5, ht5, hr5⟩ hag5
    show p_X1_reckonBehind_F48 b (nI p) Q ag1 ag5 (nI k) a5
    unfold p_X1_reckonBehind_F48
    refine ⟨fun q5 => ?_, fun q5 => ⟨vin (by omega) (by decide), ?_⟩⟩
    · have q5 := lei (a := 21) (by decide) (by omega) q5
      have : k = 21 := by omega
      subst this
      rw [oI_pr]
      refine hag1 a5 ⟨hf5, fun p' hp hp2 k hk => ?_, by rw [ht5, z4]; exact h121⟩
      rcases Nat.lt_or_ge p p' with z | z
      · exact hg5 p' z hp2 k hk
      · rw [show p' = p by omega]; exact hr5 k hk.1 hk
    · have q5 := nlei (a := 21) (by decide) (by omega) q5
      rw [clp (show p < 2147483648 by omega), clp (show k < 2147483648 by omega), show nI k + 1 = nI (k + 1) from nI_add k 1]
      have put : ∀ r : Int64, (stk s k → r = lN (aB s hem p k)) → vp_in (nI k) 21 ∧ ∀ M7 : mM, M7 = mL a5 (b + 33 + p) (vp_updL (a5.2 (b + 33 + p)) k r) → ag5 (nI (k + 1), M7) := by
        intro r hr
        refine ⟨vin q5 (by decide), ?_⟩
        rintro M7 rfl
        refine hag5 q5 _ ⟨hf5.mK (Or.inr (by omega)) (by omega), fun p' hp hp2 k' hk' => ?_, ?_, ?_, fun k' hk' z => ?_⟩
        · rw [mL_n (by omega)]; exact hg5 p' hp hp2 k' hk'
        · rw [mL_n (by omega)]; exact hp5
        · rw [mL_n (by omega)]; exact ht5
        · rw [mL_s]
          rcases Nat.lt_or_ge k' k with y | y
          · rw [uLN (by omega)]; exact hr5 k' y z
          · have : k' = k := by omega
            subst this
            rw [uLS]; exact hr z
      by_cases sk : stk s k
      · refine sp_partsBeside (nx := 0) (P := fun a => w0 s hem (p + 1) a * aB s hem (p + 1) a) w (hL.i hf5.1) (hS.i hf5.1) (by omega) sk (by decide) (fun a ha => by rw [hp5]; exact p4 a ha) (fun a ha => ?_) (by rw [ht5]; exact t4) (put _ (fun _ => ?_))
        · have : w0 s hem (p + 1) a = 0 := by
            by_cases z : w0 s hem (p + 1) a = 0
            · exact z
            · exact absurd (w0_s z) ha
          show w0 s hem (p + 1) a * aB s hem (p + 1) a = 0
          rw [this, Nat.zero_mul]
        · refine congrArg lN ?_
          rw [aB_s (by omega)]
          refine sm_cg (fun a _ => ?_)
          rw [if_neg (by decide)]
      · exact sp_partsBesideA (nx := 0) w (hS.i hf5.1) (by omega) q5 (fun r => put r (fun z => absurd z sk))
  · have q := nlei (a := 21) (by decide) (by omega) q
    rintro M9 rfl
    rw [clp (show k < 2147483648 by omega), show nI k + 1 = nI (k + 1) from nI_add k 1]
    refine hag q _ ⟨hf.mK (Or.inr (show b + 33 ≤ b + 33 + 7 ∧ b + 33 + 7 < b + 41 by omega)) (show b + 33 + 7 ≠ b by omega), fun k' hk' => ?_, ?_⟩
    · show (mL a (b + 33 + 7) (vp_updL (a.2 (b + 33 + 7)) k 1)).2 (b + 33 + 7) k' = 1
      rw [mL_s]
      rcases Nat.lt_or_ge k' k with y | y
      · rw [uLN (by omega)]; exact hg k' y
      · rw [show k' = k by omega, uLS]
    · show (mL a (b + 33 + 7) (vp_updL (a.2 (b + 33 + 7)) k 1)).2 b 12 = M.2 b 12
      rw [mL_n (by omega)]; exact h12
/-- the hem as reckoned -/
def HR (M : mM) (b : Nat) (s : Nat → Nat) (hem : Nat) : Prop := HL M b s hem ∧ HS M b s hem 0 ∧ M.2 b 12 = lN (aA s hem) ∧ (∀ p, p < 8 → ∀ k, stk s k → M.2 (b + 24 + p) k = lN (AH s hem p k)) ∧ ∀ p, p < 8 → ∀ k, stk s k → M.2 (b + 33 + p) k = lN (aB s hem p k)
def rkS (b k : Nat) : Prop := k = b + 50 ∨ (b + 24 ≤ k ∧ k < b + 41)
theorem sp_reckon {b hem : Nat} {s c : Nat → Nat} {M : mM} {Q : mM → Prop} (w : WF s c) (hL : HL M b s hem) (hS : HS M b s hem 0) (h : ∀ M', fL M M' b (rkS b) → HR M' b s hem → Q M') : p_X1_reckon b M Q := by
  refine sp_reckonAhead w hL hS (fun M1 f1 a1 t1 => sp_reckonBehind w (hL.i f1.1) (hS.i f1.1) (fun M2 f2 b2 t2 => h M2 ?_ ⟨(hL.i f1.1).i f2.1, (hS.i f1.1).i f2.1, by rw [t2]; exact t1, fun p hp k hk => ?_, b2⟩))
  · exact (f1.wd (fun k e => e.elim Or.inl (fun x => Or.inr (by omega)))).tr (f2.wd (fun k e => e.elim Or.inl (fun x => Or.inr (by omega))))
  · rw [f2.2.1 _ (by omega) (by unfold bhS; omega)]; exact a1 p hp k hk
theorem sp_weightOf {b hem p k : Nat} {s c : Nat → Nat} {M : mM} {Q : Int64 → Prop} (w : WF s c) (hR : HR M b s hem) (hp : p < 8) (hk : k < 21) (h : Q (lN (aF s hem p k * aB s hem p k))) : p_X1_weightOf b (nI p) (nI k) M Q := by
  obtain ⟨hL, hS, h12, hA, hB⟩ := hR
  have a1 := vin hp (by decide)
  have a2 := vin hk (by decide)
  unfold p_X1_weightOf
  rw [clp (show p < 2147483648 by omega), clp (show k < 2147483648 by omega), broken0 hL w hp hk]
  refine ⟨a1, a2, fun z => ⟨a1, a2, a2, a1, a2, ?_⟩, fun z => ?_⟩
  · have v9 := wv_le w hk
    rw [hA p hp k (w0_s z), hL.1.2.1 k hk, nI_ll (by omega), hB p hp k (w0_s z), lN_mul, lN_mul, ← w0_v z, Nat.mul_comm (AH s hem p k), ← aF_A]
    exact h
  · have z : w0 s hem p k = 0 := by
      by_cases y : w0 s hem p k = 0
      · exact y
      · exact absurd y z
    rw [aF_A, z, Nat.zero_mul, Nat.zero_mul] at h
    exact h
