/-! ahead, behind, and what a stack weighs in a place -/
theorem sp_partsBesideA {b hem p k nx : Nat} {s c : Nat → Nat} {M : mM} {Q : Int64 → Prop} (w : WF s c) (hS : HS M b s hem 0) (hp : p < 7) (hk : k < 21) (h : ∀ r, Q r) : p_X1_partsBeside b (nI k) (nI p) (nI nx) M Q := by
  unfold p_X1_partsBeside
  refine ⟨vin (by omega) (by decide), fun _ => ?_, fun e => ⟨vin hk (by decide), h _⟩⟩
  refine loopU (A := Int64) 21 (fun i a => (a, nI i)) (fun i _ => True) 0 rfl trivial ?_
  rintro i a ag hi _ hag
  show p_X1_partsBeside_F35 b (nI k) (nI p) (nI nx) M Q ag a (nI i)
  unfold p_X1_partsBeside_F35
  rw [show nI i + 1 = nI (i + 1) from nI_add i 1]
  refine ⟨fun q => h _, fun q => ⟨vin (nlei (a := 21) (by decide) (by omega) q) (by decide), fun z => ?_, fun z => ?_⟩⟩
  · have q := nlei (a := 21) (by decide) (by omega) q
    refine sp_jointA (s := s) (c := c) hS hp hk q (fun r => ?_)
    rintro x rfl
    exact hag q _ trivial
  · have q := nlei (a := 21) (by decide) (by omega) q
    refine sp_jointA (s := s) (c := c) hS hp q hk (fun r => ?_)
    rintro x rfl
    exact hag q _ trivial
noncomputable def AH (s : Nat → Nat) (hem : Nat) : Nat → Nat → Nat
  | 0, _ => 1
  | p + 1, k => sm (fun a => aF s hem p a * g0 s hem p a k) 21
theorem aF_A (s : Nat → Nat) (hem p k : Nat) : aF s hem p k = w0 s hem p k * AH s hem p k := by
  rcases p with _ | p
  · exact (Nat.mul_one _).symm
  · show sm (fun a => aF s hem p a * (g0 s hem p a k * w0 s hem (p + 1) k)) 21 = w0 s hem (p + 1) k * sm (fun a => aF s hem p a * g0 s hem p a k) 21
    rw [Nat.mul_comm, ← sm_mulr]
    exact sm_cg (fun a _ => (Nat.mul_assoc _ _ _).symm)
theorem aB_s {s : Nat → Nat} {hem p k : Nat} (h : p < 7) : aB s hem p k = sm (fun o => (w0 s hem (p + 1) o * aB s hem (p + 1) o) * g0 s hem p k o) 21 := by
  unfold aB
  rw [BB_s h]
  refine sm_cg (fun o _ => ?_)
  show BB (wg s 0 hem) (gg s 0 hem) (p + 1) o * (gg s 0 hem p k o * wg s 0 hem (p + 1) o) = wg s 0 hem (p + 1) o * BB (wg s 0 hem) (gg s 0 hem) (p + 1) o * gg s 0 hem p k o
  rw [Nat.mul_comm (gg s 0 hem p k o), ← Nat.mul_assoc, Nat.mul_comm (BB _ _ _ _)]
def ahS (b k : Nat) : Prop := k = b + 50 ∨ (b + 24 ≤ k ∧ k < b + 32)
theorem sp_reckonAhead {b hem : Nat} {s c : Nat → Nat} {M : mM} {Q : mM → Prop} (w : WF s c) (hL : HL M b s hem) (hS : HS M b s hem 0) (h : ∀ M', fL M M' b (ahS b) → (∀ p, p < 8 → ∀ k, stk s k → M'.2 (b + 24 + p) k = lN (AH s hem p k)) → M'.2 b 12 = lN (aA s hem) → Q M') : p_X1_reckonAhead b M Q := by
  refine loopU (A := mM) 21 (fun k a => (nI k, a)) (fun k a => fL M a b (ahS b) ∧ ∀ k', k' < k → a.2 (b + 24) k' = 1) M rfl ⟨fL.rf, fun k hk => absurd hk (Nat.not_lt_zero _)⟩ ?_
  rintro k a ag hk ⟨hf, hg⟩ hag
  show p_X1_reckonAhead_F2 b Q ag (nI k) a
  unfold p_X1_reckonAhead_F2
  refine ⟨fun q => ?_, fun q => ⟨vin (nlei (a := 21) (by decide) (by omega) q) (by decide), ?_⟩⟩
  · have q := lei (a := 21) (by decide) (by omega) q
    have : k = 21 := by omega
    subst this
    refine loopU (A := mM) 7 (fun i a => (nI (1 + i), a)) (fun i a => fL M a b (ahS b) ∧ ∀ p, p < 1 + i → ∀ k, stk s k → a.2 (b + 24 + p) k = lN (AH s hem p k)) a rfl ⟨hf, fun p hp k hk => by rw [show p = 0 by omega]; exact hg k hk.1⟩ ?_
    rintro i a1 ag1 hi ⟨hf1, hg1⟩ hag1
    show p_X1_reckonAhead_F25 b Q ag1 (nI (1 + i)) a1
    have hL1 := hL.i hf1.1
    have hS1 := hS.i hf1.1
    unfold p_X1_reckonAhead_F25
    refine ⟨fun q1 => ?_, fun q1 => ?_⟩
    · have q1 := lei (a := 8) (by decide) (by omega) q1
      have : i = 7 := by omega
      subst this
      refine sp_weighParts (p := 7) (y := AH s hem 7) w hL1 (by decide) (show b + 24 + 7 ≠ b by omega) (show b + 24 + 7 ≠ b + 50 by omega) (fun k hk nz => hg1 7 (by decide) k (w0_s nz)) (fun M1 f1 p1 t1 _ => ?_)
      rintro M2 rfl
      refine h _ ((hf1.tr (f1.wd (fun k e => Or.inl e))).mB (Or.inr rfl)) (fun p hp k hk => ?_) ?_
      · rw [mL_n (by omega), f1.2.1 _ (by omega) (by omega)]; exact hg1 p (by omega) k hk
      · rw [mL_s, uLS, t1]
        refine congrArg lN ?_
        exact sm_cg (fun k _ => (aF_A s hem 7 k).symm)
    · have q1 := nlei (a := 8) (by decide) (by omega) q1
      rw [show nI (1 + i) - 1 = nI i from (by rw [show (1 : Int32) = nI 1 from rfl, pk_sub (by omega)]; congr 1; omega), clp (show i < 2147483648 by omega)]
      refine ⟨vin (by omega) (by decide), sp_weighParts (p := i) (y := AH s hem i) w hL1 (by omega) (by omega) (by omega) (fun k hk nz => hg1 i (by omega) k (w0_s nz)) (fun M4 f4 p4 t4 _ => ?_)⟩
      have F4 : fL M M4 b (ahS b) := hf1.tr (f4.wd (fun k e => Or.inl e))
      refine loopU (A := mM) 21 (fun k a => (nI k, a)) (fun k a => fL M a b (ahS b) ∧ (∀ p, p < 1 + i → ∀ k, stk s k → a.2 (b + 24 + p) k = lN (AH s hem p k)) ∧ a.2 (b + 50) = M4.2 (b + 50) ∧ a.2 b 11 = M4.2 b 11 ∧ ∀ k', k' < k → stk s k' → a.2 (b + 24 + (1 + i)) k' = lN (AH s hem (1 + i) k')) M4 rfl ⟨F4, fun p hp k hk => by rw [f4.2.1 _ (by omega) (by omega)]; exact hg1 p hp k hk, rfl, rfl, fun k hk => absurd hk (Nat.not_lt_zero _)⟩ ?_
      rintro k a5 ag5 hk ⟨hf5, hg5, hp5, ht5, hr5⟩ hag5
      show p_X1_reckonAhead_F48 b (nI (1 + i)) Q ag1 ag5 (nI k) a5
      unfold p_X1_reckonAhead_F48
      refine ⟨fun q5 => ?_, fun q5 => ⟨vin (by omega) (by decide), ?_⟩⟩
      · have q5 := lei (a := 21) (by decide) (by omega) q5
        have : k = 21 := by omega
        subst this
        rw [show nI (1 + i) + 1 = nI (1 + (i + 1)) from nI_add (1 + i) 1]
        refine hag1 (by omega) a5 ⟨hf5, fun p hp k hk => ?_⟩
        rcases Nat.lt_or_ge p (1 + i) with z | z
        · exact hg5 p z k hk
        · rw [show p = 1 + i by omega]; exact hr5 k hk.1 hk
      · have q5 := nlei (a := 21) (by decide) (by omega) q5
        rw [show nI (1 + i) - 1 = nI i from (by rw [show (1 : Int32) = nI 1 from rfl, pk_sub (by omega)]; congr 1; omega), clp (show 1 + i < 2147483648 by omega), clp (show k < 2147483648 by omega), show nI k + 1 = nI (k + 1) from nI_add k 1]
        have put : ∀ r : Int64, (stk s k → r = lN (AH s hem (1 + i) k)) → vp_in (nI k) 21 ∧ ∀ M7 : mM, M7 = mL a5 (b + 24 + (1 + i)) (vp_updL (a5.2 (b + 24 + (1 + i))) k r) → ag5 (nI (k + 1), M7) := by
          intro r hr
          refine ⟨vin q5 (by decide), ?_⟩
          rintro M7 rfl
          refine hag5 q5 _ ⟨hf5.mK (Or.inr (by omega)) (by omega), fun p hp k' hk' => ?_, ?_, ?_, fun k' hk' z => ?_⟩
          · rw [mL_n (by omega)]; exact hg5 p hp k' hk'
          · rw [mL_n (by omega)]; exact hp5
          · rw [mL_n (by omega)]; exact ht5
          · rw [mL_s]
            rcases Nat.lt_or_ge k' k with y | y
            · rw [uLN (by omega)]; exact hr5 k' y z
            · have : k' = k := by omega
              subst this
              rw [uLS]; exact hr z
        by_cases sk : stk s k
        · refine sp_partsBeside (nx := 1) (P := fun a => w0 s hem i a * AH s hem i a) w (hL.i hf5.1) (hS.i hf5.1) (by omega) sk (by decide) (fun a ha => by rw [hp5]; exact p4 a ha) (fun a ha => ?_) (by rw [ht5]; exact t4) (put _ (fun _ => ?_))
          · have : w0 s hem i a = 0 := by
              by_cases z : w0 s hem i a = 0
              · exact z
              · exact absurd (w0_s z) ha
            show w0 s hem i a * AH s hem i a = 0
            rw [this, Nat.zero_mul]
          · refine congrArg lN ?_
            rw [show 1 + i = i + 1 by omega]
            show _ = sm (fun a => aF s hem i a * g0 s hem i a k) 21
            refine sm_cg (fun a _ => ?_)
            rw [aF_A, if_pos rfl]
        · exact sp_partsBesideA (nx := 1) w (hS.i hf5.1) (by omega) q5 (fun r => put r (fun z => absurd z sk))
  · have q := nlei (a := 21) (by decide) (by omega) q
    rintro M9 rfl
    rw [clp (show k < 2147483648 by omega), show nI k + 1 = nI (k + 1) from nI_add k 1]
    refine hag q _ ⟨hf.mK (Or.inr (show b + 24 ≤ b + 24 + 0 ∧ b + 24 + 0 < b + 32 by omega)) (show b + 24 + 0 ≠ b by omega), fun k' hk' => ?_⟩
    show (mL a (b + 24) (vp_updL (a.2 (b + 24)) k 1)).2 (b + 24) k' = 1
    rw [mL_s]
    rcases Nat.lt_or_ge k' k with y | y
    · rw [uLN (by omega)]; exact hg k' y
    · rw [show k' = k by omega, uLS]
