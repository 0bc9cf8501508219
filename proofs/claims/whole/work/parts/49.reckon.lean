/-! the class's weights of rows -/
theorem uLS {f : Nat → Int64} {k : Nat} {x : Int64} : vp_updL f k x k = x := if_pos rfl
theorem uLN {f : Nat → Int64} {k j : Nat} {x : Int64} (h : j ≠ k) : vp_updL f k x j = f j := if_neg h
/-- longs of the hem change, whole numbers don't -/
def fL (M M' : mM) (b : Nat) (S : Nat → Prop) : Prop := M'.1 = M.1 ∧ (∀ k, k ≠ b → ¬ S k → M'.2 k = M.2 k) ∧ ∀ j, j ≠ 11 → j ≠ 12 → M'.2 b j = M.2 b j
theorem fL.rf {M : mM} {b : Nat} {S : Nat → Prop} : fL M M b S := ⟨rfl, fun _ _ _ => rfl, fun _ _ _ => rfl⟩
theorem fL.tr {M M1 M2 : mM} {b : Nat} {S : Nat → Prop} (h : fL M M1 b S) (g : fL M1 M2 b S) : fL M M2 b S := ⟨g.1.trans h.1, fun k a c => (g.2.1 k a c).trans (h.2.1 k a c), fun j a c => (g.2.2 j a c).trans (h.2.2 j a c)⟩
theorem fL.wd {M M1 : mM} {b : Nat} {S S' : Nat → Prop} (h : fL M M1 b S) (g : ∀ k, S k → S' k) : fL M M1 b S' := ⟨h.1, fun k a c => h.2.1 k a (fun r => c (g k r)), h.2.2⟩
theorem fL.mK {M M1 : mM} {b k : Nat} {S : Nat → Prop} {f : Nat → Int64} (h : fL M M1 b S) (hk : S k) (hb : k ≠ b) : fL M (mL M1 k f) b S := ⟨h.1, fun q a c => (mL_n (fun e => c (by rw [e]; exact hk))).trans (h.2.1 q a c), fun j a c => by rw [mL_n (fun e => hb e.symm)]; exact h.2.2 j a c⟩
theorem fL.mB {M M1 : mM} {b j : Nat} {S : Nat → Prop} {x : Int64} (h : fL M M1 b S) (hj : j = 11 ∨ j = 12) : fL M (mL M1 b (vp_updL (M1.2 b) j x)) b S := ⟨h.1, fun q a c => (mL_n a).trans (h.2.1 q a c), fun i a c => by rw [mL_s, uLN (by omega)]; exact h.2.2 i a c⟩
theorem HL.i {M M' : mM} {b hem : Nat} {s : Nat → Nat} (h : HL M b s hem) (e : M'.1 = M.1) : HL M' b s hem := by
  have : fr M (M'.1, M.2) (b + 22) (b + 23) := ⟨fun k _ => by rw [e], fun _ _ => rfl⟩
  have h2 := HT.st h this
  obtain ⟨h1, h2, h3, h4⟩ := h2
  exact ⟨h1, h2, h3, h4⟩
theorem HS.i {M M' : mM} {b hem wo : Nat} {s : Nat → Nat} (h : HS M b s hem wo) (e : M'.1 = M.1) : HS M' b s hem wo := fun p hp => by rw [e]; exact h p hp
noncomputable def w0 (s : Nat → Nat) (hem p k : Nat) : Nat := wg s 0 hem p k
noncomputable def g0 (s : Nat → Nat) (hem p a b : Nat) : Nat := gg s 0 hem p a b
theorem broken0 {M : mM} {b hem p k : Nat} {s c : Nat → Nat} (h : HL M b s hem) (w : WF s c) (hp : p < 8) (hk : k < 21) : M.1 (b + 3 + p) k = 0 ↔ w0 s hem p k ≠ 0 := by
  obtain ⟨B, b1, b2, b3⟩ := BR_fit (wo := 0) (h.2.1 p hp k hk) w hp (by decide)
  rw [b2, fr_0 (by omega), b3]; rfl
theorem w0_v {s : Nat → Nat} {hem p k : Nat} (h : w0 s hem p k ≠ 0) : w0 s hem p k = wv s k := by
  unfold w0 wg WW at h ⊢
  by_cases z : fit s (8 * hem + p) k 0
  · rw [iv_t z, wv, iv_t z.1]
  · exact absurd (iv_f z) h
theorem w0_s {s : Nat → Nat} {hem p k : Nat} (h : w0 s hem p k ≠ 0) : stk s k := wg_stk h
theorem sp_weighParts {b p c2 hem : Nat} {s c : Nat → Nat} {y : Nat → Nat} {M : mM} {Q : mM → Prop} (w : WF s c) (hL : HL M b s hem) (hp : p < 8) (hc1 : c2 ≠ b) (hc2 : c2 ≠ b + 50) (hy : ∀ k, k < 21 → w0 s hem p k ≠ 0 → M.2 c2 k = lN (y k)) (h : ∀ M', fL M M' b (fun k => k = b + 50) → (∀ k, k < 21 → M'.2 (b + 50) k = lN (w0 s hem p k * y k)) → M'.2 b 11 = lN (sm (fun k => w0 s hem p k * y k) 21) → M'.2 b 12 = M.2 b 12 → Q M') : p_X1_weighParts b (nI p) c2 21 M Q := by
  unfold p_X1_weighParts
  rintro M1 rfl
  refine loopU (A := mM) 21 (fun k a => (nI k, a)) (fun k a => fL M a b (fun k => k = b + 50) ∧ (∀ k', k' < k → a.2 (b + 50) k' = lN (w0 s hem p k' * y k')) ∧ a.2 b 11 = lN (sm (fun k => w0 s hem p k * y k) k) ∧ a.2 b 12 = M.2 b 12) _ rfl ⟨fL.rf.mB (Or.inl rfl), fun k hk => absurd hk (Nat.not_lt_zero _), by rw [mL_s, uLS]; rfl, by rw [mL_s, uLN (by decide)]⟩ ?_
  rintro k a ag hk ⟨hf, hg, ht, h12⟩ hag
  show p_X1_weighParts_F7 b (nI p) c2 21 Q ag (nI k) a
  have hLa := hL.i hf.1
  unfold p_X1_weighParts_F7
  refine ⟨fun q => ?_, fun q => ⟨vin hp (by decide), vin (nlei (a := 21) (by decide) (by omega) q) (by decide), ?_⟩⟩
  · have q := lei (a := 21) (by decide) (by omega) q
    have : k = 21 := by omega
    subst this
    exact h a hf hg ht h12
  · have q := nlei (a := 21) (by decide) (by omega) q
    rw [clp (show p < 2147483648 by omega), clp (show k < 2147483648 by omega), broken0 hLa w hp q]
    have put : ∀ x : Int64, x = lN (w0 s hem p k * y k) → p_X1_weighParts_J44 b (nI p) c2 21 Q ag (nI k) x (nI k) a := by
      rintro x rfl
      refine ⟨vin q (by decide), ?_⟩
      rintro M4 rfl
      refine ⟨vin q (by decide), ?_⟩
      rintro M7 rfl
      rw [clp (show k < 2147483648 by omega), show nI k + 1 = nI (k + 1) from nI_add k 1]
      have f4 : fL M (mL a (b + 50) (vp_updL (a.2 (b + 50)) k (lN (w0 s hem p k * y k)))) b (fun k => k = b + 50) := hf.mK rfl (by omega)
      refine hag q _ ⟨f4.mB (Or.inl rfl), fun k' hk' => ?_, ?_, ?_⟩
      · rw [mL_n (by omega), mL_s]
        rcases Nat.lt_or_ge k' k with z | z
        · rw [uLN (by omega)]; exact hg k' z
        · rw [show k' = k by omega, uLS]
      · rw [mL_s, uLS, mL_n (by omega), mL_s, uLS, ht, lN_add]; rfl
      · rw [mL_s, uLN (by decide), mL_n (by omega)]; exact h12
    by_cases z : w0 s hem p k = 0
    · refine ⟨fun _ => put 0 ?_, fun e => absurd z e⟩
      rw [z, Nat.zero_mul]; rfl
    · refine ⟨fun e => absurd z e, fun _ => ⟨vin q (by decide), vin q (by decide), put _ ?_⟩⟩
      have v9 := wv_le w q
      rw [hLa.1.2.1 k q, nI_ll (by omega), hf.2.1 c2 hc1 hc2, hy k q z, lN_mul, w0_v z]
theorem sp_joint_J {b x y n : Nat} {p : Int32} {s : Nat → Nat} {M : mM} {Q : Int32 → Prop} (hs : HB M b s) (hx : x < 21) (hy : y < 21) (hn : n = if x = y then s 8 else 1) (h : Q (nI n)) : p_X1_joint_J47 b p (nI x) (nI y) Q M := by
  subst hn
  refine ⟨fun e => ?_, fun e => ?_⟩
  · rw [if_neg (fun r => e (by rw [r]))] at h; exact h
  · rw [if_pos (eqi (by omega) (by omega) e)] at h
    rw [hs.1]; exact h
theorem sp_joint {b hem p x y : Nat} {s c : Nat → Nat} {M : mM} {Q : Int32 → Prop} (w : WF s c) (hL : HL M b s hem) (hS : HS M b s hem 0) (hp : p < 7) (hx : stk s x) (hy : stk s y) (h : Q (nI (g0 s hem p x y))) : p_X1_joint b (nI p) (nI x) (nI y) M Q := by
  have el := edF_le w (cl := 8 * hem + p) (wo := 0) (s 1) (Nat.le_refl _)
  have l1 := loS_le w p x
  have l2 := loS_le w (p + 1) y
  have x21 := hx.1
  have y21 := hy.1
  unfold p_X1_joint
  rw [clp (show p < 2147483648 by omega), hS p (by omega), show nI p + 1 = nI (p + 1) from nI_add p 1, clp (show p + 1 < 2147483648 by omega), clp (show x < 2147483648 by omega), clp (show y < 2147483648 by omega), hL.lo (by omega) hx, hL.lo (by omega) hy]
  unfold g0 gg goN at h
  generalize edF s (8 * hem + p) 0 (s 1) = E at *
  generalize loS s p x = A at *
  generalize loS s (p + 1) y = B at *
  refine ⟨fun e => absurd (lei (a := 8) (by decide) (by omega) e) (by omega), fun _ => ⟨vin (by omega) (by decide), fun e => ?_, fun e => ⟨vin (by omega) (by decide), vin y21 (by decide), vin (by omega) (by decide), vin x21 (by decide), vin (by omega) (by decide), fun f => ?_, fun f => ?_⟩⟩⟩
  · have e := eqi (b := 0) (by omega) (by decide) e
    rw [if_pos (Or.inl e)] at h
    exact sp_joint_J hL.1 x21 y21 rfl h
  · rw [jI_n A, jI_n B, jI_sub, jI_n E, jI_le (by omega) (by omega) (by omega) (by omega)] at f
    rw [if_pos (Or.inr (by omega))] at h
    exact sp_joint_J hL.1 x21 y21 rfl h
  · rw [jI_n A, jI_n B, jI_sub, jI_n E, jI_le (by omega) (by omega) (by omega) (by omega)] at f
    have e : E ≠ 0 := fun r => e (by rw [r]; rfl)
    rw [if_neg (by omega)] at h
    exact h
/-- some joint comes, whatever the losses are -/
theorem sp_jointA {b hem p x y : Nat} {s c : Nat → Nat} {M : mM} {Q : Int32 → Prop} (hS : HS M b s hem 0) (hp : p < 7) (hx : x < 21) (hy : y < 21) (h : ∀ r, Q r) : p_X1_joint b (nI p) (nI x) (nI y) M Q := by
  unfold p_X1_joint
  rw [show nI p + 1 = nI (p + 1) from nI_add p 1]
  exact ⟨fun _ => ⟨fun _ => h _, fun _ => h _⟩, fun _ => ⟨vin (by omega) (by decide), fun _ => ⟨fun _ => h _, fun _ => h _⟩, fun _ => ⟨vin (by omega) (by decide), vin hy (by decide), vin (by omega) (by decide), vin hx (by decide), vin (by omega) (by decide), fun _ => ⟨fun _ => h _, fun _ => h _⟩, fun _ => h _⟩⟩⟩
theorem sm_one {f : Nat → Nat} {k l : Nat} (hl : 1 ≤ l) : ∀ {n : Nat}, sm (fun a => f a * (if a = k then l else 1)) n = sm f n + (if k < n then (l - 1) * f k else 0)
  | 0 => by rw [if_neg (Nat.not_lt_zero _)]; rfl
  | n + 1 => by
    show sm (fun a => f a * (if a = k then l else 1)) n + f n * (if n = k then l else 1) = sm f n + f n + _
    rw [sm_one hl]
    by_cases e : n = k
    · subst e
      rw [if_neg (Nat.lt_irrefl n), if_pos rfl, if_pos (Nat.lt_succ_self n)]
      obtain ⟨j, rfl⟩ : ∃ j, l = j + 1 := ⟨l - 1, by omega⟩
      rw [Nat.add_sub_cancel, Nat.mul_add, Nat.mul_one, Nat.mul_comm j]
      omega
    · rw [if_neg e]
      by_cases z : k < n
      · rw [if_pos z, if_pos (by omega)]; omega
      · rw [if_neg z, if_neg (by omega)]; omega
theorem sp_partsBeside {b hem p k nx : Nat} {s c : Nat → Nat} {P : Nat → Nat} {M : mM} {Q : Int64 → Prop} (w : WF s c) (hL : HL M b s hem) (hS : HS M b s hem 0) (hp : p < 7) (hk : stk s k) (hnx : nx ≤ 1) (hP : ∀ a, a < 21 → M.2 (b + 50) a = lN (P a)) (hP0 : ∀ a, ¬ stk s a → P a = 0) (hT : M.2 b 11 = lN (sm P 21)) (h : Q (lN (sm (fun a => P a * (if nx = 1 then g0 s hem p a k else g0 s hem p k a)) 21))) : p_X1_partsBeside b (nI k) (nI p) (nI nx) M Q := by
  have k21 := hk.1
  have lk := w.lk
  unfold p_X1_partsBeside
  rw [clp (show p < 2147483648 by omega), hS p (by omega)]
  have el := edF_le w (cl := 8 * hem + p) (wo := 0) (s 1) (Nat.le_refl _)
  refine ⟨vin (by omega) (by decide), fun _ => ?_, fun e => ⟨vin k21 (by decide), ?_⟩⟩
  · refine loopU (A := Unit) 21 (fun i _ => (lN (sm (fun a => P a * (if nx = 1 then g0 s hem p a k else g0 s hem p k a)) i), nI i)) (fun i _ => True) () rfl trivial ?_
    rintro i _ ag hi _ hag
    show p_X1_partsBeside_F35 b (nI k) (nI p) (nI nx) M Q ag (lN (sm (fun a => P a * (if nx = 1 then g0 s hem p a k else g0 s hem p k a)) i)) (nI i)
    unfold p_X1_partsBeside_F35
    refine ⟨fun q => ?_, fun q => ⟨vin (nlei (a := 21) (by decide) (by omega) q) (by decide), fun z => ?_, fun z => ?_⟩⟩
    · have q := lei (a := 21) (by decide) (by omega) q
      have : i = 21 := by omega
      subst this
      exact h
    · have q := nlei (a := 21) (by decide) (by omega) q
      have z := eqi (b := 0) (by omega) (by decide) z
      rw [clp (show i < 2147483648 by omega), hP i q, show nI i + 1 = nI (i + 1) from nI_add i 1]
      have go := hag q () trivial
      have e1 : sm (fun a => P a * (if nx = 1 then g0 s hem p a k else g0 s hem p k a)) (i + 1) = sm (fun a => P a * (if nx = 1 then g0 s hem p a k else g0 s hem p k a)) i + P i * g0 s hem p k i := by
        show _ + P i * (if nx = 1 then g0 s hem p i k else g0 s hem p k i) = _
        rw [if_neg (by omega)]
      rw [e1] at go
      by_cases si : stk s i
      · refine sp_joint w hL hS hp hk si ?_
        rintro x rfl
        have g9 := (okG w 0 hem).2 p k i
        rw [nI_ll (by unfold g0; omega), lN_mul, lN_add]; exact go
      · refine sp_jointA (s := s) (c := c) hS hp k21 q (fun r => ?_)
        rintro x rfl
        rw [hP0 i si, Nat.zero_mul, Nat.add_zero] at go
        rw [hP0 i si, show lN 0 * r.toInt64 = 0 from Int64.zero_mul, Int64.add_zero]; exact go
    · have q := nlei (a := 21) (by decide) (by omega) q
      have z : nx = 1 := by
        rcases Nat.eq_zero_or_pos nx with e | e
        · exact absurd (by rw [e]; rfl) z
        · omega
      rw [clp (show i < 2147483648 by omega), hP i q, show nI i + 1 = nI (i + 1) from nI_add i 1]
      have go := hag q () trivial
      have e1 : sm (fun a => P a * (if nx = 1 then g0 s hem p a k else g0 s hem p k a)) (i + 1) = sm (fun a => P a * (if nx = 1 then g0 s hem p a k else g0 s hem p k a)) i + P i * g0 s hem p i k := by
        show _ + P i * (if nx = 1 then g0 s hem p i k else g0 s hem p k i) = _
        rw [if_pos z]
      rw [e1] at go
      by_cases si : stk s i
      · refine sp_joint w hL hS hp si hk ?_
        rintro x rfl
        have g9 := (okG w 0 hem).2 p i k
        rw [nI_ll (by unfold g0; omega), lN_mul, lN_add]; exact go
      · refine sp_jointA (s := s) (c := c) hS hp q k21 (fun r => ?_)
        rintro x rfl
        rw [hP0 i si, Nat.zero_mul, Nat.add_zero] at go
        rw [hP0 i si, show lN 0 * r.toInt64 = 0 from Int64.zero_mul, Int64.add_zero]; exact go
  · have e := eqi (b := 0) (by omega) (by decide) e
    have ge : ∀ a b', g0 s hem p a b' = if a = b' then s 8 else 1 := fun a b' => by unfold g0 gg goN; rw [if_pos (Or.inl e)]
    have e2 : sm (fun a => P a * (if nx = 1 then g0 s hem p a k else g0 s hem p k a)) 21 = sm (fun a => P a * (if a = k then s 8 else 1)) 21 := sm_cg (fun a _ => by
      rw [ge, ge]
      by_cases z : nx = 1
      · rw [if_pos z]
      · rw [if_neg z]
        by_cases y : a = k
        · rw [if_pos y, if_pos y.symm]
        · rw [if_neg y, if_neg (fun r => y r.symm)])
    rw [e2, sm_one lk.1, if_pos k21] at h
    rw [hT, clp (show k < 2147483648 by omega), hP k k21, hL.1.1, show nI (s 8) - 1 = nI (s 8 - 1) from pk_sub (b := 1) lk.1, nI_ll (by omega), lN_mul, lN_add]
    exact h
