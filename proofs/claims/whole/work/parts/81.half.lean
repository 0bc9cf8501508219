/-! which lamp to hold to which cell next: numbers and the class -/
noncomputable def shB (s : Nat → Nat) (hem p l k : Nat) : Nat := (LM s (p / 2) k / 2 ^ l % 2) * wt1 s hem p k
noncomputable def shN (s : Nat → Nat) (hem p l : Nat) : Nat := sm (shB s hem p l) 21
theorem shB_le (s : Nat → Nat) (hem p l k : Nat) : shB s hem p l k ≤ wt1 s hem p k := by
  unfold shB
  have : LM s (p / 2) k / 2 ^ l % 2 = 0 ∨ LM s (p / 2) k / 2 ^ l % 2 = 1 := by omega
  rcases this with e | e
  · rw [e]; omega
  · rw [e]; omega
theorem shS_le (s : Nat → Nat) (hem : Nat) {p : Nat} (l : Nat) (hp : p < 8) {n : Nat} (hn : n ≤ 21) : sm (shB s hem p l) n ≤ aA s hem := by
  rw [← wt_sum s hem hp]
  exact sm_sub (fun i _ => shB_le s hem p l i) hn
def ofN (A S : Nat) : Nat := if 2 * S < A then A - 2 * S else 2 * S - A
noncomputable def oN (s : Nat → Nat) (hem k : Nat) : Nat := ofN (aA s hem) (shN s hem (k / 4) (k % 4))
theorem oN_le (s : Nat → Nat) (hem : Nat) {k : Nat} (hk : k < 32) : oN s hem k ≤ aA s hem := by
  have h := shS_le s hem (k % 4) (show k / 4 < 8 by omega) (n := 21) (by omega)
  have h : shN s hem (k / 4) (k % 4) ≤ aA s hem := h
  unfold oN ofN
  split <;> omega
/-- the first of the least -/
noncomputable def bmI (s : Nat → Nat) (hem : Nat) : Nat → Nat
  | 0 => 0
  | k + 1 => if k = 0 ∨ oN s hem k < oN s hem (bmI s hem k) then k else bmI s hem k
theorem bmI_lt (s : Nat → Nat) (hem : Nat) : ∀ k, 0 < k → bmI s hem k < k
  | 0, h => absurd h (Nat.lt_irrefl 0)
  | k + 1, _ => by
    unfold bmI
    rcases Nat.eq_zero_or_pos k with z | z
    · rw [if_pos (Or.inl z)]; omega
    · have := bmI_lt s hem k z
      split <;> omega
def cdN (k : Nat) : Nat := 10 * (k / 4) + k % 4
noncomputable def nxN (s : Nat → Nat) (hem : Nat) (x : Nat × Nat × Nat) : Nat × Nat × Nat := if aA s hem = 0 then x else if x.1 = 0 ∨ oN s hem (bmI s hem 32) * x.2.2 < x.2.1 * aA s hem then (80 * hem + cdN (bmI s hem 32) + 1, oN s hem (bmI s hem 32), aA s hem) else x
noncomputable def mnN (s : Nat → Nat) (hem : Nat) (x : Nat × Nat × Nat) : Nat → Nat × Nat × Nat
  | 0 => x
  | k + 1 => if (mnN s hem x k).1 = 0 ∨ oN s hem k * (mnN s hem x k).2.2 < (mnN s hem x k).2.1 * aA s hem then (80 * hem + cdN k + 1, oN s hem k, aA s hem) else mnN s hem x k
theorem mnN_c (s : Nat → Nat) (hem : Nat) (x : Nat × Nat × Nat) (nz : aA s hem ≠ 0) : ∀ k, 0 < k → mnN s hem x k = if x.1 = 0 ∨ oN s hem (bmI s hem k) * x.2.2 < x.2.1 * aA s hem then (80 * hem + cdN (bmI s hem k) + 1, oN s hem (bmI s hem k), aA s hem) else x
  | 0, h => absurd h (Nat.lt_irrefl 0)
  | k + 1, _ => by
    have eb : bmI s hem (k + 1) = if k = 0 ∨ oN s hem k < oN s hem (bmI s hem k) then k else bmI s hem k := rfl
    have em : mnN s hem x (k + 1) = if (mnN s hem x k).1 = 0 ∨ oN s hem k * (mnN s hem x k).2.2 < (mnN s hem x k).2.1 * aA s hem then (80 * hem + cdN k + 1, oN s hem k, aA s hem) else mnN s hem x k := rfl
    rcases Nat.eq_zero_or_pos k with z | z
    · subst z
      rw [em, eb, if_pos (Or.inl rfl)]
      rfl
    · have ih := mnN_c s hem x nz k z
      rw [em, eb, ih]
      have pz : 0 < aA s hem := by omega
      by_cases c : x.1 = 0 ∨ oN s hem (bmI s hem k) * x.2.2 < x.2.1 * aA s hem
      · rw [if_pos c]
        by_cases d : oN s hem k < oN s hem (bmI s hem k)
        · rw [if_pos (Or.inr ((Nat.mul_lt_mul_right pz).mpr d)), if_pos (c := k = 0 ∨ _) (Or.inr d), if_pos ?_]
          rcases c with c | c
          · exact Or.inl c
          · exact Or.inr (Nat.lt_of_le_of_lt (Nat.mul_le_mul_right _ (Nat.le_of_lt d)) c)
        · rw [if_neg ?_, if_neg (c := k = 0 ∨ _) (by omega), if_pos c]
          rintro (e | e)
          · have e : 80 * hem + cdN (bmI s hem k) + 1 = 0 := e
            omega
          · exact d ((Nat.mul_lt_mul_right pz).mp e)
      · rw [if_neg c]
        have c1 : x.1 ≠ 0 := fun e => c (Or.inl e)
        have c2 : x.2.1 * aA s hem ≤ oN s hem (bmI s hem k) * x.2.2 := Nat.not_lt.mp (fun e => c (Or.inr e))
        by_cases d : oN s hem k * x.2.2 < x.2.1 * aA s hem
        · have dl : oN s hem k < oN s hem (bmI s hem k) := by
            rcases Nat.lt_or_ge (oN s hem k) (oN s hem (bmI s hem k)) with y | y
            · exact y
            · have := Nat.mul_le_mul_right x.2.2 y
              omega
          rw [if_pos (Or.inr d), if_pos (c := k = 0 ∨ _) (Or.inr dl), if_pos (Or.inr d)]
        · rw [if_neg (by omega)]
          by_cases y : k = 0 ∨ oN s hem k < oN s hem (bmI s hem k)
          · rw [if_pos y, if_neg (by omega)]
          · rw [if_neg y, if_neg c]
noncomputable def nsN (s : Nat → Nat) : Nat → Nat × Nat × Nat
  | 0 => (0, 0, 0)
  | hem + 1 => nxN s hem (nsN s hem)
theorem nsN_b {s c : Nat → Nat} (w : WF s c) : ∀ h, h ≤ 6 → (nsN s h).1 ≤ 600 ∧ (nsN s h).2.1 < 18446744073709551616 ∧ (nsN s h).2.2 < 18446744073709551616
  | 0, _ => ⟨Nat.zero_le _, (by decide : (0 : Nat) < 18446744073709551616), (by decide : (0 : Nat) < 18446744073709551616)⟩
  | h + 1, hh => by
    have ih := nsN_b w h (by omega)
    have e : nsN s (h + 1) = nxN s h (nsN s h) := rfl
    rw [e]
    have b := bmI_lt s h 32 (by decide)
    have o := oN_le s h b
    have a := aA_64 w h
    unfold nxN
    by_cases z : aA s h = 0
    · rw [if_pos z]; exact ih
    · rw [if_neg z]
      by_cases y : (nsN s h).1 = 0 ∨ oN s h (bmI s h 32) * (nsN s h).2.2 < (nsN s h).2.1 * aA s h
      · rw [if_pos y]
        refine ⟨?_, by show oN s h (bmI s h 32) < _; omega, a⟩
        show 80 * h + (10 * (bmI s h 32 / 4) + bmI s h 32 % 4) + 1 ≤ 600
        omega
      · rw [if_neg y]; exact ih
/-! 128 bits -/
theorem lN_hi {a : Nat} (h : a < 18446744073709551616) : ((lN a).toUInt64 >>> ((32 : Int32).toInt64.toUInt64 &&& Int64.toUInt64 63)).toInt64 = lN (a / 4294967296) := g_ushr (k := 32) (p := 4294967296) (by decide) (by decide) (by decide) h
theorem lN_lo {a : Nat} (h : a < 18446744073709551616) : lN a &&& 4294967295 = lN (a % 4294967296) := g_mask (a := a) (s := 32) (p := 4294967296) (by decide) (by decide) h
theorem hb_nat (ah al bh bl : Nat) (h2 : al < 4294967296) (h4 : bl < 4294967296) : (ah * 4294967296 + al) * (bh * 4294967296 + bl) / 18446744073709551616 = ah * bh + (ah * bl + al * bl / 4294967296) / 4294967296 + (al * bh + (ah * bl + al * bl / 4294967296) % 4294967296) / 4294967296 := by
  have e : (ah * 4294967296 + al) * (bh * 4294967296 + bl) = ah * bh * 18446744073709551616 + (ah * bl + al * bh) * 4294967296 + al * bl := by
    rw [Nat.add_mul, Nat.mul_add, Nat.mul_add]
    have e1 : ah * 4294967296 * (bh * 4294967296) = ah * bh * 18446744073709551616 := by
      rw [show (18446744073709551616 : Nat) = 4294967296 * 4294967296 from rfl, Nat.mul_mul_mul_comm]
    have e2 : ah * 4294967296 * bl = ah * bl * 4294967296 := Nat.mul_right_comm _ _ _
    have e3 : al * (bh * 4294967296) = al * bh * 4294967296 := (Nat.mul_assoc _ _ _).symm
    rw [e1, e2, e3, Nat.add_mul]
    omega
  rw [e]
  generalize ah * bh = X
  generalize ah * bl = Y
  generalize al * bh = Z
  generalize al * bl = T
  omega
theorem sp_highBits {a b : Nat} {M : mM} {Q : Int64 → Prop} (ha : a < 18446744073709551616) (hb : b < 18446744073709551616) (h : Q (lN (a * b / 18446744073709551616))) : p_X6_highBits (lN a) (lN b) M Q := by
  unfold p_X6_highBits
  have ah : a / 4294967296 < 4294967296 := by omega
  have al : a % 4294967296 < 4294967296 := by omega
  have bh : b / 4294967296 < 4294967296 := by omega
  have bll : b % 4294967296 < 4294967296 := by omega
  have k := hb_nat (a / 4294967296) (a % 4294967296) (b / 4294967296) (b % 4294967296) al bll
  rw [show a / 4294967296 * 4294967296 + a % 4294967296 = a by omega, show b / 4294967296 * 4294967296 + b % 4294967296 = b by omega] at k
  rw [k] at h
  rw [lN_hi ha, lN_hi hb, lN_lo ha, lN_lo hb]
  have m1 : a % 4294967296 * (b % 4294967296) ≤ 4294967295 * 4294967295 := Nat.mul_le_mul (by omega) (by omega)
  have m2 : a / 4294967296 * (b % 4294967296) ≤ 4294967295 * 4294967295 := Nat.mul_le_mul (by omega) (by omega)
  have m3 : a % 4294967296 * (b / 4294967296) ≤ 4294967295 * 4294967295 := Nat.mul_le_mul (by omega) (by omega)
  rintro x1 rfl
  simp only [lN_mul]
  rw [lN_hi (a := a % 4294967296 * (b % 4294967296)) (by omega), lN_add, lN_lo (by omega), lN_hi (by omega)]
  rintro x2 rfl
  rw [lN_add, lN_add, lN_hi (by omega), lN_add]
  exact h
theorem lN_m64 (n : Nat) : lN n = lN (n % 18446744073709551616) := wb_mod n
theorem sp_isLess4 {a b c d : Nat} {M : mM} {Q : Int32 → Prop} (ha : a < 18446744073709551616) (hb : b < 18446744073709551616) (hc : c < 18446744073709551616) (hd : d < 18446744073709551616) (h1 : a * b < c * d → Q 1) (h0 : c * d ≤ a * b → Q 0) : p_X6_isLess_ (lN a) (lN b) (lN c) (lN d) M Q := by
  have m1 : a * b < 18446744073709551616 * 18446744073709551616 := Nat.mul_lt_mul'' ha hb
  have m2 : c * d < 18446744073709551616 * 18446744073709551616 := Nat.mul_lt_mul'' hc hd
  refine sp_highBits ha hb (sp_highBits hc hd ?_)
  rw [lN_mul, lN_mul]
  generalize a * b = X at *
  generalize c * d = Y at *
  rw [lN_inj (by omega) (by omega), lN_m64 X, lN_m64 Y]
  refine ⟨fun e => sp_isLess (by omega) (by omega) (fun lt => ⟨by decide, h1 (by omega)⟩) (fun le => ⟨by decide, h0 (by omega)⟩), fun e => sp_isLess (by omega) (by omega) (fun lt => ⟨by decide, h1 (by omega)⟩) (fun le => ⟨by decide, h0 (by omega)⟩)⟩
/-! the class seeks the half -/
def fK (M M' : mM) (b : Nat) : Prop := (∀ k, k ≠ b → M'.1 k = M.1 k) ∧ (∀ j, j ≠ 14 → M'.1 b j = M.1 b j) ∧ (∀ k, k ≠ b → k ≠ b + 51 → M'.2 k = M.2 k) ∧ ∀ j, j ≠ 13 → M'.2 b j = M.2 b j
theorem fK.rf {M : mM} {b : Nat} : fK M M b := ⟨fun _ _ => rfl, fun _ _ => rfl, fun _ _ _ => rfl, fun _ _ => rfl⟩
theorem fK.tr {M M1 M2 : mM} {b : Nat} (h : fK M M1 b) (k : fK M1 M2 b) : fK M M2 b := ⟨fun q a => (k.1 q a).trans (h.1 q a), fun j a => (k.2.1 j a).trans (h.2.1 j a), fun q a c => (k.2.2.1 q a c).trans (h.2.2.1 q a c), fun j a => (k.2.2.2 j a).trans (h.2.2.2 j a)⟩
theorem fK.fr {M M' : mM} {b lo hi : Nat} (h : fK M M' b) (h1 : lo ≤ b) (h2 : b + 52 ≤ hi) : fr M M' lo hi := ⟨fun k hk => h.1 k (by omega), fun k hk => h.2.2.1 k (by omega) (by omega)⟩
theorem HR_K {M M' : mM} {b hem : Nat} {s : Nat → Nat} (h : HR M b s hem) (f : fK M M' b) : HR M' b s hem := by
  obtain ⟨h1, h2, h3, h4, h5⟩ := h
  obtain ⟨a1, a2, a3, a4⟩ := h1
  refine ⟨⟨a1.cp (f.2.1 15 (by decide)) (f.1 _ (by omega)) (fun p hp => f.1 _ (by omega)), fun p hp k hk => (a2 p hp k hk).cp (by rw [f.1 _ (by omega)]), fun t ht => (a3 t ht).cp (by rw [f.1 _ (by omega)]) (by rw [f.1 _ (by omega)]), ?_⟩, fun p hp => by rw [f.1 _ (by omega)]; exact h2 p hp, by rw [f.2.2.2 12 (by decide)]; exact h3, fun p hp k hk => by rw [f.2.2.1 _ (by omega) (by omega)]; exact h4 p hp k hk, fun p hp k hk => by rw [f.2.2.1 _ (by omega) (by omega)]; exact h5 p hp k hk⟩
  obtain ⟨O, o1, o2, o3⟩ := a4
  exact ⟨O, o1, by rw [f.2.1 16 (by decide)]; exact o2, o3⟩
theorem fK_51 {M : mM} {b : Nat} {f : Nat → Int64} : fK M (mL M (b + 51) f) b := ⟨fun _ _ => rfl, fun _ _ => rfl, fun k a c => mL_n c, fun j _ => by rw [mL_n (by omega)]⟩
theorem sp_weighLamps {b we hem p : Nat} {s c : Nat → Nat} {M : mM} {Q : mM → Prop} (w : WF s c) (hR : HR M b s hem) (hW : WE M we s) (dw : we + 16 ≤ b) (hp : p < 8) (h : ∀ M', fK M M' b → M'.1 b 14 = M.1 b 14 → M'.2 b 13 = M.2 b 13 → (∀ l, l < 4 → M'.2 (b + 51) l = lN (shN s hem p l)) → Q M') : p_X1_weighLamps b we (nI p) M Q := by
  refine loopU (A := mM) 4 (fun l a => (nI l, a)) (fun l a => fK M a b ∧ a.1 b 14 = M.1 b 14 ∧ a.2 b 13 = M.2 b 13 ∧ ∀ l', l' < l → a.2 (b + 51) l' = lN 0) M rfl ⟨fK.rf, rfl, rfl, fun l hl => absurd hl (Nat.not_lt_zero _)⟩ ?_
  rintro l a ag hl ⟨hf, h14, h13, hz⟩ hag
  show p_X1_weighLamps_F2 b we (nI p) Q ag (nI l) a
  unfold p_X1_weighLamps_F2
  refine ⟨fun q => ?_, fun q => ⟨vin (nlei (a := 4) (by decide) (by omega) q) (by decide), ?_⟩⟩
  · have q := lei (a := 4) (by decide) (by omega) q
    have : l = 4 := by omega
    subst this
    refine loopU (A := mM) 21 (fun k a => (nI k, a)) (fun k a => fK M a b ∧ a.1 b 14 = M.1 b 14 ∧ a.2 b 13 = M.2 b 13 ∧ ∀ l', l' < 4 → a.2 (b + 51) l' = lN (sm (shB s hem p l') k)) a rfl ⟨hf, h14, h13, hz⟩ ?_
    rintro k a1 ag1 hk ⟨hf1, h141, h131, hz1⟩ hag1
    show p_X1_weighLamps_F22 b we (nI p) Q ag1 (nI k) a1
    have R1 := HR_K hR hf1
    unfold p_X1_weighLamps_F22
    refine ⟨fun q1 => ?_, fun q1 => sp_weightOf w R1 hp (nlei (a := 21) (by decide) (by omega) q1) ?_⟩
    · have q1 := lei (a := 21) (by decide) (by omega) q1
      have : k = 21 := by omega
      subst this
      exact h a1 hf1 h141 h131 hz1
    · have q1 := nlei (a := 21) (by decide) (by omega) q1
      unfold p_X6_sideOf
      rw [e6_sd p (by omega), show p % 8 / 2 = p / 2 by omega]
      refine ⟨vin (by omega) (by decide), vin q1 (by decide), ?_⟩
      rintro x5 rfl
      rw [clp (show p / 2 < 2147483648 by omega), clp (show k < 2147483648 by omega)]
      have val : stk s k → a1.1 (we + 7 + p / 2) k = nI (LM s (p / 2) k) := fun sk => by rw [hf1.1 _ (by omega)]; exact (hW (p / 2) (by omega) k sk).2.1
      generalize a1.1 (we + 7 + p / 2) k = x5 at *
      refine loopU (A := mM) 4 (fun l a => (nI l, a)) (fun l a => fK M a b ∧ a.1 b 14 = M.1 b 14 ∧ a.2 b 13 = M.2 b 13 ∧ ∀ l', l' < 4 → a.2 (b + 51) l' = lN (sm (shB s hem p l') (if l' < l then k + 1 else k))) a1 rfl ⟨hf1, h141, h131, fun l' hl' => by rw [if_neg (Nat.not_lt_zero _)]; exact hz1 l' hl'⟩ ?_
      rintro l a2 ag2 hl2 ⟨hf2, h142, h132, hz2⟩ hag2
      show p_X1_weighLamps_F52 b we (nI p) (nI k) (lN (aF s hem p k * aB s hem p k)) x5 Q ag1 ag2 (nI l) a2
      unfold p_X1_weighLamps_F52
      refine ⟨fun q2 => ?_, fun q2 => ⟨vin (nlei (a := 4) (by decide) (by omega) q2) (by decide), vin (nlei (a := 4) (by decide) (by omega) q2) (by decide), ?_⟩⟩
      · have q2 := lei (a := 4) (by decide) (by omega) q2
        rw [show nI k + 1 = nI (k + 1) from nI_add k 1]
        refine hag1 q1 a2 ⟨hf2, h142, h132, fun l' hl' => ?_⟩
        have := hz2 l' hl'
        rw [if_pos (by omega)] at this
        exact this
      · have q2 := nlei (a := 4) (by decide) (by omega) q2
        rintro M7 rfl
        rw [clp (show l < 2147483648 by omega), show nI l + 1 = nI (l + 1) from nI_add l 1]
        have hl0 := hz2 l q2
        rw [if_neg (Nat.lt_irrefl l)] at hl0
        have e1 : a2.2 (b + 51) l + (((x5 >>> (nI l &&& 31)) &&& 1).toInt64) * lN (aF s hem p k * aB s hem p k) = lN (sm (shB s hem p l) (k + 1)) := by
          rw [hl0]
          have e2 : sm (shB s hem p l) (k + 1) = sm (shB s hem p l) k + shB s hem p l k := rfl
          rw [e2, ← lN_add]
          congr 1
          show _ * lN (wt1 s hem p k) = lN ((LM s (p / 2) k / 2 ^ l % 2) * wt1 s hem p k)
          by_cases sk : stk s k
          · rw [val sk, e_bit _ (LM_lt w sk) l q2, nI_ll (by omega), lN_mul]
          · rw [wt1_ns sk, Nat.mul_zero, show lN 0 = (0 : Int64) from rfl, Int64.mul_zero]
        rw [e1]
        refine hag2 q2 _ ⟨hf2.tr fK_51, h142, by rw [mL_n (by omega)]; exact h132, fun l' hl' => ?_⟩
        rw [mL_s]
        by_cases z : l' = l
        · rw [z, uLS, if_pos (by omega)]
        · rw [uLN z, hz2 l' hl']
          by_cases y : l' < l
          · rw [if_pos y, if_pos (by omega)]
          · rw [if_neg y, if_neg (by omega)]
  · have q := nlei (a := 4) (by decide) (by omega) q
    rintro M9 rfl
    rw [clp (show l < 2147483648 by omega), show nI l + 1 = nI (l + 1) from nI_add l 1]
    refine hag q _ ⟨hf.tr fK_51, h14, by rw [mL_n (by omega)]; exact h13, fun l' hl' => ?_⟩
    rw [mL_s]
    by_cases z : l' = l
    · rw [z, uLS]; rfl
    · rw [uLN z]; exact hz l' (by omega)
/-- what was sought so far -/
def skI (M : mM) (b : Nat) (s : Nat → Nat) (hem K : Nat) : Prop := (K = 0 → M.1 b 14 = -1) ∧ (0 < K → M.1 b 14 = nI (cdN (bmI s hem K)) ∧ M.2 b 13 = lN (oN s hem (bmI s hem K)))
theorem sp_seekHalf {b we hem : Nat} {s c : Nat → Nat} {M : mM} {Q : mM → Prop} (w : WF s c) (hR : HR M b s hem) (hW : WE M we s) (dw : we + 16 ≤ b) (h : ∀ M', fK M M' b → M'.1 b 14 = nI (cdN (bmI s hem 32)) → M'.2 b 13 = lN (oN s hem (bmI s hem 32)) → Q M') : p_X1_seekHalf b we M Q := by
  have A64 := aA_64 w hem
  unfold p_X1_seekHalf
  intro M1 e1
  have f1 : fK M M1 b := by
    rw [e1]
    exact ⟨fun k a => mI_n a, fun j a => by rw [mI_s, updN a], fun _ _ _ => rfl, fun _ _ => rfl⟩
  refine loopU (A := mM) 8 (fun p a => (nI p, a)) (fun p a => fK M a b ∧ skI a b s hem (4 * p)) M1 rfl ⟨f1, fun _ => by rw [e1, mI_s, updS], fun z => absurd z (by omega)⟩ ?_
  rintro p a ag hp ⟨hf, hk⟩ hag
  show p_X1_seekHalf_F7 b we Q ag (nI p) a
  unfold p_X1_seekHalf_F7
  refine ⟨fun q => ?_, fun q => ?_⟩
  · have q := lei (a := 8) (by decide) (by omega) q
    have : p = 8 := by omega
    subst this
    exact h a hf (hk.2 (by decide)).1 (hk.2 (by decide)).2
  · have q := nlei (a := 8) (by decide) (by omega) q
    have Wa : WE a we s := fun d hd k sk => by
      have := hW d hd k sk
      exact ⟨by rw [hf.1 _ (by omega)]; exact this.1, by rw [hf.1 _ (by omega)]; exact this.2.1, by rw [hf.1 _ (by omega)]; exact this.2.2⟩
    refine sp_weighLamps w (HR_K hR hf) Wa dw q (fun M2 f2 e14 e13 hl2 => ?_)
    refine loopU (A := mM) 4 (fun l a => (nI l, a)) (fun l a => fK M a b ∧ skI a b s hem (4 * p + l) ∧ ∀ l', l' < 4 → a.2 (b + 51) l' = lN (shN s hem p l')) M2 rfl ⟨hf.tr f2, ⟨fun z => by rw [e14]; exact hk.1 z, fun z => by rw [e14, e13]; exact hk.2 z⟩, hl2⟩ ?_
    rintro l a3 ag3 hl3 ⟨hf3, hk3, hw3⟩ hag3
    show p_X1_seekHalf_F21 b we (nI p) Q ag ag3 (nI l) a3
    unfold p_X1_seekHalf_F21
    refine ⟨fun q3 => ?_, fun q3 => ⟨vin (nlei (a := 4) (by decide) (by omega) q3) (by decide), ?_⟩⟩
    · have q3 := lei (a := 4) (by decide) (by omega) q3
      have : l = 4 := by omega
      subst this
      rw [show nI p + 1 = nI (p + 1) from nI_add p 1]
      exact hag q a3 ⟨hf3, by rw [show 4 * (p + 1) = 4 * p + 4 by omega]; exact hk3⟩
    · have q3 := nlei (a := 4) (by decide) (by omega) q3
      have shl := shS_le s hem l q (n := 21) (by omega)
      have shl : shN s hem p l ≤ aA s hem := shl
      have eo : oN s hem (4 * p + l) = ofN (aA s hem) (shN s hem p l) := by
        unfold oN
        rw [show (4 * p + l) / 4 = p by omega, show (4 * p + l) % 4 = l by omega]
      have ol := oN_le s hem (k := 4 * p + l) (by omega)
      rintro x4 rfl
      rw [clp (show l < 2147483648 by omega), hw3 l q3, (HR_K hR hf3).2.2.1, lN_sb shl]
      have J88 : bmI s hem (4 * p + l + 1) = 4 * p + l → p_X1_seekHalf_J88 b we Q ag ag3 (nI p) (nI l) (lN (oN s hem (4 * p + l))) a3 := by
        intro eb
        unfold p_X1_seekHalf_J88
        intro M6 e6 M7 e7
        rw [show (10 : Int32) * nI p = nI (10 * p) from pk_mul 10 p, nI_add] at e6
        rw [show nI l + 1 = nI (l + 1) from nI_add l 1]
        have F7 : fK a3 M7 b := by
          rw [e7, e6]
          exact ⟨fun k a => mI_n a, fun j a => by show (mI a3 b _).1 b j = _; rw [mI_s, updN a], fun k a _ => mL_n a, fun j a => by rw [mL_s, uLN a]; rfl⟩
        refine hag3 q3 M7 ⟨hf3.tr F7, ⟨fun z => absurd z (by omega), fun _ => ?_⟩, fun l' hl' => ?_⟩
        · rw [show 4 * p + (l + 1) = 4 * p + l + 1 by omega, eb, e7, e6]
          refine ⟨?_, by rw [mL_s, uLS]⟩
          show (mI a3 b (upd (a3.1 b) 14 (nI (10 * p + l)))).1 b 14 = _
          rw [mI_s, updS]
          unfold cdN
          congr 1; omega
        · rw [e7, mL_n (by omega), e6]
          exact hw3 l' hl'
      have J66 : p_X1_seekHalf_J66 b we Q ag ag3 (nI p) (nI l) (lN (oN s hem (4 * p + l))) a3 := by
        unfold p_X1_seekHalf_J66
        have eb : bmI s hem (4 * p + l + 1) = if 4 * p + l = 0 ∨ oN s hem (4 * p + l) < oN s hem (bmI s hem (4 * p + l)) then 4 * p + l else bmI s hem (4 * p + l) := rfl
        rcases Nat.eq_zero_or_pos (4 * p + l) with z | z
        · exact ⟨fun _ => J88 (by rw [eb, if_pos (Or.inl z)]), fun y => absurd (hk3.1 z) y⟩
        · obtain ⟨k1, k2⟩ := hk3.2 z
          have bl := bmI_lt s hem (4 * p + l) z
          have ob := oN_le s hem (k := bmI s hem (4 * p + l)) (by omega)
          have cl : cdN (bmI s hem (4 * p + l)) < 1000 := by unfold cdN; omega
          rw [k1, k2]
          refine ⟨fun y => ?_, fun _ => sp_isLess (by omega) (by omega) (fun lt => ⟨fun e => absurd e (by decide), fun _ => J88 (by rw [eb, if_pos (Or.inr lt)])⟩) (fun le => ⟨fun _ => ?_, fun e => absurd rfl e⟩)⟩
          · rw [jI_n, show (-1 : Int32) = jI (-1) from rfl, jI_eq (by omega) (by omega) (by decide) (by decide)] at y
            omega
          · rw [show nI l + 1 = nI (l + 1) from nI_add l 1]
            refine hag3 q3 a3 ⟨hf3, ⟨fun y => absurd y (by omega), fun _ => ?_⟩, hw3⟩
            rw [show 4 * p + (l + 1) = 4 * p + l + 1 by omega, eb, if_neg (by omega)]
            exact ⟨k1, k2⟩
      rw [eo] at J66
      unfold ofN at J66
      refine sp_isLess (by omega) (by omega) (fun lt => ⟨fun e => absurd e (by decide), fun _ => ?_⟩) (fun le => ⟨fun _ => ?_, fun e => absurd rfl e⟩)
      · rw [if_pos (by omega)] at J66
        rw [lN_sb (by omega), show aA s hem - shN s hem p l - shN s hem p l = aA s hem - 2 * shN s hem p l by omega]
        exact J66
      · rw [if_neg (by omega)] at J66
        rw [lN_sb (by omega), show shN s hem p l - (aA s hem - shN s hem p l) = 2 * shN s hem p l - aA s hem by omega]
        exact J66
