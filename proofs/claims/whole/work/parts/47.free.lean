/-! which stacks are free, and the way there -/
theorem nI_mask {B wo : Nat} (hB : B < 2147483648) : nI B &&& (nI wo ^^^ (-1)) = 0 ↔ ∀ t, B.testBit t = true → wo.testBit t = true := by
  rw [← Int32.toBitVec_inj]
  have e : (nI B &&& (nI wo ^^^ (-1))).toBitVec = BitVec.ofNat 32 B &&& (BitVec.ofNat 32 wo ^^^ BitVec.allOnes 32) := rfl
  rw [e]
  show _ = (0#32) ↔ _
  have bit : ∀ i, i < 32 → (BitVec.ofNat 32 B &&& (BitVec.ofNat 32 wo ^^^ BitVec.allOnes 32)).getLsbD i = (B.testBit i && !(wo.testBit i)) := by
    intro i hi
    rw [BitVec.getLsbD_and, BitVec.getLsbD_xor, BitVec.getLsbD_ofNat, BitVec.getLsbD_ofNat, BitVec.getLsbD_allOnes]
    simp only [hi, decide_true, Bool.true_and, Bool.xor_true]
  constructor
  · intro h t ht
    have t31 : t < 31 := by
      rcases Nat.lt_or_ge t 31 with z | z
      · exact z
      · have := Nat.testBit_lt_two_pow (x := B) (i := t) (Nat.lt_of_lt_of_le hB (Nat.pow_le_pow_right (n := 2) (i := 31) (by decide) z))
        rw [this] at ht; exact absurd ht (by decide)
    have g := bit t (by omega)
    rw [h, ht, BitVec.getLsbD_zero] at g
    cases q : wo.testBit t
    · rw [q] at g; exact absurd g (by decide)
    · rfl
  · intro h
    apply BitVec.eq_of_getLsbD_eq
    intro i hi
    rw [bit i hi, BitVec.getLsbD_zero]
    cases q : B.testBit i
    · rfl
    · rw [h i q]; rfl
theorem tb_dm (x i : Nat) : x.testBit i = true ↔ x / 2 ^ i % 2 = 1 := by
  rw [Nat.testBit_eq_decide_div_mod_eq]; exact decide_eq_true_iff
theorem BR_fit {M : mM} {b hem p k wo : Nat} {s c : Nat → Nat} (h : BR M b s hem 20 p k) (w : WF s c) (hp : p < 8) (ho : wo < 1048576) : ∃ B, B < 2097152 ∧ M.1 (b + 3 + p) k = nI B ∧ ((∀ t, B.testBit t = true → wo.testBit t = true) ↔ wg s wo hem p k ≠ 0) := by
  have w1 := w.2.1
  obtain ⟨B, b1, b2, b3, b4⟩ := h
  refine ⟨B, b1, b2, ?_⟩
  have o20 : wo.testBit 20 = false := Nat.testBit_lt_two_pow (by exact ho)
  have hd : (8 * hem + p) % 8 / 2 = p / 2 := by omega
  constructor
  · intro q
    have nz : wv s k ≠ 0 := fun e => by
      have := q 20 (b3.mpr e)
      rw [o20] at this
      exact absurd this (by decide)
    have kk : stk s k := by
      by_cases z : stk s k
      · exact z
      · exact absurd (iv_f z) nz
    have hfit : fit s (8 * hem + p) k wo := by
      refine ⟨kk, fun t ht hc hl => ?_⟩
      rw [hd]
      by_cases z : so s t (p / 2) k
      · exact z
      · exfalso
        have k5 : s (61 + 4 * t) ≠ 5 := fun e => z (by unfold so; rw [e]; trivial)
        have := q t ((b4 kk t (by omega)).mpr ⟨by omega, ⟨ht, hl.1, by omega⟩, by omega, k5, z⟩)
        rw [tb_dm] at this
        have := hl.2
        omega
    unfold wg WW
    rw [iv_t hfit]
    unfold wv at nz
    rw [iv_t kk] at nz
    exact nz
  · intro q t ht
    unfold wg WW at q
    have hfit : fit s (8 * hem + p) k wo := by
      by_cases z : fit s (8 * hem + p) k wo
      · exact z
      · exact absurd (iv_f z) q
    rw [iv_t hfit] at q
    have kk := hfit.1
    rcases Nat.lt_or_ge t 20 with z | z
    · obtain ⟨r1, r2, r3, r4, r5⟩ := (b4 kk t z).mp ht
      by_cases y : wo.testBit t = true
      · exact y
      · exfalso
        rw [tb_dm] at y
        have ce : s (60 + 4 * t) = 8 * hem + p := by have := r2.2.2; omega
        have := hfit.2 t r2.1 ce ⟨r2.2.1, by omega⟩
        rw [hd] at this
        exact r5 this
    · rcases Nat.lt_or_ge t 21 with y | y
      · have : t = 20 := by omega
        subst this
        have := b3.mp ht
        unfold wv at this
        rw [iv_t kk] at this
        exact absurd this q
      · have := Nat.testBit_lt_two_pow (x := B) (i := t) (Nat.lt_of_lt_of_le b1 (Nat.pow_le_pow_right (n := 2) (i := 21) (by decide) y))
        rw [this] at ht; exact absurd ht (by decide)
theorem fr_0 {B : Nat} (hB : B < 2147483648) : (nI B = 0 ↔ ∀ t, B.testBit t = true → (0 : Nat).testBit t = true) := by
  constructor
  · intro e t ht
    have e := eqi (b := 0) hB (by decide) e
    rw [e] at ht; exact ht
  · intro h
    have : B = 0 := Nat.eq_of_testBit_eq (fun i => by
      cases q : B.testBit i
      · rw [Nat.zero_testBit]
      · rw [h i q])
    rw [this]; rfl
theorem AL_nz {wt : Nat → Nat → Nat} {g : Nat → Nat → Nat → Nat} : AL wt g ≠ 0 ↔ ∃ k, k < 21 ∧ 0 < FF wt g 7 k := by
  rw [← Nat.pos_iff_ne_zero]
  exact sm_pos
theorem FF_ps {wt : Nat → Nat → Nat} {g : Nat → Nat → Nat → Nat} {p k : Nat} : 0 < FF wt g (p + 1) k ↔ 0 < wt (p + 1) k ∧ ∃ a, a < 21 ∧ 0 < FF wt g p a ∧ 0 < g p a k := by
  show 0 < sm _ 21 ↔ _
  rw [sm_pos]
  constructor
  · rintro ⟨a, h1, h2⟩
    have n1 := Nat.pos_of_mul_pos_right h2
    have n2 := Nat.pos_of_mul_pos_left h2
    exact ⟨Nat.pos_of_mul_pos_left n2, a, h1, n1, Nat.pos_of_mul_pos_right n2⟩
  · rintro ⟨h1, a, h2, h3, h4⟩
    exact ⟨a, h2, Nat.mul_pos h3 (Nat.mul_pos h4 h1)⟩
theorem FF_none {wt : Nat → Nat → Nat} {g : Nat → Nat → Nat → Nat} {p : Nat} (h : ∀ k, k < 21 → FF wt g p k = 0) : ∀ q, p < q → ∀ k, FF wt g q k = 0
  | 0, hq, _ => absurd hq (Nat.not_lt_zero _)
  | q + 1, hq, k => sm_z (fun a ha => by
    rcases Nat.lt_or_ge p q with z | z
    · rw [FF_none h q z a, Nat.zero_mul]
    · rw [show q = p by omega, h a ha, Nat.zero_mul])
theorem gg_ps {s c : Nat → Nat} (w : WF s c) {wo hem p a b : Nat} : 0 < gg s wo hem p a b ↔ edF s (8 * hem + p) wo (s 1) = 0 ∨ loS s p a + edF s (8 * hem + p) wo (s 1) ≤ loS s (p + 1) b := by
  have lk := w.lk
  unfold gg goN
  constructor
  · intro h
    by_cases q : edF s (8 * hem + p) wo (s 1) = 0 ∨ loS s p a + edF s (8 * hem + p) wo (s 1) ≤ loS s (p + 1) b
    · exact q
    · rw [if_neg q] at h; omega
  · intro h
    rw [if_pos h]
    split <;> omega
