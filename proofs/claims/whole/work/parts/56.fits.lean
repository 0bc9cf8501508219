/-! free stacks, brightness -/
def brt (s : Nat → Nat) (k : Nat) : Nat := if tc k = 0 then 9 else s (41 + 4 * (tc k - 1))
theorem sp_brightOf {b k : Nat} {s c : Nat → Nat} {M : mM} {Q : Int32 → Prop} (hs : ST M b s c) (w : WF s c) (hk : stk s k) (h : Q (nI (brt s k))) : p_X2_brightOf b (nI k) M Q := by
  have w0 := w.1
  have t4 := tc_s hk
  refine sp_topOf hk.1 (sp_isStuff hs w t4 (fun z => ⟨fun e => absurd e (by decide), fun _ => ?_⟩) (fun z => ⟨fun _ => ?_, fun e => absurd rfl e⟩))
  · rw [show oI (tc k) = nI (tc k - 1) from (by rw [← oI_s]; congr 1; omega), clp (show tc k - 1 < 2147483648 by omega), (hs.2.2.2.2.1 (tc k - 1) (by omega)).2.1]
    unfold brt at h
    rw [if_neg z] at h
    exact ⟨vin (by omega) (by decide), h⟩
  · unfold brt at h
    rw [if_pos z] at h
    exact h
theorem sp_isFree {b hem p k : Nat} {s c : Nat → Nat} {M : mM} {Q : Int32 → Prop} (w : WF s c) (hL : HL M b s hem) (hp : p < 8) (hk : stk s k) (h1 : fit s (8 * hem + p) k 0 → Q 1) (h0 : ¬ fit s (8 * hem + p) k 0 → Q 0) : p_X1_isFree b (nI p) (nI k) M Q := by
  have w1 := w.2.1
  have hd : (8 * hem + p) % 8 / 2 = p / 2 := by omega
  have a1 := vin hp (by decide)
  have a2 := vin hk.1 (by decide)
  have k21 := hk.1
  obtain ⟨B, b1, b2, b3, b4⟩ := hL.2.1 p hp k k21
  unfold p_X1_isFree
  rw [clp (show p < 2147483648 by omega), clp (show k < 2147483648 by omega), b2, show (-1048577 : Int32) = nI 1048576 ^^^ (-1) from by decide, nI_mask (by omega)]
  have key : (∀ t, B.testBit t = true → Nat.testBit 1048576 t = true) ↔ fit s (8 * hem + p) k 0 := by
    constructor
    · intro q
      refine ⟨hk, fun t ht hc hl => ?_⟩
      rw [hd]
      by_cases z : so s t (p / 2) k
      · exact z
      · exfalso
        have k5 : s (61 + 4 * t) ≠ 5 := fun e => z (by unfold so; rw [e]; trivial)
        have := q t ((b4 hk t (by omega)).mpr ⟨by omega, ⟨ht, hl.1, by omega⟩, by omega, k5, z⟩)
        rw [show (1048576 : Nat) = 2 ^ 20 from rfl, Nat.testBit_two_pow] at this
        have := of_decide_eq_true this
        omega
    · intro q t ht
      rw [show (1048576 : Nat) = 2 ^ 20 from rfl, Nat.testBit_two_pow]
      refine decide_eq_true ?_
      rcases Nat.lt_or_ge t 20 with z | z
      · exfalso
        obtain ⟨r1, r2, r3, r4, r5⟩ := (b4 hk t z).mp ht
        have := q.2 t r2.1 (by have := r2.2.2; omega) ⟨r2.2.1, by rw [Nat.zero_div]⟩
        rw [hd] at this
        exact r5 this
      · rcases Nat.lt_or_ge t 21 with y | y
        · omega
        · have := Nat.testBit_lt_two_pow (x := B) (i := t) (Nat.lt_of_lt_of_le b1 (Nat.pow_le_pow_right (n := 2) (i := 21) (by decide) y))
          rw [this] at ht; exact absurd ht (by decide)
  rw [key]
  exact ⟨a1, a2, fun z => h0 z, fun z => h1 z⟩
