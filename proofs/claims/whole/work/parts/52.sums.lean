/-! all rows together stay below 64 bits, and are the same at each place -/
theorem gg_d {s c : Nat → Nat} (w : WF s c) (wo hem p a b : Nat) : gg s wo hem p a b ≤ if a = b then 9 else 1 := by
  have lk := w.lk
  unfold gg goN
  by_cases e : a = b
  · rw [if_pos e, if_pos e]
    split <;> omega
  · rw [if_neg e, if_neg e]
    split <;> omega
theorem FF_nx {s c : Nat → Nat} (w : WF s c) (wo hem p : Nat) : sm (FF (wg s wo hem) (gg s wo hem) (p + 1)) 21 ≤ 261 * sm (FF (wg s wo hem) (gg s wo hem) p) 21 := by
  have ok := okG w wo hem
  have h1 : ∀ k, k < 21 → FF (wg s wo hem) (gg s wo hem) (p + 1) k ≤ (sm (FF (wg s wo hem) (gg s wo hem) p) 21 + 8 * FF (wg s wo hem) (gg s wo hem) p k) * 9 := by
    intro k hk
    have h2 := sm_one (f := FF (wg s wo hem) (gg s wo hem) p) (k := k) (l := 9) (by decide) (n := 21)
    rw [if_pos hk] at h2
    rw [show (9 - 1) * FF (wg s wo hem) (gg s wo hem) p k = 8 * FF (wg s wo hem) (gg s wo hem) p k from rfl] at h2
    rw [← h2, ← sm_mulr]
    refine sm_le (fun a _ => ?_)
    show FF (wg s wo hem) (gg s wo hem) p a * (gg s wo hem p a k * wg s wo hem (p + 1) k) ≤ FF (wg s wo hem) (gg s wo hem) p a * (if a = k then 9 else 1) * 9
    rw [← Nat.mul_assoc]
    exact Nat.mul_le_mul (Nat.mul_le_mul_left _ (gg_d w wo hem p a k)) (ok.1 _ _)
  refine Nat.le_trans (sm_le h1) ?_
  rw [sm_mulr, sm_add, sm_mull]
  have h3 : sm (fun _ => sm (FF (wg s wo hem) (gg s wo hem) p) 21) 21 ≤ 21 * sm (FF (wg s wo hem) (gg s wo hem) p) 21 := sm_bd (fun _ _ => Nat.le_refl _)
  have h4 : sm (fun i => FF (wg s wo hem) (gg s wo hem) p i) 21 = sm (FF (wg s wo hem) (gg s wo hem) p) 21 := rfl
  rw [h4]
  generalize sm (FF (wg s wo hem) (gg s wo hem) p) 21 = S at *
  omega
theorem FF_tot {s c : Nat → Nat} (w : WF s c) (wo hem : Nat) : ∀ p, sm (FF (wg s wo hem) (gg s wo hem) p) 21 ≤ 189 * 261 ^ p
  | 0 => Nat.le_trans (sm_bd (c := 9) (fun k _ => (okG w wo hem).1 0 k)) (by decide)
  | p + 1 => by
    refine Nat.le_trans (FF_nx w wo hem p) ?_
    have h := FF_tot w wo hem p
    rw [Nat.pow_succ 261 p]
    have : 261 * sm (FF (wg s wo hem) (gg s wo hem) p) 21 ≤ 261 * (189 * 261 ^ p) := Nat.mul_le_mul_left _ h
    generalize 261 ^ p = z at *
    omega
theorem aA_64 {s c : Nat → Nat} (w : WF s c) (hem : Nat) : aA s hem < 18446744073709551616 := Nat.lt_of_le_of_lt (FF_tot w 0 hem 7) (by decide +kernel)
theorem FB_sum (s : Nat → Nat) (hem : Nat) : ∀ j, j < 8 → sm (fun k => aF s hem (7 - j) k * aB s hem (7 - j) k) 21 = aA s hem
  | 0, _ => sm_cg (fun k _ => Nat.mul_one _)
  | j + 1, hj => by
    rw [← FB_sum s hem j (by omega)]
    have e : 7 - j = 7 - (j + 1) + 1 := by omega
    generalize 7 - (j + 1) = p at *
    rw [e]
    have hp : p < 7 := by omega
    have h1 : ∀ k, aF s hem p k * aB s hem p k = sm (fun o => aF s hem p k * (aB s hem (p + 1) o * (gg s 0 hem p k o * wg s 0 hem (p + 1) o))) 21 := by
      intro k
      rw [sm_mull]
      unfold aB
      rw [BB_s hp]
    rw [sm_cg (fun k _ => h1 k), sm_swap]
    refine sm_cg (fun o _ => ?_)
    show _ = sm (fun a => aF s hem p a * (gg s 0 hem p a o * wg s 0 hem (p + 1) o)) 21 * aB s hem (p + 1) o
    rw [← sm_mulr]
    refine sm_cg (fun k _ => ?_)
    rw [Nat.mul_comm (aB s hem (p + 1) o)]
    exact (Nat.mul_assoc _ _ _).symm
/-- what the rows with a stack in a place weigh -/
noncomputable def wt1 (s : Nat → Nat) (hem p k : Nat) : Nat := aF s hem p k * aB s hem p k
theorem wt_sum (s : Nat → Nat) (hem : Nat) {p : Nat} (hp : p < 8) : sm (wt1 s hem p) 21 = aA s hem := by
  have h := FB_sum s hem (7 - p) (by omega)
  rw [show 7 - (7 - p) = p by omega] at h
  exact h
theorem sm_sub {f g : Nat → Nat} {n : Nat} (h : ∀ i, i < n → g i ≤ f i) {m : Nat} (hm : m ≤ n) : sm g m ≤ sm f n := Nat.le_trans (sm_le (fun i hi => h i (by omega))) (sm_mono hm)
theorem sm_ge {f : Nat → Nat} : ∀ {n i : Nat}, i < n → f i ≤ sm f n
  | 0, _, h => absurd h (Nat.not_lt_zero _)
  | n + 1, i, h => by
    show f i ≤ sm f n + f n
    rcases Nat.lt_or_ge i n with z | z
    · have := sm_ge (f := f) z
      omega
    · rw [show i = n by omega]; omega
theorem wt1_le (s : Nat → Nat) (hem : Nat) {p k : Nat} (hp : p < 8) (hk : k < 21) : wt1 s hem p k ≤ aA s hem := by
  rw [← wt_sum s hem hp]; exact sm_ge hk
theorem aC_A (s : Nat → Nat) (hem : Nat) : aC s hem 0 = aA s hem := rfl
