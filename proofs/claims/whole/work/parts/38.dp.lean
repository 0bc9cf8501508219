/-! rows of weights, place by place -/
def sm (f : Nat → Nat) : Nat → Nat
  | 0 => 0
  | n + 1 => sm f n + f n
def mx (f : Nat → Nat) : Nat → Nat
  | 0 => 0
  | n + 1 => max (mx f n) (f n)
theorem sm_cg {f g : Nat → Nat} : ∀ {n : Nat}, (∀ i, i < n → f i = g i) → sm f n = sm g n
  | 0, _ => rfl
  | n + 1, h => by unfold sm; rw [sm_cg (fun i hi => h i (by omega)), h n (by omega)]
theorem sm_z {f : Nat → Nat} : ∀ {n : Nat}, (∀ i, i < n → f i = 0) → sm f n = 0
  | 0, _ => rfl
  | n + 1, h => by unfold sm; rw [sm_z (fun i hi => h i (by omega)), h n (by omega)]
theorem sm_le {f g : Nat → Nat} : ∀ {n : Nat}, (∀ i, i < n → f i ≤ g i) → sm f n ≤ sm g n
  | 0, _ => Nat.le_refl _
  | n + 1, h => by unfold sm; exact Nat.add_le_add (sm_le (fun i hi => h i (by omega))) (h n (by omega))
theorem sm_bd {f : Nat → Nat} {c : Nat} : ∀ {n : Nat}, (∀ i, i < n → f i ≤ c) → sm f n ≤ n * c
  | 0, _ => Nat.zero_le _
  | n + 1, h => by
    unfold sm
    have h1 := sm_bd (fun i hi => h i (by omega : i < n + 1)) (n := n)
    have h2 := h n (by omega)
    have : (n + 1) * c = n * c + c := Nat.succ_mul n c
    omega
theorem sm_mono {f : Nat → Nat} {m : Nat} : ∀ {n : Nat}, m ≤ n → sm f m ≤ sm f n
  | 0, h => by rw [show m = 0 by omega]; exact Nat.le_refl _
  | n + 1, h => by
    rcases Nat.lt_or_ge m (n + 1) with q | q
    · have := sm_mono (f := f) (show m ≤ n by omega)
      show sm f m ≤ sm f n + f n
      omega
    · rw [show m = n + 1 by omega]; exact Nat.le_refl _
theorem sm_pos {f : Nat → Nat} : ∀ {n : Nat}, 0 < sm f n ↔ ∃ i, i < n ∧ 0 < f i
  | 0 => ⟨fun h => absurd h (Nat.lt_irrefl 0), fun ⟨i, h, _⟩ => absurd h (Nat.not_lt_zero _)⟩
  | n + 1 => by
    unfold sm
    constructor
    · intro h
      rcases Nat.eq_zero_or_pos (f n) with q | q
      · obtain ⟨i, h1, h2⟩ := (sm_pos (f := f) (n := n)).mp (by omega)
        exact ⟨i, by omega, h2⟩
      · exact ⟨n, by omega, q⟩
    · rintro ⟨i, h1, h2⟩
      rcases Nat.lt_or_ge i n with q | q
      · have := (sm_pos (f := f) (n := n)).mpr ⟨i, q, h2⟩
        omega
      · have : i = n := by omega
        subst this
        omega
theorem sm_add (f g : Nat → Nat) : ∀ n, sm (fun i => f i + g i) n = sm f n + sm g n
  | 0 => rfl
  | n + 1 => by unfold sm; rw [sm_add f g n]; omega
theorem sm_mulr (f : Nat → Nat) (c : Nat) : ∀ n, sm (fun i => f i * c) n = sm f n * c
  | 0 => (Nat.zero_mul c).symm
  | n + 1 => by unfold sm; rw [sm_mulr f c n, Nat.add_mul]
theorem sm_mull (f : Nat → Nat) (c : Nat) (n : Nat) : sm (fun i => c * f i) n = c * sm f n := by
  rw [Nat.mul_comm c, ← sm_mulr]; exact sm_cg (fun i _ => Nat.mul_comm _ _)
theorem sm_swap (f : Nat → Nat → Nat) (m : Nat) : ∀ n, sm (fun i => sm (fun j => f i j) m) n = sm (fun j => sm (fun i => f i j) n) m
  | 0 => (sm_z (fun _ _ => rfl)).symm
  | n + 1 => by
    show sm (fun i => sm (fun j => f i j) m) n + sm (fun j => f n j) m = _
    rw [sm_swap f m n, ← sm_add]
    exact sm_cg (fun _ _ => rfl)
theorem mx_le {f : Nat → Nat} {c : Nat} : ∀ {n : Nat}, (∀ i, i < n → f i ≤ c) → mx f n ≤ c
  | 0, _ => Nat.zero_le _
  | n + 1, h => by unfold mx; exact Nat.max_le.mpr ⟨mx_le (fun i hi => h i (by omega)), h n (by omega)⟩
theorem mx_ge {f : Nat → Nat} : ∀ {n i : Nat}, i < n → f i ≤ mx f n
  | 0, i, h => absurd h (Nat.not_lt_zero _)
  | n + 1, i, h => by
    unfold mx
    rcases Nat.lt_or_ge i n with q | q
    · exact Nat.le_trans (mx_ge q) (Nat.le_max_left _ _)
    · have : i = n := by omega
      subst this
      exact Nat.le_max_right _ _
def FF (wt : Nat → Nat → Nat) (g : Nat → Nat → Nat → Nat) : Nat → Nat → Nat
  | 0, k => wt 0 k
  | p + 1, k => sm (fun a => FF wt g p a * (g p a k * wt (p + 1) k)) 21
def AL (wt : Nat → Nat → Nat) (g : Nat → Nat → Nat → Nat) : Nat := sm (FF wt g 7) 21
def BJ (wt : Nat → Nat → Nat) (g : Nat → Nat → Nat → Nat) : Nat → Nat → Nat
  | 0, _ => 1
  | j + 1, k => sm (fun b => BJ wt g j b * (g (6 - j) k b * wt (7 - j) b)) 21
def BB (wt : Nat → Nat → Nat) (g : Nat → Nat → Nat → Nat) (p k : Nat) : Nat := BJ wt g (7 - p) k
def XJ (wt : Nat → Nat → Nat) (g : Nat → Nat → Nat → Nat) : Nat → Nat → Nat
  | 0, k => wt 7 k
  | j + 1, k => mx (fun b => XJ wt g j b * g (6 - j) k b) 21 * wt (6 - j) k
def XX (wt : Nat → Nat → Nat) (g : Nat → Nat → Nat → Nat) (p k : Nat) : Nat := XJ wt g (7 - p) k
def okW (wt : Nat → Nat → Nat) (g : Nat → Nat → Nat → Nat) : Prop := (∀ p k, wt p k ≤ 9) ∧ ∀ p a b, g p a b ≤ 9
theorem okW.m {wt : Nat → Nat → Nat} {g : Nat → Nat → Nat → Nat} (h : okW wt g) (p a b q k : Nat) : g p a b * wt q k ≤ 81 := Nat.mul_le_mul (h.2 p a b) (h.1 q k)
theorem p2048 (p : Nat) : 21 * (16 * 2048 ^ p * 81) ≤ 16 * 2048 ^ (p + 1) := by
  rw [Nat.pow_succ]; omega
theorem FF_le {wt : Nat → Nat → Nat} {g : Nat → Nat → Nat → Nat} (h : okW wt g) : ∀ p k, FF wt g p k ≤ 16 * 2048 ^ p
  | 0, k => Nat.le_trans (h.1 0 k) (by decide)
  | p + 1, k => by
    unfold FF
    exact Nat.le_trans (sm_bd (c := 16 * 2048 ^ p * 81) (fun a _ => Nat.mul_le_mul (FF_le h p a) (h.m _ _ _ _ _))) (p2048 p)
theorem BJ_le {wt : Nat → Nat → Nat} {g : Nat → Nat → Nat → Nat} (h : okW wt g) : ∀ p k, BJ wt g p k ≤ 16 * 2048 ^ p
  | 0, k => by unfold BJ; decide
  | p + 1, k => by
    unfold BJ
    exact Nat.le_trans (sm_bd (c := 16 * 2048 ^ p * 81) (fun a _ => Nat.mul_le_mul (BJ_le h p a) (h.m _ _ _ _ _))) (p2048 p)
theorem XJ_le {wt : Nat → Nat → Nat} {g : Nat → Nat → Nat → Nat} (h : okW wt g) : ∀ p k, XJ wt g p k ≤ 16 * 2048 ^ p
  | 0, k => Nat.le_trans (h.1 7 k) (by decide)
  | p + 1, k => by
    unfold XJ
    refine Nat.le_trans (Nat.mul_le_mul (mx_le (c := 16 * 2048 ^ p * 9) (fun a _ => Nat.mul_le_mul (XJ_le h p a) (h.2 _ _ _))) (h.1 _ _)) ?_
    have := p2048 p
    omega
theorem p2048_8 {p : Nat} (h : p ≤ 8) : 16 * 2048 ^ p ≤ 16 * 2048 ^ 8 := Nat.mul_le_mul_left _ (Nat.pow_le_pow_right (by decide) h)
def goN (E la lb lik a b : Nat) : Nat := if E = 0 ∨ la + E ≤ lb then (if a = b then lik else 1) else 0
noncomputable def gg (s : Nat → Nat) (wo hem p a b : Nat) : Nat := goN (edF s (8 * hem + p) wo (s 1)) (loS s p a) (loS s (p + 1) b) (s 8) a b
noncomputable def wg (s : Nat → Nat) (wo hem p k : Nat) : Nat := WW s wo (8 * hem + p) k
theorem goN_le {E la lb lik a b : Nat} (h : lik ≤ 9) : goN E la lb lik a b ≤ 9 := by
  unfold goN
  split
  · split <;> omega
  · omega
theorem WW_le {s c : Nat → Nat} (w : WF s c) (wo cl k : Nat) : WW s wo cl k ≤ 9 := by
  by_cases q : fit s cl k wo
  · rw [WW, iv_t q]; exact w.hb k q.1.1
  · rw [WW, iv_f q]; omega
theorem okG {s c : Nat → Nat} (w : WF s c) (wo hem : Nat) : okW (wg s wo hem) (gg s wo hem) := ⟨fun p k => WW_le w _ _ _, fun p a b => goN_le w.lk.2⟩
theorem loS_le {s c : Nat → Nat} (w : WF s c) (p k : Nat) : loS s p k ≤ 300 := by
  by_cases q : stk s k
  · rw [loS, iv_t q]; exact lfL_le w _ _
  · rw [loS, iv_f q]; omega
theorem sp7_goes_J {b n : Nat} {p : Int32} {x y : Nat} {s c : Nat → Nat} {M : mM} {Q : Int32 → Prop} (hs : BK M b s c) (w : WF s c) (hx : x < 21) (hy : y < 21) (hn : n = if x = y then s 8 else 1) (h : Q (nI n)) : p_X7_goes_J44 b p (nI x) (nI y) Q M := by
  subst hn
  refine ⟨fun _ => ⟨fun e => ?_, fun e => ?_⟩, fun e => absurd e (by decide)⟩
  · rw [if_neg (fun r => e (by rw [r]))] at h; exact h
  · rw [if_pos (eqi (by omega) (by omega) e)] at h
    rw [show M.1 (b + 1) (8 : Int32).toNatClampNeg = nI (s 8) from hs.1 8 (by decide)]; exact h
theorem sp7_goes {m hem wo p x y : Nat} {s c : Nat → Nat} {M : mM} {Q : Int32 → Prop} (hs : BK M m s c) (w : WF s c) (hl : LOK M m s hem wo 8) (hp : p < 7) (hx : x < 21) (hy : y < 21) (h : Q (nI (gg s wo hem p x y))) : p_X7_goes m (nI p) (nI x) (nI y) M Q := by
  have el := edF_le w (cl := 8 * hem + p) (wo := wo) (s 1) (Nat.le_refl _)
  have l1 := loS_le w p x
  have l2 := loS_le w (p + 1) y
  have h1 := (hl p (by omega)).1
  have h2 := ((hl p (by omega)).2 x hx).2
  have h3 := ((hl (p + 1) (by omega)).2 y hy).2
  unfold p_X7_goes
  rw [clp (by omega), h1, show nI p + 1 = nI (p + 1) from nI_add p 1, c21, c21, clp (by omega), clp (by omega), h2, h3]
  unfold gg goN at h
  generalize edF s (8 * hem + p) wo (s 1) = E at *
  generalize loS s p x = A at *
  generalize loS s (p + 1) y = B at *
  refine ⟨vin (by omega) (by decide), fun e => ?_, fun e => ⟨vin (by omega) (by decide), vin (by omega) (by decide), vin (by omega) (by decide), fun f => ?_, fun f => ?_⟩⟩
  · have : E = 0 := by
      by_cases n0 : E = 0
      · exact n0
      · rw [eI_p n0, jI_n, show (-1 : Int32) = jI (-1) from rfl, jI_eq (by omega) (by omega) (by decide) (by decide)] at e
        omega
    rw [if_pos (Or.inl this)] at h
    exact sp7_goes_J hs w hx hy rfl h
  · have n0 : E ≠ 0 := fun r => e (by rw [r, eI_0])
    rw [eI_p n0, jI_n A, jI_n B, jI_sub, jI_n E, jI_lt (by omega) (by omega) (by omega) (by omega)] at f
    rw [if_neg (by omega)] at h
    exact ⟨fun r => absurd rfl r, fun _ => h⟩
  · have n0 : E ≠ 0 := fun r => e (by rw [r, eI_0])
    rw [eI_p n0, jI_n A, jI_n B, jI_sub, jI_n E, jI_lt (by omega) (by omega) (by omega) (by omega)] at f
    rw [if_pos (Or.inr (by omega))] at h
    exact sp7_goes_J hs w hx hy rfl h
