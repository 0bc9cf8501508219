/-! loops, frames, digits -/
theorem loopG {σ A : Type} {F : (σ → Prop) → σ → Prop} {s0 : σ} (mk : A → σ) (I : Nat → A → Prop) (n0 : Nat) (a0 : A) (e : mk a0 = s0) (h0 : I n0 a0) (hs : ∀ n a (ag : σ → Prop), I n a → (∀ m a', m < n → I m a' → ag (mk a')) → F ag (mk a)) : Loop F s0 := by
  refine ⟨fun n s => ∃ a, s = mk a ∧ I n a, n0, ⟨a0, e.symm, h0⟩, ?_⟩
  rintro n s ⟨a, rfl, ha⟩
  exact hs n a _ ha (fun m a' hm hi => ⟨m, hm, a', rfl, hi⟩)
theorem loopU {σ A : Type} {F : (σ → Prop) → σ → Prop} {s0 : σ} (N : Nat) (mk : Nat → A → σ) (I : Nat → A → Prop) (a0 : A) (e : mk 0 a0 = s0) (h0 : I 0 a0) (hs : ∀ i a (ag : σ → Prop), i ≤ N → I i a → (i < N → ∀ a', I (i + 1) a' → ag (mk (i + 1) a')) → F ag (mk i a)) : Loop F s0 := by
  refine loopG (A := Nat × A) (fun p => mk p.1 p.2) (fun n p => p.1 ≤ N ∧ n = N - p.1 ∧ I p.1 p.2) N (0, a0) e ⟨Nat.zero_le _, rfl, h0⟩ ?_
  rintro n ⟨i, a⟩ ag ⟨h1, h2, h3⟩ hag
  exact hs i a ag h1 h3 (fun hi a' ha' => hag (N - (i + 1)) (i + 1, a') (by have : i ≤ N := h1; have h2 : n = N - i := h2; omega) ⟨hi, rfl, ha'⟩)
/-- downwards: from N to 0 steps left -/
theorem loopD {σ A : Type} {F : (σ → Prop) → σ → Prop} {s0 : σ} (N : Nat) (mk : Nat → A → σ) (I : Nat → A → Prop) (a0 : A) (e : mk N a0 = s0) (h0 : I N a0) (hs : ∀ i a (ag : σ → Prop), i ≤ N → I i a → (∀ j, i = j + 1 → ∀ a', I j a' → ag (mk j a')) → F ag (mk i a)) : Loop F s0 := by
  refine loopG (A := Nat × A) (fun p => mk p.1 p.2) (fun n p => p.1 ≤ N ∧ n = p.1 ∧ I p.1 p.2) N (N, a0) e ⟨Nat.le_refl _, rfl, h0⟩ ?_
  rintro n ⟨i, a⟩ ag ⟨h1, h2, h3⟩ hag
  exact hs i a ag h1 h3 (fun j hj a' ha' => hag j (j, a') (by have h2 : n = i := h2; omega) ⟨by have h1 : i ≤ N := h1; omega, rfl, ha'⟩)
theorem lei {a b : Nat} (ha : a < 2147483648) (hb : b < 2147483648) (h : nI a ≤ nI b) : a ≤ b := (nI_leI ha hb).mp h
theorem nlei {a b : Nat} (ha : a < 2147483648) (hb : b < 2147483648) (h : ¬ nI a ≤ nI b) : b < a := Nat.not_le.mp (fun q => h ((nI_leI ha hb).mpr q))
theorem lti {a b : Nat} (ha : a < 2147483648) (hb : b < 2147483648) (h : nI a < nI b) : a < b := (nI_ltI ha hb).mp h
theorem nlti {a b : Nat} (ha : a < 2147483648) (hb : b < 2147483648) (h : ¬ nI a < nI b) : b ≤ a := Nat.not_lt.mp (fun q => h ((nI_ltI ha hb).mpr q))
theorem eqi {a b : Nat} (ha : a < 2147483648) (hb : b < 2147483648) (h : nI a = nI b) : a = b := (nI_eq ha hb).mp h
theorem vin {i n : Nat} (h : i < n) (hn : n < 2147483648) : vp_in (nI i) n := vp_in_nI h hn
theorem clp {i : Nat} (h : i < 2147483648) : (nI i).toNatClampNeg = i := nI_clamp h
/-- what is outside lo .. hi stays -/
def fr (M M' : mM) (lo hi : Nat) : Prop := (∀ k, (k < lo ∨ hi ≤ k) → M'.1 k = M.1 k) ∧ ∀ k, (k < lo ∨ hi ≤ k) → M'.2 k = M.2 k
theorem fr.rf {M : mM} {lo hi : Nat} : fr M M lo hi := ⟨fun _ _ => rfl, fun _ _ => rfl⟩
theorem fr.tr {M M1 M2 : mM} {lo hi : Nat} (h : fr M M1 lo hi) (h2 : fr M1 M2 lo hi) : fr M M2 lo hi := ⟨fun k q => (h2.1 k q).trans (h.1 k q), fun k q => (h2.2 k q).trans (h.2 k q)⟩
theorem fr.wd {M M1 : mM} {lo hi lo' hi' : Nat} (h : fr M M1 lo hi) (h1 : lo' ≤ lo) (h2 : hi ≤ hi') : fr M M1 lo' hi' := ⟨fun k q => h.1 k (by omega), fun k q => h.2 k (by omega)⟩
theorem fr.mI {M M1 : mM} {lo hi k : Nat} {f : Nat → Int32} (h : fr M M1 lo hi) (h1 : lo ≤ k) (h2 : k < hi) : fr M (mI M1 k f) lo hi := ⟨fun q hq => (mI_n (by omega)).trans (h.1 q hq), fun q hq => h.2 q hq⟩
theorem fr.mL {M M1 : mM} {lo hi k : Nat} {f : Nat → Int64} (h : fr M M1 lo hi) (h1 : lo ≤ k) (h2 : k < hi) : fr M (mL M1 k f) lo hi := ⟨fun q hq => h.1 q hq, fun q hq => (mL_n (by omega)).trans (h.2 q hq)⟩
def pw (i : Nat) : Nat := 1073741824 ^ i
theorem pw_0 : pw 0 = 1 := rfl
theorem pw_s (i : Nat) : pw (i + 1) = pw i * 1073741824 := Nat.pow_succ 1073741824 i
theorem pw_pos (i : Nat) : 0 < pw i := Nat.pow_pos (by decide)
theorem pw_add (a b : Nat) : pw (a + b) = pw a * pw b := Nat.pow_add _ _ _
theorem pw_le {a b : Nat} (h : a ≤ b) : pw a ≤ pw b := Nat.pow_le_pow_right (by decide) h
def dg (v i : Nat) : Nat := v / pw i % 1073741824
theorem dg_lt (v i : Nat) : dg v i < 1073741824 := Nat.mod_lt _ (by decide)
theorem dg_div (v i : Nat) : v / pw (i + 1) = v / pw i / 1073741824 := by rw [pw_s, Nat.div_div_eq_div_mul]
theorem dg_split (v i : Nat) : v / pw i = v / pw (i + 1) * 1073741824 + dg v i := by rw [dg_div, dg]; omega
theorem dg_0 {v i : Nat} (h : v < pw i) : dg v i = 0 := by rw [dg, Nat.div_eq_of_lt h]
theorem dg_z (i : Nat) : dg 0 i = 0 := dg_0 (pw_pos i)
theorem dg_mod (v i : Nat) : v % pw (i + 1) = v % pw i + pw i * dg v i := by rw [pw_s, Nat.mod_mul]; rfl
theorem dg_lin {T i U e c : Nat} (h : T / pw i = U * 1073741824 + e + c) : dg T i = (e + c) % 1073741824 ∧ T / pw (i + 1) = U + (e + c) / 1073741824 := by
  rw [dg_div, dg, h]
  omega
theorem dg_d0 (v : Nat) : v / pw 0 = v := Nat.div_one v
theorem dg_big {v n i : Nat} (h : v < pw n) (hi : n ≤ i) : dg v i = 0 := dg_0 (Nat.lt_of_lt_of_le h (pw_le hi))
def lnF (v : Nat) : Nat → Nat
  | 0 => 0
  | n + 1 => if dg v n = 0 then lnF v n else n + 1
theorem lnF_le (v : Nat) : ∀ n, lnF v n ≤ n
  | 0 => Nat.le_refl _
  | n + 1 => by
    unfold lnF
    have := lnF_le v n
    split <;> omega
theorem lnF_nz (v : Nat) : ∀ n, 0 < lnF v n → dg v (lnF v n - 1) ≠ 0
  | 0, h => absurd h (Nat.lt_irrefl 0)
  | n + 1, h => by
    unfold lnF at h ⊢
    by_cases e : dg v n = 0
    · rw [if_pos e] at h ⊢
      exact lnF_nz v n h
    · rw [if_neg e] at h ⊢
      exact e
theorem lnF_lt {v : Nat} : ∀ {n : Nat}, v < pw n → v < pw (lnF v n)
  | 0, h => h
  | n + 1, h => by
    unfold lnF
    by_cases e : dg v n = 0
    · rw [if_pos e]
      apply lnF_lt
      have h1 : v / pw n < 1073741824 := Nat.div_lt_of_lt_mul (by rw [← pw_s]; exact h)
      have h2 : v / pw n = 0 := by
        unfold dg at e
        generalize v / pw n = q at e h1 ⊢
        omega
      exact (Nat.div_eq_zero_iff_lt (pw_pos n)).mp h2
    · rw [if_neg e]
      exact h
theorem lnF_mono {v n : Nat} (h : v < pw n) : ∀ k, lnF v (n + k) = lnF v n
  | 0 => rfl
  | k + 1 => by
    show (if dg v (n + k) = 0 then lnF v (n + k) else n + k + 1) = _
    rw [if_pos (dg_big h (Nat.le_add_right n k))]
    exact lnF_mono h k
/-- how many digits -/
def ln (v : Nat) : Nat := lnF v 40
theorem ln_le (v : Nat) : ln v ≤ 40 := lnF_le v 40
theorem ln_eq {v n : Nat} (h : v < pw n) (hn : n ≤ 40) : lnF v n = ln v := by
  have := lnF_mono h (40 - n)
  rw [show n + (40 - n) = 40 by omega] at this
  exact this.symm
theorem ln_le' {v n : Nat} (h : v < pw n) (hn : n ≤ 40) : ln v ≤ n := by
  rw [← ln_eq h hn]; exact lnF_le v n
theorem ln_lt {v : Nat} (h : v < pw 40) : v < pw (ln v) := lnF_lt h
theorem ln_0 : ln 0 = 0 := by
  rw [← ln_eq (n := 0) (by decide) (by decide)]; rfl
theorem ln_pos {v : Nat} (h : v < pw 40) (hv : 0 < v) : 0 < ln v := by
  rcases Nat.eq_zero_or_pos (ln v) with e | e
  · have := ln_lt h
    rw [e, pw_0] at this
    omega
  · exact e
theorem ln_lo {v : Nat} (h : 0 < ln v) : pw (ln v - 1) ≤ v := by
  have h1 := lnF_nz v 40 h
  rcases Nat.lt_or_ge v (pw (ln v - 1)) with q | q
  · exact absurd (dg_0 q) h1
  · exact q
theorem ln_ne0 {v : Nat} (h : v < pw 40) : ln v = 0 ↔ v = 0 := by
  refine ⟨fun e => ?_, fun e => by rw [e]; exact ln_0⟩
  rcases Nat.eq_zero_or_pos v with q | q
  · exact q
  · have := ln_pos h q
    omega
theorem ln_cmp {a b : Nat} (ha : a < pw 40) (h : ln a < ln b) : a < b :=
  Nat.lt_of_lt_of_le (ln_lt ha) (Nat.le_trans (pw_le (by omega)) (ln_lo (by omega)))
theorem ln_top {v : Nat} (h : v < pw 40) {i : Nat} (hi : ln v ≤ i) : dg v i = 0 := dg_big (ln_lt h) hi
/-- digits decide -/
theorem dg_cmp {a b i : Nat} (hh : a / pw (i + 1) = b / pw (i + 1)) (h : dg a i < dg b i) : a < b := by
  have h1 := dg_split a i
  have h2 := dg_split b i
  have h3 : a / pw i < b / pw i := by omega
  rcases Nat.lt_or_ge a b with q | q
  · exact q
  · exact absurd (Nat.div_le_div_right q) (Nat.not_le.mpr h3)
theorem dg_eqs {a b i : Nat} (hh : a / pw (i + 1) = b / pw (i + 1)) (h : dg a i = dg b i) : a / pw i = b / pw i := by
  rw [dg_split a i, dg_split b i, hh, h]
theorem nI_and30 {n : Nat} (h : n < 4294967296) : nI n &&& 1073741823 = nI (n % 1073741824) := pk_andN h 30 (by decide)
theorem nI_ushr30 {n : Nat} (h : n < 4294967296) : ((nI n).toUInt32 >>> ((30 : Int32).toUInt32 &&& Int32.toUInt32 31)).toInt32 = nI (n / 1073741824) := pk_ushrN h 30 30 (by decide)
theorem lN_and30 {n : Nat} (h : n < 2 ^ 64) : lN n &&& 1073741823 = lN (n % 1073741824) := g_mask (a := n) (s := 30) (p := 1073741824) (by decide) (by decide) h
theorem lN_ushr30 {n : Nat} (h : n < 2 ^ 64) : ((lN n).toUInt64 >>> ((30 : Int32).toInt64.toUInt64 &&& Int64.toUInt64 63)).toInt64 = lN (n / 1073741824) := g_ushr (k := 30) (p := 1073741824) (by decide) (by decide) (by decide) h
theorem nI_ll {n : Nat} (h : n < 2147483648) : (nI n).toInt64 = lN n := nI_l h
/-- a Whole at b holds v -/
def RW (M : mM) (b v : Nat) : Prop := (∀ i, i < 16 → M.1 (b + 1) i = nI (dg v i)) ∧ M.1 b 2 = nI (ln v) ∧ v < pw 16
theorem RW.fr {M M' : mM} {b v lo hi : Nat} (h : RW M b v) (f : fr M M' lo hi) (q : b + 3 ≤ lo ∨ hi ≤ b) : RW M' b v := by
  refine ⟨fun i hi => ?_, ?_, h.2.2⟩
  · rw [f.1 (b + 1) (by omega)]; exact h.1 i hi
  · rw [f.1 b (by omega)]; exact h.2.1
theorem pw16_40 {v : Nat} (h : v < pw 16) : v < pw 40 := Nat.lt_of_lt_of_le h (pw_le (by decide))
theorem updS {f : Nat → Int32} {k : Nat} {x : Int32} : upd f k x k = x := if_pos rfl
theorem updN {f : Nat → Int32} {k j : Nat} {x : Int32} (h : j ≠ k) : upd f k x j = f j := if_neg h
theorem mI_o {M : mM} {k q : Nat} {f : Nat → Int32} (h : q ≠ k) (j : Nat) : (mI M k f).1 q j = M.1 q j := by rw [mI_n h]
