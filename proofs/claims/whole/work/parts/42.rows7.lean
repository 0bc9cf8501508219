/-! the row's rows together -/
noncomputable def aF (s : Nat → Nat) (hem p k : Nat) : Nat := FF (wg s 0 hem) (gg s 0 hem) p k
noncomputable def aB (s : Nat → Nat) (hem p k : Nat) : Nat := BB (wg s 0 hem) (gg s 0 hem) p k
noncomputable def aA (s : Nat → Nat) (hem : Nat) : Nat := AL (wg s 0 hem) (gg s 0 hem)
def rwS (q : Nat) : Prop := q = 5 ∨ q = 6 ∨ (20 ≤ q ∧ q < 356)
theorem aA_le {s c : Nat → Nat} (w : WF s c) (hem : Nat) : aA s hem ≤ 16 * 2048 ^ 8 * 21 := by
  have := sm_bd (f := FF (wg s 0 hem) (gg s 0 hem) 7) (n := 21) (fun a _ => Nat.le_trans (FF_le (okG w 0 hem) 7 a) (p2048_8 (by decide)))
  unfold aA AL
  omega
theorem sp7_rows {m hem : Nat} {s c : Nat → Nat} {M : mM} {Q : Int32 → mM → Prop} (hs : BK M m s c) (w : WF s c) (hh : hem < 6) (h1 : aA s hem ≠ 0 → ∀ M', fT M M' m rwS → LOK M' m s hem 0 8 → (∀ p k, p < 8 → k < 21 → MG M' m (20 + (21 * p + k)) (aF s hem p k)) → (∀ p k, p < 8 → k < 21 → MG M' m (188 + (21 * p + k)) (aB s hem p k)) → MG M' m 5 (aA s hem) → Q 1 M') (h0 : aA s hem = 0 → ∀ M', fT M M' m rwS → Q 0 M') : p_X7_rows m (nI hem) M Q := by
  refine sp7_forth hs w hh (fun M1 hf1 hl1 hg1 ha1 => ?_)
  have hf1' : fT M M1 m rwS := hf1.wd (fun q e => e.elim Or.inl (fun r => r.elim (fun x => Or.inr (Or.inl x)) (fun x => Or.inr (Or.inr (by omega)))))
  by_cases z : aA s hem = 0
  · rw [show (if AL (wg s 0 hem) (gg s 0 hem) = 0 then (0 : Int32) else 1) = 0 from if_pos z]
    exact ⟨fun _ => ⟨by decide, h0 z M1 hf1'⟩, fun e => absurd rfl e⟩
  · rw [show (if AL (wg s 0 hem) (gg s 0 hem) = 0 then (0 : Int32) else 1) = 1 from if_neg z]
    refine ⟨fun e => absurd e (by decide), fun _ => sp7_back0 (hs.fT hf1) w hh hl1 (fun M3 hf3 hg3 => ⟨by decide, h1 z M3 (hf1'.tr (hf3.T.wd (fun q e => Or.inr (e.elim Or.inl (fun x => Or.inr (by omega)))))) (hl1.fS hf3) (fun p k hp hk => ?_) (fun p k hp hk => ?_) (ha1.fS hf3 (fun e => by unfold bwS at e; omega))⟩)⟩
    · have := hg1 (21 * p + k) (by omega)
      rw [show (21 * p + k) / 21 = p by omega, show (21 * p + k) % 21 = k by omega] at this
      exact this.fS hf3 (fun e => by unfold bwS at e; omega)
    · have := hg3 (21 * p + k) (by omega)
      rw [show (21 * p + k) / 21 = p by omega, show (21 * p + k) % 21 = k by omega] at this
      exact this
def adS (q : Nat) : Prop := q = 4 ∨ q = 6 ∨ q = 7
theorem e_pk (a : Nat) (p k : Nat) : (nI a + (21 * nI p)) + nI k = nI (a + (21 * p + k)) := by
  rw [show (21 : Int32) * nI p = nI (21 * p) from pk_mul 21 _, nI_add, nI_add, Nat.add_assoc]
theorem aFB_le {s c : Nat → Nat} (w : WF s c) (hem p k : Nat) (hp : p < 8) : aF s hem p k * aB s hem p k ≤ 16 * 2048 ^ 8 * (16 * 2048 ^ 8) :=
  Nat.mul_le_mul (Nat.le_trans (FF_le (okG w 0 hem) p k) (p2048_8 (by omega))) (BB_le (okG w 0 hem) p k)
theorem pw_38c : 16 * 2048 ^ 8 * (16 * 2048 ^ 8) * 4096 < pw 38 := by decide +kernel
theorem sp7_addsRows {m hem p k u : Nat} {s c : Nat → Nat} {M : mM} {Q : mM → Prop} (w : WF s c) (hp : p < 8) (hk : k < 21) (hF : MG M m (20 + (21 * p + k)) (aF s hem p k)) (hB : MG M m (188 + (21 * p + k)) (aB s hem p k)) (hu : MG M m 7 u) (hu38 : u < pw 38) (h : ∀ M', fS M M' m adS → MG M' m 7 (u + aF s hem p k * aB s hem p k) → Q M') : p_X7_addsRows m (nI p) (nI k) M Q := by
  have bd := aFB_le w hem p k hp
  have p38 := pw_38c
  have b1 := Nat.le_trans (FF_le (okG w 0 hem) p k) (p2048_8 (by omega : p ≤ 8))
  have b2 := BB_le (okG w 0 hem) p k
  unfold p_X7_addsRows
  rw [show ((20 : Int32) + (21 * nI p)) + nI k = nI (20 + (21 * p + k)) from e_pk 20 p k, show ((188 : Int32) + (21 * nI p)) + nI k = nI (188 + (21 * p + k)) from e_pk 188 p k]
  refine sp7_copies (r := 6) (by decide) (by omega) (by omega) hF (fun M1 hf1 hm1 => ⟨fun z => ?_, fun z => ⟨vin (by omega) (by decide), ?_⟩⟩)
  · have z := hm1.w0.mp z
    refine h M1 (hf1.wd (fun q e => Or.inr (Or.inl e))) ?_
    rw [z, Nat.zero_mul]
    exact hu.fS hf1 (by decide)
  · rw [clp (by omega)]
    have hB1 := hB.fS hf1 (show ¬ 188 + (21 * p + k) = 6 by omega)
    refine ⟨fun y => ?_, fun y => ?_⟩
    · have y := hB1.w0.mp y
      refine h M1 (hf1.wd (fun q e => Or.inr (Or.inl e))) ?_
      rw [y, Nat.mul_zero]
      exact hu.fS hf1 (by decide)
    · unfold aF aB at *
      refine sp7_multiplies (r := 6) (o := 188 + (21 * p + k)) (by decide) (by omega) (by decide) (by omega) hm1 hB1 (by omega) (by omega) (by omega) (fun M3 hf3 hm3 => ?_)
      refine sp7_adds (r := 7) (o := 6) (by decide) (by decide) (by decide) ((hu.fS hf1 (by decide)).fS hf3 (by decide)) hm3 hu38 (by omega) (fun M4 hf4 hm4 => ?_)
      exact h M4 ((hf1.wd (fun q e => Or.inr (Or.inl e))).tr ((hf3.wd (fun q e => e.elim (fun x => Or.inr (Or.inl x)) Or.inl)).tr (hf4.wd (fun q e => Or.inr (Or.inr e))))) hm4
def lwS (q : Nat) : Prop := q < 5
theorem sp7_tellsSum {m u v : Nat} {M : mM} {Q : Int32 → mM → Prop} (hu : MG M m 7 u) (hv : MG M m 5 v) (pv : 0 < v) (h : ∀ M', fS M M' m lwS → MG M' m 0 (u / Nat.gcd u v) → MG M' m 1 (v / Nat.gcd u v) → Q 1 M') : p_X7_tellsSum m M Q := by
  refine sp7_copies (r := 0) (o := 7) (by decide) (by decide) (by decide) hu (fun M1 hf1 hm1 => sp7_copies (r := 1) (o := 5) (by decide) (by decide) (by decide) (hv.fS hf1 (by decide)) (fun M2 hf2 hm2 => ?_))
  refine sp7_lowers (hm1.fS hf2 (by decide)) hm2 pv (fun M3 hf3 h0 h1 => h M3 ?_ h0 h1)
  exact (hf1.wd (fun q e => by unfold lwS; omega)).tr ((hf2.wd (fun q e => by unfold lwS; omega)).tr hf3)
