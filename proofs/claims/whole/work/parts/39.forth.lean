/-! the row's sums forth and back -/
def fT (M M' : mM) (m : Nat) (S : Nat → Prop) : Prop := (∀ k, k ≠ m + 6 → k ≠ m + 7 → k ≠ m + 11 → k ≠ m + 12 → k ≠ m + 13 → k ≠ m + 14 → M'.1 k = M.1 k) ∧ M'.2 = M.2 ∧ (∀ j, ¬ S (j / 40) → M'.1 (m + 6) j = M.1 (m + 6) j) ∧ ∀ q, ¬ S q → M'.1 (m + 7) q = M.1 (m + 7) q
theorem fT.rf {M : mM} {m : Nat} {S : Nat → Prop} : fT M M m S := ⟨fun _ _ _ _ _ _ _ => rfl, rfl, fun _ _ => rfl, fun _ _ => rfl⟩
theorem fT.tr {M M1 M2 : mM} {m : Nat} {S : Nat → Prop} (h : fT M M1 m S) (g : fT M1 M2 m S) : fT M M2 m S := ⟨fun k a b c d e f => (g.1 k a b c d e f).trans (h.1 k a b c d e f), g.2.1.trans h.2.1, fun j a => (g.2.2.1 j a).trans (h.2.2.1 j a), fun q a => (g.2.2.2 q a).trans (h.2.2.2 q a)⟩
theorem fT.wd {M M1 : mM} {m : Nat} {S S' : Nat → Prop} (h : fT M M1 m S) (g : ∀ q, S q → S' q) : fT M M1 m S' := ⟨h.1, h.2.1, fun j a => h.2.2.1 j (fun q => a (g _ q)), fun q a => h.2.2.2 q (fun r => a (g _ r))⟩
theorem fS.T {M M' : mM} {m : Nat} {S : Nat → Prop} (h : fS M M' m S) : fT M M' m S := ⟨fun k a b _ _ _ _ => h.1 k a b, h.2.1, h.2.2.1, h.2.2.2⟩
theorem lkS.T {M M' : mM} {m : Nat} {S : Nat → Prop} (h : fq M M' (lkS m)) : fT M M' m S := ⟨fun k _ _ a b c _ => h.1 k (fun q => q.elim a (fun r => r.elim b c)), h.2, fun j _ => by rw [h.1 (m + 6) (by unfold lkS; omega)], fun q _ => by rw [h.1 (m + 7) (by unfold lkS; omega)]⟩
theorem MG.fT {M M' : mM} {m r v : Nat} {S : Nat → Prop} (h : MG M m r v) (f : fT M M' m S) (hr : ¬ S r) : MG M' m r v := by
  refine ⟨fun i hi => ?_, ?_, h.2.2⟩
  · rw [f.2.2.1 _ (by rw [q40 hi]; exact hr)]; exact h.1 i hi
  · rw [f.2.2.2 _ hr]; exact h.2.1
theorem BK.fT {M M' : mM} {m : Nat} {s c : Nat → Nat} {S : Nat → Prop} (h : BK M m s c) (f : fT M M' m S) : BK M' m s c := by
  have e : M'.1 (m + 1) = M.1 (m + 1) := f.1 _ (by omega) (by omega) (by omega) (by omega) (by omega) (by omega)
  exact ⟨fun i hi => by rw [e]; exact h.1 i hi, fun i hi => by rw [e]; exact h.2 i hi⟩
theorem LOK.fS {M M' : mM} {m : Nat} {s : Nat → Nat} {hem wo P : Nat} {S : Nat → Prop} (h : LOK M m s hem wo P) (f : fS M M' m S) : LOK M' m s hem wo P := by
  intro p hp
  have h1 := h p hp
  refine ⟨?_, fun k hk => ⟨?_, ?_⟩⟩
  · rw [f.1 _ (by omega) (by omega)]; exact h1.1
  · rw [f.1 _ (by omega) (by omega)]; exact (h1.2 k hk).1
  · rw [f.1 _ (by omega) (by omega)]; exact (h1.2 k hk).2
theorem BK.fS {M M' : mM} {m : Nat} {s c : Nat → Nat} {S : Nat → Prop} (h : BK M m s c) (f : fS M M' m S) : BK M' m s c := h.fT f.T
theorem LOK.w {M : mM} {m hem wo k : Nat} {s : Nat → Nat} (h : LOK M m s hem wo 8) (hk : k < 168) : M.1 (m + 11) k = nI (wg s wo hem (k / 21) (k % 21)) := by
  have h1 := ((h (k / 21) (by omega)).2 (k % 21) (by omega)).1
  rw [show 21 * (k / 21) + k % 21 = k from Nat.div_add_mod k 21] at h1
  exact h1
theorem pw_38b : 16 * 2048 ^ 8 * 4096 < pw 38 := by decide +kernel
theorem MG.w0 {M : mM} {m r v : Nat} (h : MG M m r v) : M.1 (m + 7) r ≤ 0 ↔ v = 0 := by
  rw [h.2.1]
  have := ln_le v
  rw [show (nI (ln v) ≤ 0) = (nI (ln v) ≤ nI 0) from rfl, nI_leI (by omega) (by decide), ← ln_ne0 h.2.2]
  omega
def fwS (q : Nat) : Prop := q = 5 ∨ q = 6 ∨ (20 ≤ q ∧ q < 188)
theorem FF_s {wt : Nat → Nat → Nat} {g : Nat → Nat → Nat → Nat} {p k : Nat} (h : 0 < p) : FF wt g p k = sm (fun a => FF wt g (p - 1) a * (g (p - 1) a k * wt p k)) 21 := by
  obtain ⟨q, rfl⟩ : ∃ q, p = q + 1 := ⟨p - 1, by omega⟩
  rfl
theorem sp7_forth {m hem : Nat} {s c : Nat → Nat} {M : mM} {Q : Int32 → mM → Prop} (hs : BK M m s c) (w : WF s c) (hh : hem < 6) (h : ∀ M', fT M M' m fwS → LOK M' m s hem 0 8 → (∀ j, j < 168 → MG M' m (20 + j) (FF (wg s 0 hem) (gg s 0 hem) (j / 21) (j % 21))) → MG M' m 5 (AL (wg s 0 hem) (gg s 0 hem)) → Q (if AL (wg s 0 hem) (gg s 0 hem) = 0 then 0 else 1) M') : p_X7_forth m (nI hem) M Q := by
  refine sp7_looks (wo := 0) hs w hh (by decide) (fun M0 hf0 hl0 => ?_)
  have ok := okG w 0 hem
  have FFb : ∀ p k, p ≤ 8 → FF (wg s 0 hem) (gg s 0 hem) p k ≤ 16 * 2048 ^ 8 := fun p k hp => Nat.le_trans (FF_le ok p k) (p2048_8 hp)
  have W9 := ok.1
  have G9 := ok.2
  have Wd : ∀ p k, wg s 0 hem p k = wg s 0 hem p k := fun _ _ => rfl
  have p38 := pw_38b
  have hT0 : fT M M0 m fwS := lkS.T hf0
  have hb0 := hs.fT hT0
  generalize hwt : wg s 0 hem = wt at *
  have hwl : ∀ {M1 : mM}, LOK M1 m s hem 0 8 → ∀ {k}, k < 168 → M1.1 (m + 11) k = nI (wt (k / 21) (k % 21)) := fun hl k hk => by rw [← hwt]; exact hl.w hk
  refine loopU (A := mM) 168 (fun k a => (nI k, a)) (fun k a => fS M0 a m fwS ∧ ∀ j, j < k → MG a m (20 + j) (FF wt (gg s 0 hem) (j / 21) (j % 21))) M0 rfl ⟨fS.rf, fun j hj => absurd hj (Nat.not_lt_zero _)⟩ ?_
  rintro k a ag hk ⟨hf, hg⟩ hag
  show p_X7_forth_F8 m (nI hem) Q ag (nI k) a
  have hl := hl0.fS hf
  unfold p_X7_forth_F8
  have eD : k < 168 → nI k / 21 = nI (k / 21) := fun q => pk_div (d := 21) (by omega) (by decide) (by decide)
  have eR : k < 168 → nI k - nI k / 21 * 21 = nI (k % 21) := fun q => pk_rem (d := 21) (by omega) (by decide) (by decide)
  refine ⟨fun q => ?_, fun q => ?_⟩
  · have q := lei (a := 168) (by decide) (by omega) q
    have : k = 168 := by omega
    subst this
    refine sp7_sets (r := 5) (n := 0) (by decide) (by decide) (fun M2 hf2 hm2 => ?_)
    have hf3 : fS M0 M2 m fwS := hf.tr (hf2.wd (fun q e => Or.inl e))
    have hg3 : ∀ j, j < 168 → MG M2 m (20 + j) (FF wt (gg s 0 hem) (j / 21) (j % 21)) := fun j hj => (hg j hj).fS hf2 (by omega)
    refine loopU (A := mM) 21 (fun k a => (nI (147 + k), a)) (fun k a => fS M0 a m fwS ∧ (∀ j, j < 168 → MG a m (20 + j) (FF wt (gg s 0 hem) (j / 21) (j % 21))) ∧ MG a m 5 (sm (FF wt (gg s 0 hem) 7) k)) M2 rfl ⟨hf3, hg3, hm2⟩ ?_
    rintro i a4 ag4 hi ⟨hf4, hg4, hm4⟩ hag4
    show p_X7_forth_F171 m (nI hem) Q ag4 (nI (147 + i)) a4
    unfold p_X7_forth_F171
    refine ⟨fun q4 => ?_, fun q4 => ?_⟩
    · have q4 := lei (a := 168) (by decide) (by omega) q4
      have : i = 21 := by omega
      subst this
      have hz : (a4.1 (m + 7) (5 : Int32).toNatClampNeg ≤ 0) ↔ AL wt (gg s 0 hem) = 0 := hm4.w0
      have fin := h a4 (hT0.tr hf4.T) (hl0.fS hf4) hg4 hm4
      refine ⟨fun z => ?_, fun z => ?_⟩
      · rw [if_pos (hz.mp z)] at fin; exact fin
      · rw [if_neg (fun r => z (hz.mpr r))] at fin; exact fin
    · have q4 := nlei (a := 168) (by decide) (by omega) q4
      have hF := FFb 7 i (by decide)
      have hS : sm (FF wt (gg s 0 hem) 7) i ≤ i * (16 * 2048 ^ 8) := sm_bd (fun j _ => FFb 7 j (by decide))
      have hS2 : i * (16 * 2048 ^ 8) ≤ 21 * (16 * 2048 ^ 8) := Nat.mul_le_mul_right _ (by omega)
      rw [show (20 : Int32) + nI (147 + i) = nI (20 + (147 + i)) from nI_add 20 _, show nI (147 + i) + 1 = nI (147 + (i + 1)) from nI_add (147 + i) 1]
      have hgi := hg4 (147 + i) (by omega)
      rw [show (147 + i) / 21 = 7 by omega, show (147 + i) % 21 = i by omega] at hgi
      refine sp7_adds (r := 5) (by decide) (by omega) (by omega) hm4 hgi (by omega) (by omega) (fun M5 hf5 hm5 => hag4 (by omega) M5 ⟨hf4.tr (hf5.wd (fun q e => Or.inl e)), fun j hj => (hg4 j hj).fS hf5 (by omega), hm5⟩)
  · have q := nlei (a := 168) (by decide) (by omega) q
    have eD := eD q
    have eR := eR q
    rw [show (20 : Int32) + nI k = nI (20 + k) from nI_add 20 _, eD]
    -- the sum so far
    have inner : ∀ (M4 : mM), fS M0 M4 m fwS → (∀ j, j < k → MG M4 m (20 + j) (FF wt (gg s 0 hem) (j / 21) (j % 21))) → MG M4 m (20 + k) (if k / 21 = 0 then wt 0 (k % 21) else 0) → Loop (fun ag' s' => p_X7_forth_F46 m (nI hem) (nI k) (nI (k / 21)) Q ag ag' s'.1 s'.2) (0, M4) := by
      intro M4 hf4 hg4 hm4
      refine loopU (A := mM) 21 (fun i a => (nI i, a)) (fun i a => fS M0 a m fwS ∧ (∀ j, j < k → MG a m (20 + j) (FF wt (gg s 0 hem) (j / 21) (j % 21))) ∧ MG a m (20 + k) (if k / 21 = 0 then wt 0 (k % 21) else sm (fun a => FF wt (gg s 0 hem) (k / 21 - 1) a * (gg s 0 hem (k / 21 - 1) a (k % 21) * wt (k / 21) (k % 21))) i)) M4 rfl ⟨hf4, hg4, hm4⟩ ?_
      rintro i a5 ag5 hi ⟨hf5, hg5, hm5⟩ hag5
      show p_X7_forth_F46 m (nI hem) (nI k) (nI (k / 21)) Q ag ag5 (nI i) a5
      have out : MG a5 m (20 + k) (FF wt (gg s 0 hem) (k / 21) (k % 21)) → ag (nI k + 1, a5) := by
        intro hm
        rw [show nI k + 1 = nI (k + 1) from nI_add k 1]
        refine hag q a5 ⟨hf5, fun j hj => ?_⟩
        rcases Nat.lt_or_ge j k with z | z
        · exact hg5 j z
        · have : j = k := by omega
          subst this
          exact hm
      unfold p_X7_forth_F46
      have hl5 := hl0.fS hf5
      have hb5 := hb0.fS hf5
      refine ⟨fun q5 => ?_, fun q5 => ⟨fun z => ?_, fun z => ⟨vin q (by decide), fun y => ?_, fun y => ?_⟩⟩⟩
      · have q5 := lei (a := 21) (by decide) (by omega) q5
        have : i = 21 := by omega
        subst this
        apply out
        by_cases k0 : k / 21 = 0
        · rw [if_pos k0] at hm5; rw [k0]; exact hm5
        · rw [if_neg k0] at hm5; rw [FF_s (by omega)]; exact hm5
      · have z := lei (b := 0) (by omega) (by decide) z
        apply out
        rw [if_pos (by omega)] at hm5
        rw [show k / 21 = 0 by omega]; exact hm5
      · rw [clp (by omega), hwl hl5 q] at y
        have y := lei (b := 0) (by have := W9 (k / 21) (k % 21); omega) (by decide) y
        apply out
        by_cases k0 : k / 21 = 0
        · rw [if_pos k0] at hm5; rw [k0]; exact hm5
        · rw [if_neg k0, sm_z (fun j _ => by rw [show wt (k / 21) (k % 21) = 0 by omega, Nat.mul_zero, Nat.mul_zero])] at hm5
          rw [FF_s (by omega), sm_z (fun j _ => by rw [show wt (k / 21) (k % 21) = 0 by omega, Nat.mul_zero, Nat.mul_zero])]; exact hm5
      · have q5 := nlei (a := 21) (by decide) (by omega) q5
        have z := nlei (b := 0) (by omega) (by decide) z
        have k0 : ¬ k / 21 = 0 := by omega
        have w9 := W9 (k / 21) (k % 21)
        have g9 := G9 (k / 21 - 1) i (k % 21)
        rw [if_neg k0] at hm5
        rw [eR, show nI (k / 21) - 1 = nI (k / 21 - 1) from pk_sub (b := 1) (by omega)]
        refine sp7_goes hb5 w hl5 (by omega) q5 (by omega) ⟨vin q (by decide), ?_⟩
        rintro x8 rfl
        rw [clp (by omega), hwl hl5 q, pk_mul]
        have m81 : gg s 0 hem (k / 21 - 1) i (k % 21) * wt (k / 21) (k % 21) ≤ 81 := Nat.mul_le_mul g9 w9
        have nx : ∀ (T : Nat), T = FF wt (gg s 0 hem) (k / 21 - 1) i * (gg s 0 hem (k / 21 - 1) i (k % 21) * wt (k / 21) (k % 21)) → ∀ a6, fS M0 a6 m fwS → (∀ j, j < k → MG a6 m (20 + j) (FF wt (gg s 0 hem) (j / 21) (j % 21))) → MG a6 m (20 + k) (sm (fun a => FF wt (gg s 0 hem) (k / 21 - 1) a * (gg s 0 hem (k / 21 - 1) a (k % 21) * wt (k / 21) (k % 21))) i + T) → ag5 (nI i + 1, a6) := by
          intro T hT a6 hf6 hg6 hm6
          rw [show nI i + 1 = nI (i + 1) from nI_add i 1]
          refine hag5 q5 a6 ⟨hf6, hg6, ?_⟩
          rw [if_neg k0]
          subst hT
          exact hm6
        have hFb := FFb (k / 21 - 1) i (by omega)
        have hSb : sm (fun a => FF wt (gg s 0 hem) (k / 21 - 1) a * (gg s 0 hem (k / 21 - 1) a (k % 21) * wt (k / 21) (k % 21))) i ≤ i * (16 * 2048 ^ 8 * 81) := sm_bd (fun j _ => Nat.mul_le_mul (FFb (k / 21 - 1) j (by omega)) (Nat.mul_le_mul (G9 _ _ _) w9))
        have hSb2 : i * (16 * 2048 ^ 8 * 81) ≤ 21 * (16 * 2048 ^ 8 * 81) := Nat.mul_le_mul_right _ (by omega)
        generalize hX : gg s 0 hem (k / 21 - 1) i (k % 21) * wt (k / 21) (k % 21) = X at *
        have hTb : FF wt (gg s 0 hem) (k / 21 - 1) i * X ≤ 16 * 2048 ^ 8 * 81 := Nat.mul_le_mul hFb m81
        refine ⟨fun e => ?_, fun e => ?_⟩
        · have e := lei (b := 0) (by omega) (by decide) e
          exact nx 0 (by rw [show X = 0 by omega, Nat.mul_zero]) a5 hf5 hg5 hm5
        · have hgi := hg5 (21 * (k / 21 - 1) + i) (by omega)
          rw [show (21 * (k / 21 - 1) + i) / 21 = k / 21 - 1 by omega, show (21 * (k / 21 - 1) + i) % 21 = i by omega] at hgi
          rw [show ((20 : Int32) + (21 * nI (k / 21 - 1))) + nI i = nI (20 + (21 * (k / 21 - 1) + i)) from (by rw [show (21 : Int32) * nI (k / 21 - 1) = nI (21 * (k / 21 - 1)) from pk_mul 21 _, show (20 : Int32) + nI (21 * (k / 21 - 1)) = nI (20 + 21 * (k / 21 - 1)) from nI_add 20 _, nI_add, Nat.add_assoc]), clp (by omega)]
          refine ⟨vin (by omega) (by decide), fun y0 => ?_, fun y0 => ?_⟩
          · exact nx 0 (by rw [hgi.w0.mp y0, Nat.zero_mul]) a5 hf5 hg5 hm5
          · refine sp7_copies (r := 6) (by decide) (by omega) (by omega) hgi (fun M7 hf7 hm7 => sp7_times (r := 6) (by decide) (by omega) hm7 (by have := pw_le (show 38 ≤ 40 by decide); omega) (fun M8 hf8 hm8 => ?_))
            have hf78 : fS a5 M8 m (fun q => q = 6) := hf7.tr hf8
            rw [show (20 : Int32) + nI k = nI (20 + k) from nI_add 20 _]
            refine sp7_adds (r := 20 + k) (o := 6) (by omega) (by decide) (by omega) (hm5.fS hf78 (by omega)) hm8 (by omega) (by omega) (fun M9 hf9 hm9 => ?_)
            refine nx _ rfl M9 ((hf5.tr (hf78.wd (fun q e => Or.inr (Or.inl e)))).tr (hf9.wd (fun q e => Or.inr (Or.inr (by omega))))) (fun j hj => ((hg5 j hj).fS hf78 (by omega)).fS hf9 (by omega)) hm9
    refine ⟨fun z => ?_, fun z => ⟨vin q (by decide), ?_⟩⟩
    · have z : k / 21 ≠ 0 := fun e => z (by rw [e]; rfl)
      refine sp7_sets (r := 20 + k) (n := 0) (by omega) (by decide) (fun M4 hf4 hm4 => inner M4 (hf.tr (hf4.wd (fun q e => Or.inr (Or.inr (by omega))))) (fun j hj => (hg j hj).fS hf4 (by omega)) ?_)
      rw [if_neg z]; exact hm4
    · have z := eqi (b := 0) (by omega) (by decide) z
      have w9 := W9 (k / 21) (k % 21)
      rw [clp (by omega), hwl hl q, nI_ll (by omega)]
      refine sp7_sets (r := 20 + k) (by omega) (by omega) (fun M4 hf4 hm4 => inner M4 (hf.tr (hf4.wd (fun q e => Or.inr (Or.inr (by omega))))) (fun j hj => (hg j hj).fS hf4 (by omega)) ?_)
      rw [if_pos z]; rw [z] at hm4; exact hm4
