/-! the most a row can weigh -/
theorem sp7_back1 {m hem : Nat} {s c : Nat → Nat} {M : mM} {Q : mM → Prop} (hs : BK M m s c) (w : WF s c) (hh : hem < 6) (hl0 : LOK M m s hem 0 8) (h : ∀ M', fS M M' m bwS → (∀ j, j < 168 → MG M' m (188 + j) (XX (wg s 0 hem) (gg s 0 hem) (j / 21) (j % 21))) → Q M') : p_X7_back m 1 M Q := by
  have ok := okG w 0 hem
  have W9 := ok.1
  have G9 := ok.2
  have Vb := XX_le ok
  have p38 := pw_38b
  generalize hwt : wg s 0 hem = wt at *
  have hwl : ∀ {M1 : mM}, LOK M1 m s hem 0 8 → ∀ {k}, k < 168 → M1.1 (m + 11) k = nI (wt (k / 21) (k % 21)) := fun hl k hk => by rw [← hwt]; exact hl.w hk
  refine loopD (A := mM) 168 (fun i a => (oI i, a)) (fun i a => fS M a m bwS ∧ ∀ j, i ≤ j → j < 168 → MG a m (188 + j) (XX wt (gg s 0 hem) (j / 21) (j % 21))) M rfl ⟨fS.rf, fun j hj hj2 => absurd hj (by omega)⟩ ?_
  rintro i a ag hi ⟨hf, hg⟩ hag
  show p_X7_back_F4 m 1 Q ag (oI i) a
  have hl := hl0.fS hf
  unfold p_X7_back_F4
  rcases i with _ | k
  · exact ⟨fun _ => h a hf (fun j hj => hg j (by omega) hj), fun q => absurd (by decide) q⟩
  have hag := hag k rfl
  have q : k < 168 := by omega
  rw [oI_s]
  refine ⟨fun q => absurd (lti (a := k) (b := 0) (by omega) (by decide) q) (by omega), fun _ => ?_⟩
  have eD : nI k / 21 = nI (k / 21) := pk_div (d := 21) (by omega) (by decide) (by decide)
  have eR : nI k - nI k / 21 * 21 = nI (k % 21) := pk_rem (d := 21) (by omega) (by decide) (by decide)
  rw [show (188 : Int32) + nI k = nI (188 + k) from nI_add 188 _, eD]
  have inner : ∀ (M4 : mM), fS M M4 m bwS → (∀ j, k < j → j < 168 → MG M4 m (188 + j) (XX wt (gg s 0 hem) (j / 21) (j % 21))) → MG M4 m (188 + k) (if k / 21 = 7 then 1 else 0) → Loop (fun ag' s' => p_X7_back_F36 m 1 (nI k) (nI (k / 21)) Q ag ag' s'.1 s'.2) (0, M4) := by
    intro M4 hf4 hg4 hm4
    refine loopU (A := mM) 21 (fun i a => (nI i, a)) (fun i a => fS M a m bwS ∧ (∀ j, k < j → j < 168 → MG a m (188 + j) (XX wt (gg s 0 hem) (j / 21) (j % 21))) ∧ MG a m (188 + k) (if k / 21 = 7 then 1 else mx (fun b => XX wt (gg s 0 hem) (k / 21 + 1) b * gg s 0 hem (k / 21) (k % 21) b) i)) M4 rfl ⟨hf4, hg4, hm4⟩ ?_
    rintro i a5 ag5 hi ⟨hf5, hg5, hm5⟩ hag5
    show p_X7_back_F36 m 1 (nI k) (nI (k / 21)) Q ag ag5 (nI i) a5
    have w9k := W9 (k / 21) (k % 21)
    have out : ∀ v, v ≤ 16 * 2048 ^ 8 * 81 → v * wt (k / 21) (k % 21) = XX wt (gg s 0 hem) (k / 21) (k % 21) → MG a5 m (188 + k) v → p_X7_back_J187 m 1 Q ag (nI k) a5 := by
      intro v hv hvx hm
      refine ⟨fun e => absurd e (by decide), fun _ => ⟨vin q (by decide), ?_⟩⟩
      rw [clp (by omega), hwl (hl0.fS hf5) q, show (188 : Int32) + nI k = nI (188 + k) from nI_add 188 _]
      have hb := XX_le ok (k / 21) (k % 21)
      have hvb : v * wt (k / 21) (k % 21) ≤ 16 * 2048 ^ 8 := by rw [hvx]; exact hb
      refine sp7_times (r := 188 + k) (by omega) (by omega) hm (by have := pw_le (show 38 ≤ 40 by decide); omega) (fun M8 hf8 hm8 => ?_)
      rw [oI_pr]
      refine hag M8 ⟨hf5.tr (hf8.wd (fun q e => Or.inr (by omega))), fun j hj hj2 => ?_⟩
      rcases Nat.lt_or_ge k j with z | z
      · exact (hg5 j z hj2).fS hf8 (by omega)
      · have : j = k := by omega
        subst this
        rw [hvx] at hm8
        exact hm8
    unfold p_X7_back_F36
    have hl5 := hl0.fS hf5
    have hb5 := hs.fS hf5
    refine ⟨fun q5 => ?_, fun q5 => ⟨fun z => ?_, fun z => ?_⟩⟩
    · have q5 := lei (a := 21) (by decide) (by omega) q5
      have : i = 21 := by omega
      subst this
      by_cases k0 : k / 21 = 7
      · rw [if_pos k0] at hm5; exact out 1 (by decide) (by rw [k0, XX_7, Nat.one_mul]) hm5
      · rw [if_neg k0] at hm5; exact out _ (mx_le (fun j _ => Nat.le_trans (Nat.mul_le_mul (Vb (k / 21 + 1) j) (G9 _ _ _)) (by decide +kernel))) (by rw [XX_s (by omega)]) hm5
    · have z := lei (a := 7) (by decide) (by omega) z
      rw [if_pos (by omega)] at hm5
      exact out 1 (by decide) (by rw [show k / 21 = 7 by omega, XX_7, Nat.one_mul]) hm5
    · have q5 := nlei (a := 21) (by decide) (by omega) q5
      have z := nlei (a := 7) (by decide) (by omega) z
      have k0 : ¬ k / 21 = 7 := by omega
      rw [if_neg k0] at hm5
      rw [eR]
      refine sp7_goes hb5 w hl5 (by omega) (by omega) q5 ⟨fun e => absurd e (by decide), fun _ => ?_⟩
      have g9 := G9 (k / 21) (k % 21) i
      have nx : ∀ a6, fS M a6 m bwS → (∀ j, k < j → j < 168 → MG a6 m (188 + j) (XX wt (gg s 0 hem) (j / 21) (j % 21))) → MG a6 m (188 + k) (max (mx (fun b => XX wt (gg s 0 hem) (k / 21 + 1) b * gg s 0 hem (k / 21) (k % 21) b) i) (XX wt (gg s 0 hem) (k / 21 + 1) i * gg s 0 hem (k / 21) (k % 21) i)) → ag5 (nI i + 1, a6) := by
        intro a6 hf6 hg6 hm6
        rw [show nI i + 1 = nI (i + 1) from nI_add i 1]
        refine hag5 q5 a6 ⟨hf6, hg6, ?_⟩
        rw [if_neg k0]
        exact hm6
      have hFb := Vb (k / 21 + 1) i
      unfold p_X7_back_J82
      rw [show nI (gg s 0 hem (k / 21) (k % 21) i) * 1 = nI (gg s 0 hem (k / 21) (k % 21) i) from Int32.mul_one _]
      generalize hX : gg s 0 hem (k / 21) (k % 21) i = X at *
      have hTb : XX wt (gg s 0 hem) (k / 21 + 1) i * X ≤ 16 * 2048 ^ 8 * 9 := Nat.mul_le_mul hFb g9
      refine ⟨fun e => ?_, fun e => ?_⟩
      · have e := lei (b := 0) (by omega) (by decide) e
        exact nx a5 hf5 hg5 (by rw [show X = 0 by omega, Nat.mul_zero, Nat.max_eq_left (Nat.zero_le _)]; exact hm5)
      · have hgi := hg5 (21 * (k / 21 + 1) + i) (by omega) (by omega)
        rw [show (21 * (k / 21 + 1) + i) / 21 = k / 21 + 1 by omega, show (21 * (k / 21 + 1) + i) % 21 = i by omega] at hgi
        rw [show nI (k / 21) + 1 = nI (k / 21 + 1) from nI_add _ 1, show ((188 : Int32) + (21 * nI (k / 21 + 1))) + nI i = nI (188 + (21 * (k / 21 + 1) + i)) from (by rw [show (21 : Int32) * nI (k / 21 + 1) = nI (21 * (k / 21 + 1)) from pk_mul 21 _, show (188 : Int32) + nI (21 * (k / 21 + 1)) = nI (188 + 21 * (k / 21 + 1)) from nI_add 188 _, nI_add, Nat.add_assoc]), clp (by omega)]
        refine ⟨vin (by omega) (by decide), fun y0 => ?_, fun y0 => ?_⟩
        · exact nx a5 hf5 hg5 (by rw [hgi.w0.mp y0, Nat.zero_mul, Nat.max_eq_left (Nat.zero_le _)]; exact hm5)
        · refine sp7_copies (r := 6) (by decide) (by omega) (by omega) hgi (fun M7 hf7 hm7 => sp7_times (r := 6) (by decide) (by omega) hm7 (by have := pw_le (show 38 ≤ 40 by decide); omega) (fun M8 hf8 hm8 => ⟨fun _ => ?_, fun e => absurd e (by decide)⟩))
          have hf78 : fS a5 M8 m (fun q => q = 6) := hf7.tr hf8
          have hm58 := hm5.fS hf78 (show ¬ 188 + k = 6 by omega)
          have hF8 : fS M M8 m bwS := hf5.tr (hf78.wd (fun q e => Or.inl e))
          have hG8 : ∀ j, k < j → j < 168 → MG M8 m (188 + j) (XX wt (gg s 0 hem) (j / 21) (j % 21)) := fun j hj hj2 => (hg5 j hj hj2).fS hf78 (by omega)
          rw [show (188 : Int32) + nI k = nI (188 + k) from nI_add 188 _]
          refine sp7_against (r := 6) (o := 188 + k) (by decide) (by omega) hm8 hm58 (fun lt => ⟨fun _ => nx M8 hF8 hG8 ?_, fun e => absurd (by decide) e⟩) (fun lt => ⟨fun _ => nx M8 hF8 hG8 ?_, fun e => absurd (by decide) e⟩) (fun lt => ⟨fun e => absurd e (by decide), fun _ => sp7_copies (r := 188 + k) (o := 6) (by omega) (by decide) (by omega) hm8 (fun M9 hf9 hm9 => nx M9 (hF8.tr (hf9.wd (fun q e => Or.inr (by omega)))) (fun j hj hj2 => (hG8 j hj hj2).fS hf9 (by omega)) ?_)⟩)
          · rw [Nat.max_eq_left (Nat.le_of_lt lt)]; exact hm58
          · rw [Nat.max_eq_left (Nat.le_of_eq lt)]; exact hm58
          · rw [Nat.max_eq_right (Nat.le_of_lt lt)]; exact hm9
  refine ⟨fun z => ?_, fun z => ?_⟩
  · have z : k / 21 ≠ 7 := fun e => z (by rw [e]; rfl)
    refine sp7_sets (r := 188 + k) (n := 0) (by omega) (by decide) (fun M4 hf4 hm4 => inner M4 (hf.tr (hf4.wd (fun q e => Or.inr (by omega)))) (fun j hj hj2 => (hg j (by omega) hj2).fS hf4 (by omega)) ?_)
    rw [if_neg z]; exact hm4
  · have z := eqi (b := 7) (by omega) (by decide) z
    refine sp7_sets (r := 188 + k) (n := 1) (by omega) (by decide) (fun M4 hf4 hm4 => inner M4 (hf.tr (hf4.wd (fun q e => Or.inr (by omega)))) (fun j hj hj2 => (hg j (by omega) hj2).fS hf4 (by omega)) ?_)
    rw [if_pos z]; exact hm4
