/-! the row's sums back -/
def bwS (q : Nat) : Prop := q = 6 ∨ (188 ≤ q ∧ q < 356)
theorem BB_7 {wt : Nat → Nat → Nat} {g : Nat → Nat → Nat → Nat} {k : Nat} : BB wt g 7 k = 1 := rfl
theorem BB_s {wt : Nat → Nat → Nat} {g : Nat → Nat → Nat → Nat} {p k : Nat} (h : p < 7) : BB wt g p k = sm (fun b => BB wt g (p + 1) b * (g p k b * wt (p + 1) b)) 21 := by
  unfold BB
  obtain ⟨j, hj⟩ : ∃ j, 7 - p = j + 1 := ⟨6 - p, by omega⟩
  rw [hj]
  show sm (fun b => BJ wt g j b * (g (6 - j) k b * wt (7 - j) b)) 21 = _
  rw [show 6 - j = p by omega, show 7 - j = p + 1 by omega, show 7 - (p + 1) = j by omega]
theorem XX_7 {wt : Nat → Nat → Nat} {g : Nat → Nat → Nat → Nat} {k : Nat} : XX wt g 7 k = wt 7 k := rfl
theorem XX_s {wt : Nat → Nat → Nat} {g : Nat → Nat → Nat → Nat} {p k : Nat} (h : p < 7) : XX wt g p k = mx (fun b => XX wt g (p + 1) b * g p k b) 21 * wt p k := by
  unfold XX
  obtain ⟨j, hj⟩ : ∃ j, 7 - p = j + 1 := ⟨6 - p, by omega⟩
  rw [hj]
  show mx (fun b => XJ wt g j b * g (6 - j) k b) 21 * wt (6 - j) k = _
  rw [show 6 - j = p by omega, show 7 - (p + 1) = j by omega]
theorem BB_le {wt : Nat → Nat → Nat} {g : Nat → Nat → Nat → Nat} (h : okW wt g) (p k : Nat) : BB wt g p k ≤ 16 * 2048 ^ 8 := Nat.le_trans (BJ_le h _ k) (p2048_8 (by omega))
theorem XX_le {wt : Nat → Nat → Nat} {g : Nat → Nat → Nat → Nat} (h : okW wt g) (p k : Nat) : XX wt g p k ≤ 16 * 2048 ^ 8 := Nat.le_trans (XJ_le h _ k) (p2048_8 (by omega))
theorem oI_pr (k : Nat) : nI k + (-1) = oI k := by
  rw [jI_n, show (-1 : Int32) = jI (-1) from rfl, jI_add]; rfl
theorem sp7_back0 {m hem : Nat} {s c : Nat → Nat} {M : mM} {Q : mM → Prop} (hs : BK M m s c) (w : WF s c) (hh : hem < 6) (hl0 : LOK M m s hem 0 8) (h : ∀ M', fS M M' m bwS → (∀ j, j < 168 → MG M' m (188 + j) (BB (wg s 0 hem) (gg s 0 hem) (j / 21) (j % 21))) → Q M') : p_X7_back m 0 M Q := by
  have ok := okG w 0 hem
  have W9 := ok.1
  have G9 := ok.2
  have Vb := BB_le ok
  have p38 := pw_38b
  generalize hwt : wg s 0 hem = wt at *
  have hwl : ∀ {M1 : mM}, LOK M1 m s hem 0 8 → ∀ {k}, k < 168 → M1.1 (m + 11) k = nI (wt (k / 21) (k % 21)) := fun hl k hk => by rw [← hwt]; exact hl.w hk
  refine loopD (A := mM) 168 (fun i a => (oI i, a)) (fun i a => fS M a m bwS ∧ ∀ j, i ≤ j → j < 168 → MG a m (188 + j) (BB wt (gg s 0 hem) (j / 21) (j % 21))) M rfl ⟨fS.rf, fun j hj hj2 => absurd hj (by omega)⟩ ?_
  rintro i a ag hi ⟨hf, hg⟩ hag
  show p_X7_back_F4 m 0 Q ag (oI i) a
  have hl := hl0.fS hf
  unfold p_X7_back_F4
  rcases i with _ | k
  · exact ⟨fun _ => h a hf (fun j hj => hg j (by omega) hj), fun q => absurd (by decide) q⟩
  have hag := hag k rfl
  have q : k < 168 := by omega
  rw [oI_s]
  refine ⟨fun q => absurd (lti (a := k) (b := 0) (by omega) (by decide) q) (by omega), fun _ => ?_⟩
  have eD : nI k / 21 = nI (k / 21) := pk_div (d := 21) (by omega) (by decide) (by decide)
  have eR : nI k - nI k / 21 * 21 = nI (k % 21) := pk_rem (d := 21) (by omega) (by decide) (by decide)
  rw [show (188 : Int32) + nI k = nI (188 + k) from nI_add 188 _, eD]
  have inner : ∀ (M4 : mM), fS M M4 m bwS → (∀ j, k < j → j < 168 → MG M4 m (188 + j) (BB wt (gg s 0 hem) (j / 21) (j % 21))) → MG M4 m (188 + k) (if k / 21 = 7 then 1 else 0) → Loop (fun ag' s' => p_X7_back_F36 m 0 (nI k) (nI (k / 21)) Q ag ag' s'.1 s'.2) (0, M4) := by
    intro M4 hf4 hg4 hm4
    refine loopU (A := mM) 21 (fun i a => (nI i, a)) (fun i a => fS M a m bwS ∧ (∀ j, k < j → j < 168 → MG a m (188 + j) (BB wt (gg s 0 hem) (j / 21) (j % 21))) ∧ MG a m (188 + k) (if k / 21 = 7 then 1 else sm (fun b => BB wt (gg s 0 hem) (k / 21 + 1) b * (gg s 0 hem (k / 21) (k % 21) b * wt (k / 21 + 1) b)) i)) M4 rfl ⟨hf4, hg4, hm4⟩ ?_
    rintro i a5 ag5 hi ⟨hf5, hg5, hm5⟩ hag5
    show p_X7_back_F36 m 0 (nI k) (nI (k / 21)) Q ag ag5 (nI i) a5
    have out : MG a5 m (188 + k) (BB wt (gg s 0 hem) (k / 21) (k % 21)) → p_X7_back_J187 m 0 Q ag (nI k) a5 := by
      intro hm
      refine ⟨fun _ => ?_, fun e => absurd rfl e⟩
      rw [oI_pr]
      refine hag a5 ⟨hf5, fun j hj hj2 => ?_⟩
      rcases Nat.lt_or_ge k j with z | z
      · exact hg5 j z hj2
      · have : j = k := by omega
        subst this
        exact hm
    unfold p_X7_back_F36
    have hl5 := hl0.fS hf5
    have hb5 := hs.fS hf5
    refine ⟨fun q5 => ?_, fun q5 => ⟨fun z => ?_, fun z => ?_⟩⟩
    · have q5 := lei (a := 21) (by decide) (by omega) q5
      have : i = 21 := by omega
      subst this
      apply out
      by_cases k0 : k / 21 = 7
      · rw [if_pos k0] at hm5; rw [k0]; exact hm5
      · rw [if_neg k0] at hm5; rw [BB_s (by omega)]; exact hm5
    · have z := lei (a := 7) (by decide) (by omega) z
      apply out
      rw [if_pos (by omega)] at hm5
      rw [show k / 21 = 7 by omega]; exact hm5
    · have q5 := nlei (a := 21) (by decide) (by omega) q5
      have z := nlei (a := 7) (by decide) (by omega) z
      have k0 : ¬ k / 21 = 7 := by omega
      rw [if_neg k0] at hm5
      rw [eR]
      refine sp7_goes hb5 w hl5 (by omega) (by omega) q5 ⟨fun _ => ?_, fun e => absurd rfl e⟩
      have hwk := hwl hl5 (k := 21 * (k / 21 + 1) + i) (by omega)
      rw [show (21 * (k / 21 + 1) + i) / 21 = k / 21 + 1 by omega, show (21 * (k / 21 + 1) + i) % 21 = i by omega] at hwk
      rw [show nI (k / 21) + 1 = nI (k / 21 + 1) from nI_add _ 1, c21, clp (by omega), hwk]
      refine ⟨vin (by omega) (by decide), ?_⟩
      have w9 := W9 (k / 21 + 1) i
      have g9 := G9 (k / 21) (k % 21) i
      have m81 : gg s 0 hem (k / 21) (k % 21) i * wt (k / 21 + 1) i ≤ 81 := Nat.mul_le_mul g9 w9
      have nx : ∀ (T : Nat), T = BB wt (gg s 0 hem) (k / 21 + 1) i * (gg s 0 hem (k / 21) (k % 21) i * wt (k / 21 + 1) i) → ∀ a6, fS M a6 m bwS → (∀ j, k < j → j < 168 → MG a6 m (188 + j) (BB wt (gg s 0 hem) (j / 21) (j % 21))) → MG a6 m (188 + k) (sm (fun b => BB wt (gg s 0 hem) (k / 21 + 1) b * (gg s 0 hem (k / 21) (k % 21) b * wt (k / 21 + 1) b)) i + T) → ag5 (nI i + 1, a6) := by
        intro T hT a6 hf6 hg6 hm6
        rw [show nI i + 1 = nI (i + 1) from nI_add i 1]
        refine hag5 q5 a6 ⟨hf6, hg6, ?_⟩
        rw [if_neg k0]
        subst hT
        exact hm6
      have hFb := Vb (k / 21 + 1) i
      have hSb : sm (fun b => BB wt (gg s 0 hem) (k / 21 + 1) b * (gg s 0 hem (k / 21) (k % 21) b * wt (k / 21 + 1) b)) i ≤ i * (16 * 2048 ^ 8 * 81) := sm_bd (fun j _ => Nat.mul_le_mul (Vb (k / 21 + 1) j) (Nat.mul_le_mul (G9 _ _ _) (W9 _ _)))
      have hSb2 : i * (16 * 2048 ^ 8 * 81) ≤ 21 * (16 * 2048 ^ 8 * 81) := Nat.mul_le_mul_right _ (by omega)
      unfold p_X7_back_J82
      rw [pk_mul]
      generalize hX : gg s 0 hem (k / 21) (k % 21) i * wt (k / 21 + 1) i = X at *
      have hTb : BB wt (gg s 0 hem) (k / 21 + 1) i * X ≤ 16 * 2048 ^ 8 * 81 := Nat.mul_le_mul hFb m81
      refine ⟨fun e => ?_, fun e => ?_⟩
      · have e := lei (b := 0) (by omega) (by decide) e
        exact nx 0 (by rw [show X = 0 by omega, Nat.mul_zero]) a5 hf5 hg5 hm5
      · have hgi := hg5 (21 * (k / 21 + 1) + i) (by omega) (by omega)
        rw [show (21 * (k / 21 + 1) + i) / 21 = k / 21 + 1 by omega, show (21 * (k / 21 + 1) + i) % 21 = i by omega] at hgi
        rw [show nI (k / 21) + 1 = nI (k / 21 + 1) from nI_add _ 1, show ((188 : Int32) + (21 * nI (k / 21 + 1))) + nI i = nI (188 + (21 * (k / 21 + 1) + i)) from (by rw [show (21 : Int32) * nI (k / 21 + 1) = nI (21 * (k / 21 + 1)) from pk_mul 21 _, show (188 : Int32) + nI (21 * (k / 21 + 1)) = nI (188 + 21 * (k / 21 + 1)) from nI_add 188 _, nI_add, Nat.add_assoc]), clp (by omega)]
        refine ⟨vin (by omega) (by decide), fun y0 => ?_, fun y0 => ?_⟩
        · exact nx 0 (by rw [hgi.w0.mp y0, Nat.zero_mul]) a5 hf5 hg5 hm5
        · refine sp7_copies (r := 6) (by decide) (by omega) (by omega) hgi (fun M7 hf7 hm7 => sp7_times (r := 6) (by decide) (by omega) hm7 (by have := pw_le (show 38 ≤ 40 by decide); omega) (fun M8 hf8 hm8 => ⟨fun e => absurd rfl e, fun _ => ?_⟩))
          have hf78 : fS a5 M8 m (fun q => q = 6) := hf7.tr hf8
          rw [show (188 : Int32) + nI k = nI (188 + k) from nI_add 188 _]
          refine sp7_adds (r := 188 + k) (o := 6) (by omega) (by decide) (by omega) (hm5.fS hf78 (by omega)) hm8 (by omega) (by omega) (fun M9 hf9 hm9 => ?_)
          refine nx _ rfl M9 ((hf5.tr (hf78.wd (fun q e => Or.inl e))).tr (hf9.wd (fun q e => Or.inr (by omega)))) (fun j hj hj2 => ((hg5 j hj hj2).fS hf78 (by omega)).fS hf9 (by omega)) hm9
  refine ⟨fun z => ?_, fun z => ?_⟩
  · have z : k / 21 ≠ 7 := fun e => z (by rw [e]; rfl)
    refine sp7_sets (r := 188 + k) (n := 0) (by omega) (by decide) (fun M4 hf4 hm4 => inner M4 (hf.tr (hf4.wd (fun q e => Or.inr (by omega)))) (fun j hj hj2 => (hg j (by omega) hj2).fS hf4 (by omega)) ?_)
    rw [if_neg z]; exact hm4
  · have z := eqi (b := 7) (by omega) (by decide) z
    refine sp7_sets (r := 188 + k) (n := 1) (by omega) (by decide) (fun M4 hf4 hm4 => inner M4 (hf.tr (hf4.wd (fun q e => Or.inr (by omega)))) (fun j hj hj2 => (hg j (by omega) hj2).fS hf4 (by omega)) ?_)
    rw [if_pos z]; exact hm4
