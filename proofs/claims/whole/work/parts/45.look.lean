/-! what a hem takes from the statue -/
theorem nI_or (a b : Nat) : nI a ||| nI b = nI (a ||| b) := by
  apply Int32.toBitVec_inj.mp
  show (nI a).toBitVec ||| (nI b).toBitVec = BitVec.ofNat 32 (a ||| b)
  show BitVec.ofNat 32 a ||| BitVec.ofNat 32 b = BitVec.ofNat 32 (a ||| b)
  apply BitVec.eq_of_getLsbD_eq
  intro i hi
  simp [BitVec.getLsbD_ofNat, Nat.testBit_or, hi]
theorem tb_or {B t j : Nat} : (B ||| 2 ^ t).testBit j = true ↔ B.testBit j = true ∨ j = t := by
  rw [Nat.testBit_or, Nat.testBit_two_pow]
  simp
  constructor
  · rintro (h | h)
    · exact Or.inl h
    · exact Or.inr h.symm
  · rintro (h | h)
    · exact Or.inl h
    · exact Or.inr h.symm
theorem e_sh1b : ∀ a, a < 31 → (1 : Int32) <<< (nI a &&& 31) = nI (2 ^ a) := by decide +kernel
theorem or_lt21 {B t : Nat} (hB : B < 2097152) (ht : t < 21) : B ||| 2 ^ t < 2097152 := Nat.or_lt_two_pow (n := 21) hB (Nat.pow_lt_pow_right (by decide) ht)
theorem or_lt20 {B t : Nat} (hB : B < 1048576) (ht : t < 20) : B ||| 2 ^ t < 1048576 := Nat.or_lt_two_pow (n := 20) hB (Nat.pow_lt_pow_right (by decide) ht)
noncomputable def wv (s : Nat → Nat) (k : Nat) : Nat := iv (stk s k) (s (10 + k))
def ow (s : Nat → Nat) (hem t : Nat) : Prop := t < s 1 ∧ s (63 + 4 * t) = 0 ∧ s (60 + 4 * t) / 8 = hem
def BR (M : mM) (b : Nat) (s : Nat → Nat) (hem T p k : Nat) : Prop := ∃ B, B < 2097152 ∧ M.1 (b + 3 + p) k = nI B ∧ (B.testBit 20 = true ↔ wv s k = 0) ∧ (stk s k → ∀ t, t < 20 → (B.testBit t = true ↔ t < T ∧ ow s hem t ∧ s (60 + 4 * t) % 8 = p ∧ s (61 + 4 * t) ≠ 5 ∧ ¬ so s t (p / 2) k))
def EP (M : mM) (b : Nat) (s : Nat → Nat) (hem t : Nat) : Prop := (ow s hem t ∧ s (61 + 4 * t) = 5 → M.1 (b + 20) t = nI (s (60 + 4 * t) % 8) ∧ M.1 (b + 21) t = nI (s (62 + 4 * t))) ∧ (¬ (ow s hem t ∧ s (61 + 4 * t) = 5) → M.1 (b + 20) t = -1)
def OW (M : mM) (b : Nat) (s : Nat → Nat) (hem T : Nat) : Prop := ∃ O, O < 1048576 ∧ M.1 b 16 = nI O ∧ ∀ t, O.testBit t = true ↔ t < T ∧ ow s hem t
def HB (M : mM) (b : Nat) (s : Nat → Nat) : Prop := M.1 b 15 = nI (s 8) ∧ (∀ k, k < 21 → M.1 (b + 1) k = nI (wv s k)) ∧ ∀ p, p < 8 → ∀ k, stk s k → M.1 (b + 12 + p) k = nI (lfL s (p / 2) k)
def HT (M : mM) (b : Nat) (s : Nat → Nat) (hem T : Nat) : Prop := HB M b s ∧ (∀ p, p < 8 → ∀ k, k < 21 → BR M b s hem T p k) ∧ (∀ t, t < T → EP M b s hem t) ∧ OW M b s hem T
def HS (M : mM) (b : Nat) (s : Nat → Nat) (hem wo : Nat) : Prop := ∀ p, p < 8 → M.1 (b + 22) p = nI (edF s (8 * hem + p) wo (s 1))
theorem wv_le {s c : Nat → Nat} (w : WF s c) {k : Nat} (hk : k < 21) : wv s k ≤ 9 := by
  by_cases q : stk s k
  · rw [wv, iv_t q]; exact w.hb k hk
  · rw [wv, iv_f q]; omega
theorem BR.cp {M M' : mM} {b hem T p k : Nat} {s : Nat → Nat} (h : BR M b s hem T p k) (e : M'.1 (b + 3 + p) k = M.1 (b + 3 + p) k) : BR M' b s hem T p k := by
  obtain ⟨B, h1, h2, h3, h4⟩ := h
  exact ⟨B, h1, by rw [e]; exact h2, h3, h4⟩
theorem HB.cp {M M' : mM} {b : Nat} {s : Nat → Nat} (h : HB M b s) (e1 : M'.1 b 15 = M.1 b 15) (e2 : M'.1 (b + 1) = M.1 (b + 1)) (e3 : ∀ p, p < 8 → M'.1 (b + 12 + p) = M.1 (b + 12 + p)) : HB M' b s := by
  obtain ⟨h1, h2, h3⟩ := h
  exact ⟨by rw [e1]; exact h1, fun k hk => by rw [e2]; exact h2 k hk, fun p hp k hk => by rw [e3 p hp]; exact h3 p hp k hk⟩
theorem BR.next {M : mM} {b hem T p k : Nat} {s : Nat → Nat} (h : BR M b s hem T p k) (hn : ¬ (ow s hem T ∧ s (60 + 4 * T) % 8 = p ∧ s (61 + 4 * T) ≠ 5 ∧ (stk s k → ¬ so s T (p / 2) k))) : BR M b s hem (T + 1) p k := by
  obtain ⟨B, h1, h2, h3, h4⟩ := h
  refine ⟨B, h1, h2, h3, fun hk t ht => ?_⟩
  rw [h4 hk t ht]
  constructor
  · rintro ⟨a, r⟩; exact ⟨by omega, r⟩
  · rintro ⟨a, r⟩
    refine ⟨?_, r⟩
    rcases Nat.lt_or_ge t T with z | z
    · exact z
    · have : t = T := by omega
      subst this
      exact absurd ⟨r.1, r.2.1, r.2.2.1, fun _ => r.2.2.2⟩ hn
theorem mIf_ne {M : mM} {k q : Nat} {f : Nat → Int32} (h : q ≠ k) : (mI M k f).1 q = M.1 q := mI_n h
theorem sp_lookAtTrace {b st we hem T : Nat} {s c : Nat → Nat} {M : mM} {Q : mM → Prop} (hs : ST M st s c) (w : WF s c) (hw : WE M we s) (d1 : st + 12 ≤ b) (d2 : we + 16 ≤ b) (hT : T < 20) (how : ow s hem T) (hB : HB M b s) (hR : ∀ p, p < 8 → ∀ k, k < 21 → BR M b s hem T p k) (hE : ∀ t, t < T → EP M b s hem t) (hE1 : M.1 (b + 20) T = -1) (hO : OW M b s hem T) (h : ∀ M', fr M M' b (b + 23) → HT M' b s hem (T + 1) → Q M') : p_X1_lookAtTrace b st we (nI T) M Q := by
  obtain ⟨v1, v2, v3, v4, v5, v6, v7, v8⟩ := w.tr T how.1
  have stT := hs.2.2.2.2.2.1 T how.1
  unfold p_X1_lookAtTrace
  rw [clp (by omega), stT.1, stT.2.1, show nI (s (60 + 4 * T)) - nI (s (60 + 4 * T)) / 8 * 8 = nI (s (60 + 4 * T) % 8) from pk_rem (d := 8) (by omega) (by decide) (by decide)]
  refine ⟨vin hT (by decide), ?_⟩
  rintro x2 rfl
  refine ⟨vin hT (by decide), ?_⟩
  rintro x4 rfl M5 rfl
  obtain ⟨O, o1, o2, o3⟩ := hO
  rw [o2, e_sh1b T (by omega), nI_or]
  have hO5 : OW (mI M b (upd (M.1 b) 16 (nI (O ||| 2 ^ T)))) b s hem (T + 1) := by
    refine ⟨O ||| 2 ^ T, or_lt20 o1 hT, by rw [mI_s, updS], fun t => ?_⟩
    rw [tb_or, o3]
    constructor
    · rintro (⟨a, r⟩ | rfl)
      · exact ⟨by omega, r⟩
      · exact ⟨by omega, how⟩
    · rintro ⟨a, r⟩
      rcases Nat.lt_or_ge t T with z | z
      · exact Or.inl ⟨z, r⟩
      · exact Or.inr (by omega)
  have hf5 : fr M (mI M b (upd (M.1 b) 16 (nI (O ||| 2 ^ T)))) b (b + 23) := fr.rf.mI (by omega) (by omega)
  have hB5 : HB (mI M b (upd (M.1 b) 16 (nI (O ||| 2 ^ T)))) b s := hB.cp (by rw [mI_s, updN (by decide)]) (mIf_ne (by omega)) (fun p hp => mIf_ne (by omega))
  have hR5 : ∀ p, p < 8 → ∀ k, k < 21 → BR (mI M b (upd (M.1 b) 16 (nI (O ||| 2 ^ T)))) b s hem T p k := fun p hp k hk => (hR p hp k hk).cp (mI_o (by omega) _)
  have hE5 : ∀ t, t < T → EP (mI M b (upd (M.1 b) 16 (nI (O ||| 2 ^ T)))) b s hem t := fun t ht => by
    obtain ⟨a1, a2⟩ := hE t ht
    exact ⟨fun q => by rw [mI_o (by omega), mI_o (by omega)]; exact a1 q, fun q => by rw [mI_o (by omega)]; exact a2 q⟩
  have hE15 : (mI M b (upd (M.1 b) 16 (nI (O ||| 2 ^ T)))).1 (b + 20) T = -1 := by rw [mI_o (by omega)]; exact hE1
  generalize mI M b (upd (M.1 b) 16 (nI (O ||| 2 ^ T))) = M5 at *
  have hs5 := hs.fr hf5 (by omega)
  have stT5 := hs5.2.2.2.2.2.1 T how.1
  refine ⟨fun q => ?_, fun q => ⟨vin hT (by decide), ?_⟩⟩
  · have q : s (61 + 4 * T) ≠ 5 := fun e => q (by rw [e]; rfl)
    refine loopU (A := mM) 21 (fun k a => (nI k, a)) (fun k a => fr M a b (b + 23) ∧ HB a b s ∧ OW a b s hem (T + 1) ∧ (∀ t, t < T + 1 → EP a b s hem t) ∧ (∀ p, p < 8 → ∀ k', k' < 21 → BR a b s hem (if k' < k then T + 1 else T) p k' ) ∧ ∀ p, p < 8 → p ≠ s (60 + 4 * T) % 8 → ∀ k', k' < 21 → BR a b s hem (T + 1) p k') M5 rfl ⟨hf5, hB5, hO5, ?_, ?_, ?_⟩ ?_
    · intro t ht
      rcases Nat.lt_or_ge t T with z | z
      · exact hE5 t z
      · have : t = T := by omega
        subst this
        exact ⟨fun r => absurd r.2 q, fun _ => hE15⟩
    · intro p hp k' hk'
      rw [if_neg (Nat.not_lt_zero _)]; exact hR5 p hp k' hk'
    · intro p hp hne k' hk'
      exact (hR5 p hp k' hk').next (fun r => hne r.2.1.symm)
    rintro k a ag hk ⟨hf, hBa, hOa, hEa, hRa, hNa⟩ hag
    show p_X1_lookAtTrace_F61 b st we (nI T) (nI (s (60 + 4 * T) % 8)) (nI (s (61 + 4 * T))) Q ag (nI k) a
    unfold p_X1_lookAtTrace_F61
    refine ⟨fun q1 => ?_, fun q1 => ⟨vin hT (by decide), ?_⟩⟩
    · have q1 := lei (a := 21) (by decide) (by omega) q1
      have : k = 21 := by omega
      subst this
      refine h a hf ⟨hBa, fun p hp k' hk' => ?_, hEa, hOa⟩
      have := hRa p hp k' hk'
      rw [if_pos hk'] at this
      exact this
    · have q1 := nlei (a := 21) (by decide) (by omega) q1
      have hsa := hs.fr hf (by omega)
      have stTa := hsa.2.2.2.2.2.1 T how.1
      have hwa := hw.fr hf (by omega)
      have c8 : s (60 + 4 * T) % 8 < 8 := Nat.mod_lt _ (by decide)
      unfold p_X6_sideOf
      rw [clp (by omega), stTa.2.2.1, show (nI (s (60 + 4 * T) % 8) - nI (s (60 + 4 * T) % 8) / 8 * 8) / 2 = nI (s (60 + 4 * T) % 8 % 8 / 2) from e6_sd _ (by omega), show s (60 + 4 * T) % 8 % 8 / 2 = s (60 + 4 * T) % 8 / 2 by omega, show nI k + 1 = nI (k + 1) from nI_add k 1]
      have no : (stk s k → so s T (s (60 + 4 * T) % 8 / 2) k) → ag (nI (k + 1), a) := by
        intro hso
        refine hag q1 a ⟨hf, hBa, hOa, hEa, fun p hp k' hk' => ?_, hNa⟩
        have r := hRa p hp k' hk'
        rcases Nat.lt_or_ge k' k with z | z
        · rw [if_pos z] at r; rw [if_pos (by omega)]; exact r
        · rw [if_neg (by omega)] at r
          by_cases y : k' = k
          · subst y
            rw [if_pos (by omega)]
            by_cases ps : p = s (60 + 4 * T) % 8
            · by_cases kk : stk s k'
              · exact r.next (fun x => x.2.2.2 kk (by rw [ps]; exact hso kk))
              · obtain ⟨B, h1, h2, h3, h4⟩ := r
                exact ⟨B, h1, h2, h3, fun x => absurd x kk⟩
            · exact hNa p hp ps k' hk'
          · rw [if_neg (by omega)]; exact r
      have yes : (stk s k → ¬ so s T (s (60 + 4 * T) % 8 / 2) k) → vp_in (nI (s (60 + 4 * T) % 8)) 8 ∧ (vp_in (nI k) 21 ∧ (vp_in (nI k) 21 ∧ ∀ M11 : mM, M11 = mI a (b + 3 + (nI (s (60 + 4 * T) % 8)).toNatClampNeg) (upd (a.1 (b + 3 + (nI (s (60 + 4 * T) % 8)).toNatClampNeg)) (nI k).toNatClampNeg ((a.1 (b + 3 + (nI (s (60 + 4 * T) % 8)).toNatClampNeg) (nI k).toNatClampNeg) ||| (1 <<< (nI T &&& 31)))) → ag (nI (k + 1), M11))) := by
        intro hso
        rw [clp (by omega), clp (by omega)]
        have r0 := hRa (s (60 + 4 * T) % 8) c8 k q1
        rw [if_neg (Nat.lt_irrefl k)] at r0
        obtain ⟨B, h1, h2, h3, h4⟩ := r0
        rw [h2, e_sh1b T (by omega), nI_or]
        refine ⟨vin c8 (by decide), vin q1 (by decide), vin q1 (by decide), ?_⟩
        rintro M11 rfl
        have f11 : fr M (mI a (b + 3 + s (60 + 4 * T) % 8) (upd (a.1 (b + 3 + s (60 + 4 * T) % 8)) k (nI (B ||| 2 ^ T)))) b (b + 23) := hf.mI (by omega) (by omega)
        refine hag q1 _ ⟨f11, hBa.cp (mI_o (by omega) _) (mIf_ne (by omega)) (fun p hp => mIf_ne (by omega)), ?_, ?_, ?_, ?_⟩
        · obtain ⟨O', o1', o2', o3'⟩ := hOa
          exact ⟨O', o1', by rw [mI_o (by omega)]; exact o2', o3'⟩
        · intro t ht
          obtain ⟨a1, a2⟩ := hEa t ht
          exact ⟨fun q => by rw [mI_o (by omega), mI_o (by omega)]; exact a1 q, fun q => by rw [mI_o (by omega)]; exact a2 q⟩
        · intro p hp k' hk'
          have r := hRa p hp k' hk'
          by_cases ps : p = s (60 + 4 * T) % 8
          · subst ps
            by_cases y : k' = k
            · subst y
              rw [if_pos (by omega)]
              refine ⟨B ||| 2 ^ T, or_lt21 h1 (by omega), by rw [mI_s, updS], ?_, fun kk t ht => ?_⟩
              · rw [tb_or]
                constructor
                · rintro (x | x)
                  · exact h3.mp x
                  · omega
                · exact fun x => Or.inl (h3.mpr x)
              · rw [tb_or, h4 kk t ht]
                constructor
                · rintro (⟨x, y⟩ | rfl)
                  · exact ⟨by omega, y⟩
                  · exact ⟨by omega, how, rfl, q, hso kk⟩
                · rintro ⟨x, y⟩
                  rcases Nat.lt_or_ge t T with z | z
                  · exact Or.inl ⟨z, y⟩
                  · exact Or.inr (by omega)
            · have r := r.cp (M' := mI a (b + 3 + s (60 + 4 * T) % 8) (upd (a.1 (b + 3 + s (60 + 4 * T) % 8)) k (nI (B ||| 2 ^ T)))) (by rw [mI_s, updN y])
              rcases Nat.lt_or_ge k' k with z | z
              · rw [if_pos z] at r; rw [if_pos (by omega)]; exact r
              · rw [if_neg (by omega)] at r; rw [if_neg (by omega)]; exact r
          · have r := hNa p hp ps k' hk'
            have r := r.cp (M' := mI a (b + 3 + s (60 + 4 * T) % 8) (upd (a.1 (b + 3 + s (60 + 4 * T) % 8)) k (nI (B ||| 2 ^ T)))) (mI_o (by omega) _)
            by_cases y : k' < k + 1
            · rw [if_pos y]; exact r
            · rw [if_neg y]
              have r2 := hRa p hp k' hk'
              rw [if_neg (by omega)] at r2
              exact r2.cp (mI_o (by omega) _)
        · intro p hp hne k' hk'
          exact (hNa p hp hne k' hk').cp (mI_o (by omega) _)
      by_cases kk : stk s k
      · refine sp_isSo hwa w (by omega) kk v2 v3 (fun e => ?_) (fun g => ⟨fun _ => no (fun _ => by rw [so_K]; exact g), fun e => absurd e (by decide)⟩) (fun g => ⟨fun e => absurd rfl e, fun _ => yes (fun _ => by rw [so_K]; exact g)⟩)
        have k3 : s (61 + 4 * T) = 0 ∨ s (61 + 4 * T) = 1 ∨ s (61 + 4 * T) = 2 := by omega
        have w0 := w.1
        rcases k3 with k3 | k3 | k3
        · have := v5 k3; omega
        · have := v6 k3; omega
        · have := v7 k3; omega
      · exact sp_isSoA (by omega) q1 v2 ⟨fun _ => no (fun x => absurd x kk), fun e => absurd e (by decide)⟩ ⟨fun e => absurd rfl e, fun _ => yes (fun x => absurd x kk)⟩
  · have q := eqi (b := 5) (by omega) (by decide) q
    rintro M13 rfl
    refine ⟨vin hT (by decide), vin hT (by decide), ?_⟩
    rintro M16 rfl
    have f13 : fr M (mI M5 (b + 20) (upd (M5.1 (b + 20)) T (nI (s (60 + 4 * T) % 8)))) b (b + 23) := hf5.mI (by omega) (by omega)
    have stT13 := (hs.fr f13 (by omega)).2.2.2.2.2.1 T how.1
    rw [stT13.2.2.1]
    refine h _ (f13.mI (by omega) (by omega)) ⟨hB5.cp (by rw [mI_o (by omega), mI_o (by omega)]) (by rw [mIf_ne (by omega), mIf_ne (by omega)]) (fun p hp => by rw [mIf_ne (by omega), mIf_ne (by omega)]), fun p hp k hk => ((hR5 p hp k hk).cp (by rw [mI_o (by omega), mI_o (by omega)])).next (fun r => r.2.2.1 q), fun t ht => ?_, ?_⟩
    · rcases Nat.lt_or_ge t T with z | z
      · obtain ⟨a1, a2⟩ := hE5 t z
        exact ⟨fun r => by rw [mI_o (by omega), mI_s, mI_s, updN (by omega), updN (by omega), mI_o (by omega)]; exact a1 r, fun r => by rw [mI_o (by omega), mI_s, updN (by omega)]; exact a2 r⟩
      · have : t = T := by omega
        subst this
        exact ⟨fun r => by rw [mI_o (by omega), mI_s, mI_s, updS, updS]; exact ⟨rfl, rfl⟩, fun r => absurd ⟨how, q⟩ r⟩
    · obtain ⟨O', o1', o2', o3'⟩ := hO5
      exact ⟨O', o1', by rw [mI_o (by omega), mI_o (by omega)]; exact o2', o3'⟩
