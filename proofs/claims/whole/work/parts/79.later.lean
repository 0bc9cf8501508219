/-! the fewest later traces: numbers and the class -/
def W3 (a b c : Nat) : Nat := (2 ^ a ||| 2 ^ b) ||| 2 ^ c
def dc (a b c : Nat) : Nat := 1 + (if b < a then 1 else 0) + (if c < b then 1 else 0)
theorem pl2 {c b : Nat} (h : c < b) : 2 * 2 ^ c ≤ 2 ^ b := by
  have : 2 ^ (c + 1) ≤ 2 ^ b := Nat.pow_le_pow_right (by decide) h
  rw [Nat.pow_succ] at this
  omega
theorem pp2 (a : Nat) : 0 < 2 ^ a := Nat.pow_pos (by decide)
theorem or2 {a b : Nat} (h : b < a) : 2 ^ a ||| 2 ^ b = 2 ^ a + 2 ^ b := by
  have hb : 2 ^ b < 2 ^ a := by have := pl2 h; have := pp2 b; omega
  have := Nat.two_pow_add_eq_or_of_lt (i := a) hb 1
  rw [Nat.mul_one] at this
  exact this.symm
theorem or3 {a b c : Nat} (h : b < a) (h2 : c < b) : (2 ^ a ||| 2 ^ b) ||| 2 ^ c = 2 ^ a + 2 ^ b + 2 ^ c := by
  have hb := pl2 h
  have hc := pl2 h2
  have := Nat.two_pow_add_eq_or_of_lt (i := a) (b := 2 ^ b + 2 ^ c) (by have := pp2 c; omega) 1
  rw [Nat.mul_one] at this
  rw [Nat.or_assoc, or2 h2, ← this]
  omega
theorem W3_1 (a : Nat) : W3 a a a = 2 ^ a := by unfold W3; rw [Nat.or_self, Nat.or_self]
theorem W3_2 {a b : Nat} (h : b < a) : W3 a b b = 2 ^ a + 2 ^ b := by unfold W3; rw [Nat.or_assoc, Nat.or_self, or2 h]
theorem W3_2' {a b : Nat} (h : b < a) : W3 a a b = 2 ^ a + 2 ^ b := by unfold W3; rw [Nat.or_self, or2 h]
theorem W3_3 {a b c : Nat} (h : b < a) (h2 : c < b) : W3 a b c = 2 ^ a + 2 ^ b + 2 ^ c := or3 h h2
theorem W3_lt {a b c : Nat} (ha : a < 20) (hb : b < 20) (hc : c < 20) : W3 a b c < 1048576 := by
  have h1 : 2 ^ a < 1048576 := Nat.pow_lt_pow_right (n := 20) (by decide) ha
  exact or_lt20 (or_lt20 h1 hb) hc
theorem W3_tb {a b c t : Nat} : (W3 a b c).testBit t = true ↔ t = a ∨ t = b ∨ t = c := by
  unfold W3
  rw [tb_or, tb_or, Nat.testBit_two_pow]
  simp
  constructor
  · rintro ((h | h) | h)
    · exact Or.inl h.symm
    · exact Or.inr (Or.inl h)
    · exact Or.inr (Or.inr h)
  · rintro (h | h | h)
    · exact Or.inl (Or.inl h.symm)
    · exact Or.inl (Or.inr h)
    · exact Or.inr h
theorem W3_ps (a b c : Nat) : 0 < W3 a b c := by
  rcases Nat.eq_zero_or_pos (W3 a b c) with h | h
  · exfalso
    have := (W3_tb (a := a) (b := b) (c := c) (t := a)).mpr (Or.inl rfl)
    rw [h, Nat.zero_testBit] at this
    exact absurd this (by decide)
  · exact h
def GD (s : Nat → Nat) (hem n a b c : Nat) : Prop := c ≤ b ∧ b ≤ a ∧ ow s hem a ∧ ow s hem b ∧ ow s hem c ∧ dc a b c = n ∧ aC s hem (W3 a b c) ≠ 0
def nf (n a b c : Nat) : Prop := (n = 1 → b = a ∧ c = a) ∧ (n = 2 → b < a ∧ c = b) ∧ (n = 3 → b < a ∧ c < b)
def GW (s : Nat → Nat) (hem n a b c : Nat) : Prop := nf n a b c ∧ ow s hem a ∧ ow s hem b ∧ ow s hem c ∧ aC s hem (W3 a b c) ≠ 0
theorem GW_D {s : Nat → Nat} {hem n a b c : Nat} (hn : 1 ≤ n) (hn3 : n ≤ 3) (h : GW s hem n a b c) : GD s hem n a b c := by
  obtain ⟨⟨h1, h2, h3⟩, o1, o2, o3, h4⟩ := h
  have : n = 1 ∨ n = 2 ∨ n = 3 := by omega
  rcases this with rfl | rfl | rfl
  · obtain ⟨rfl, rfl⟩ := h1 rfl
    exact ⟨Nat.le_refl _, Nat.le_refl _, o1, o2, o3, by unfold dc; rw [if_neg (Nat.lt_irrefl _)], h4⟩
  · obtain ⟨k, rfl⟩ := h2 rfl
    exact ⟨Nat.le_refl _, by omega, o1, o2, o3, by unfold dc; rw [if_pos k, if_neg (Nat.lt_irrefl _)], h4⟩
  · obtain ⟨k, k2⟩ := h3 rfl
    exact ⟨by omega, by omega, o1, o2, o3, by unfold dc; rw [if_pos k, if_pos k2], h4⟩
theorem GD_W {s : Nat → Nat} {hem n a b c : Nat} (h : GD s hem n a b c) : ∃ a' b' c', GW s hem n a' b' c' ∧ W3 a b c = W3 a' b' c' := by
  obtain ⟨h1, h2, o1, o2, o3, h3, h4⟩ := h
  unfold dc at h3
  by_cases k : b < a
  · rw [if_pos k] at h3
    by_cases k2 : c < b
    · rw [if_pos k2] at h3
      exact ⟨a, b, c, ⟨⟨fun e => by omega, fun e => by omega, fun _ => ⟨k, k2⟩⟩, o1, o2, o3, h4⟩, rfl⟩
    · rw [if_neg k2] at h3
      exact ⟨a, b, c, ⟨⟨fun e => by omega, fun _ => ⟨k, by omega⟩, fun e => by omega⟩, o1, o2, o3, h4⟩, rfl⟩
  · rw [if_neg k] at h3
    have e : b = a := by omega
    subst e
    by_cases k2 : c < b
    · rw [if_pos k2] at h3
      have e2 : W3 b b c = W3 b c c := by rw [W3_2' k2, W3_2 k2]
      exact ⟨b, c, c, ⟨⟨fun e => by omega, fun _ => ⟨k2, rfl⟩, fun e => by omega⟩, o1, o3, o3, by rw [← e2]; exact h4⟩, e2⟩
    · rw [if_neg k2] at h3
      have e : c = b := by omega
      subst e
      exact ⟨c, c, c, ⟨⟨fun _ => ⟨rfl, rfl⟩, fun e => by omega, fun e => by omega⟩, o1, o2, o3, h4⟩, rfl⟩
def LV (s : Nat → Nat) (hem n W : Nat) : Prop := (∃ a b c, GD s hem n a b c ∧ W = W3 a b c) ∧ ∀ a b c, GD s hem n a b c → W ≤ W3 a b c
noncomputable def lvN (s : Nat → Nat) (hem n : Nat) : Nat := @dite Nat (∃ W, LV s hem n W) (Classical.propDecidable _) (fun h => Classical.choose h) (fun _ => 0)
theorem lv_eq {s : Nat → Nat} {hem n W : Nat} (h : LV s hem n W) : lvN s hem n = W := by
  unfold lvN
  rw [dif_pos ⟨W, h⟩]
  have k := Classical.choose_spec (p := fun W => LV s hem n W) ⟨W, h⟩
  generalize Classical.choose (p := fun W => LV s hem n W) ⟨W, h⟩ = W' at *
  obtain ⟨⟨a, b, c, g, e⟩, l⟩ := h
  obtain ⟨⟨a', b', c', g', e'⟩, l'⟩ := k
  have h1 := l a' b' c' g'
  have h2 := l' a b c g
  omega
theorem lv_0 {s : Nat → Nat} {hem n : Nat} (h : ∀ a b c, ¬ GD s hem n a b c) : lvN s hem n = 0 := by
  unfold lvN
  rw [dif_neg]
  rintro ⟨W, ⟨a, b, c, g, _⟩, _⟩
  exact h a b c g
theorem lv_gw {s : Nat → Nat} {hem n a b c : Nat} (hn : 1 ≤ n) (hn3 : n ≤ 3) (g : GW s hem n a b c) (l : ∀ a' b' c', GW s hem n a' b' c' → W3 a b c ≤ W3 a' b' c') : lvN s hem n = W3 a b c := by
  refine lv_eq ⟨⟨a, b, c, GW_D hn hn3 g, rfl⟩, fun a' b' c' g' => ?_⟩
  obtain ⟨x, y, z, k, e⟩ := GD_W g'
  rw [e]; exact l x y z k
theorem lv_gw0 {s : Nat → Nat} {hem n : Nat} (h : ∀ a b c, ¬ GW s hem n a b c) : lvN s hem n = 0 := by
  refine lv_0 (fun a b c g => ?_)
  obtain ⟨x, y, z, k, _⟩ := GD_W g
  exact h x y z k
noncomputable def laterV (s : Nat → Nat) (hem : Nat) : Int32 := if aA s hem ≠ 0 then 0 else if lvN s hem 1 ≠ 0 then nI (lvN s hem 1) else if lvN s hem 2 ≠ 0 then nI (lvN s hem 2) else if lvN s hem 3 ≠ 0 then nI (lvN s hem 3) else -5
theorem later_n {s : Nat → Nat} {hem n : Nat} (hA : aA s hem = 0) (hn : 1 ≤ n) (hn3 : n ≤ 3) (h : ∀ j, 1 ≤ j → j < n → lvN s hem j = 0) (hz : lvN s hem n ≠ 0) : laterV s hem = nI (lvN s hem n) := by
  unfold laterV
  rw [if_neg (fun e => e hA)]
  have : n = 1 ∨ n = 2 ∨ n = 3 := by omega
  rcases this with rfl | rfl | rfl
  · rw [if_pos hz]
  · rw [if_neg (fun e => e (h 1 (by decide) (by decide))), if_pos hz]
  · rw [if_neg (fun e => e (h 1 (by decide) (by decide))), if_neg (fun e => e (h 2 (by decide) (by decide))), if_pos hz]
theorem later_0 {s : Nat → Nat} {hem : Nat} (hA : aA s hem = 0) (h : ∀ j, 1 ≤ j → j < 4 → lvN s hem j = 0) : laterV s hem = -5 := by
  unfold laterV
  rw [if_neg (fun e => e hA), if_neg (fun e => e (h 1 (by decide) (by decide))), if_neg (fun e => e (h 2 (by decide) (by decide))), if_neg (fun e => e (h 3 (by decide) (by decide)))]
theorem own_bit {M : mM} {b hem t : Nat} {s : Nat → Nat} (h : OW M b s hem 20) (ht : t < 20) : (ow s hem t → (M.1 b 16) &&& (1 <<< (nI t &&& 31)) = nI (2 ^ t)) ∧ (¬ ow s hem t → (M.1 b 16) &&& (1 <<< (nI t &&& 31)) = 0) := by
  obtain ⟨O, o1, o2, o3⟩ := h
  rw [o2, e_sh1b t (by omega), fa_and]
  constructor
  · intro w
    have : O.testBit t = true := (o3 t).mpr ⟨ht, w⟩
    congr 1
    refine Nat.eq_of_testBit_eq (fun i => ?_)
    rw [Nat.testBit_and, Nat.testBit_two_pow]
    by_cases z : t = i
    · subst z
      rw [this]; simp
    · simp [z]
  · intro w
    have : O.testBit t = false := by
      cases q : O.testBit t
      · rfl
      · exact absurd ((o3 t).mp q).2 w
    rw [(fb_bit_nat O t).mpr this]; rfl
theorem nI_ps2 {t : Nat} (h : t < 20) : nI (2 ^ t) ≠ 0 := by
  have h1 : 2 ^ t < 1048576 := Nat.pow_lt_pow_right (n := 20) (by decide) h
  have h2 := pp2 t
  intro e
  have := eqi (b := 0) (by omega) (by decide) e
  omega
theorem ow_20 {s c : Nat → Nat} (w : WF s c) {hem t : Nat} (h : ow s hem t) : t < 20 := by
  have := w.2.1
  have := h.1
  omega
theorem sp_laterOf {b hem n : Nat} {s c : Nat → Nat} {M : mM} {Q : Int32 → mM → Prop} (w : WF s c) (hL : HL M b s hem) (hn : 1 ≤ n) (hn3 : n ≤ 3) (h : ∀ M', fr M M' (b + 22) (b + 23) → HL M' b s hem → Q (nI (lvN s hem n)) M') : p_X1_laterOf b (nI n) M Q := by
  refine loopU (A := mM) 20 (fun t a => (nI t, a)) (fun t a => fr M a (b + 22) (b + 23) ∧ HL a b s hem ∧ ∀ a' b' c', GW s hem n a' b' c' → t ≤ a') M rfl ⟨fr.rf, hL, fun _ _ _ _ => Nat.zero_le _⟩ ?_
  rintro t a ag ht ⟨hf, hl, hg⟩ hag
  show p_X1_laterOf_F2 b (nI n) Q ag (nI t) a
  unfold p_X1_laterOf_F2
  refine ⟨fun q => ?_, fun q => ?_⟩
  · have q := lei (a := 20) (by decide) (by omega) q
    have := h a hf hl
    rw [lv_gw0 (fun a' b' c' g => by have := hg a' b' c' g; have := ow_20 w g.2.1; omega)] at this
    exact this
  have q := nlei (a := 20) (by decide) (by omega) q
  rintro x1 rfl
  obtain ⟨ob1, ob0⟩ := own_bit hl.2.2.2 q
  -- behind this trace
  have nextT : ∀ a1 : mM, fr M a1 (b + 22) (b + 23) → HL a1 b s hem → (∀ a' b' c', GW s hem n a' b' c' → a' ≠ t) → ag (nI (t + 1), a1) := fun a1 f1 l1 g1 => hag q a1 ⟨f1, l1, fun a' b' c' g => by have := hg a' b' c' g; have := g1 a' b' c' g; omega⟩
  by_cases ot : ow s hem t
  · rw [ob1 ot]
    have b20 : 2 ^ t < 1048576 := Nat.pow_lt_pow_right (n := 20) (by decide) q
    refine ⟨fun e => absurd e (nI_ps2 q), fun _ => ⟨fun n1 => ?_, fun n1 => ?_⟩⟩
    · have n1 : n ≠ 1 := fun e => n1 (by rw [e]; rfl)
      refine loopU (A := mM) t (fun m a => (nI m, a)) (fun m a => fr M a (b + 22) (b + 23) ∧ HL a b s hem ∧ ∀ a' b' c', GW s hem n a' b' c' → a' = t → m ≤ b') a rfl ⟨hf, hl, fun _ _ _ _ _ => Nat.zero_le _⟩ ?_
      rintro m a2 ag2 hm ⟨hf2, hl2, hg2⟩ hag2
      show p_X1_laterOf_F39 b (nI n) (nI t) (nI (2 ^ t)) Q ag ag2 (nI m) a2
      unfold p_X1_laterOf_F39
      rw [show nI t + 1 = nI (t + 1) from nI_add t 1]
      refine ⟨fun q2 => nextT a2 hf2 hl2 (fun a' b' c' g e => ?_), fun q2 => ⟨fun e => absurd e (nI_ps2 q), fun _ => ⟨fun e => absurd (lei (b := 1) (by omega) (by decide) e) (by omega), fun _ => ?_⟩⟩⟩
      · have q2 := lei (by omega) (by omega) q2
        have := hg2 a' b' c' g e
        obtain ⟨_, g2, g3⟩ := g.1
        have : n = 2 ∨ n = 3 := by omega
        rcases this with y | y
        · have := (g2 y).1; omega
        · have := (g3 y).1; omega
      have q2 := nlei (by omega) (by omega) q2
      rintro x2 rfl
      obtain ⟨pb1, pb0⟩ := own_bit hl2.2.2.2 (show m < 20 by omega)
      have nextM : ∀ a1 : mM, fr M a1 (b + 22) (b + 23) → HL a1 b s hem → (∀ a' b' c', GW s hem n a' b' c' → a' = t → b' ≠ m) → ag2 (nI (m + 1), a1) := fun a1 f1 l1 g1 => hag2 q2 a1 ⟨f1, l1, fun a' b' c' g e => by have := hg2 a' b' c' g e; have := g1 a' b' c' g e; omega⟩
      by_cases om : ow s hem m
      · rw [pb1 om]
        have or_e : nI (2 ^ t) ||| nI (2 ^ m) = nI (2 ^ t ||| 2 ^ m) := nI_or _ _
        have w2 := W3_lt q (show m < 20 by omega) (show m < 20 by omega)
        refine ⟨fun e => absurd e (nI_ps2 (by omega)), fun _ => ⟨fun n2 => ?_, fun n2 => ?_⟩⟩
        · have n2 : n ≠ 2 := fun e => n2 (by rw [e]; rfl)
          have n3 : n = 3 := by omega
          refine loopU (A := mM) m (fun l a => (nI l, a)) (fun l a => fr M a (b + 22) (b + 23) ∧ HL a b s hem ∧ ∀ a' b' c', GW s hem n a' b' c' → a' = t → b' = m → l ≤ c') a2 rfl ⟨hf2, hl2, fun _ _ _ _ _ _ => Nat.zero_le _⟩ ?_
          rintro l a3 ag3 hl3 ⟨hf3, hll3, hg3⟩ hag3
          show p_X1_laterOf_F94 b (nI n) (nI t) (nI (2 ^ t)) (nI m) (nI (2 ^ m)) Q ag ag2 ag3 (nI l) a3
          unfold p_X1_laterOf_F94
          rw [show nI m + 1 = nI (m + 1) from nI_add m 1, show nI l + 1 = nI (l + 1) from nI_add l 1]
          refine ⟨fun q3 => nextM a3 hf3 hll3 (fun a' b' c' g e e2 => ?_), fun q3 => ⟨fun e => absurd e (nI_ps2 (by omega)), fun _ => ⟨fun e => absurd (lei (b := 2) (by omega) (by decide) e) (by omega), fun _ => ?_⟩⟩⟩
          · have q3 := lei (by omega) (by omega) q3
            have := hg3 a' b' c' g e e2
            have := (g.1.2.2 n3).2
            omega
          have q3 := nlei (by omega) (by omega) q3
          rintro x3 rfl
          obtain ⟨qb1, qb0⟩ := own_bit hll3.2.2.2 (show l < 20 by omega)
          have nextL : ∀ a1 : mM, fr M a1 (b + 22) (b + 23) → HL a1 b s hem → (∀ a' b' c', GW s hem n a' b' c' → a' = t → b' = m → c' ≠ l) → ag3 (nI (l + 1), a1) := fun a1 f1 l1 g1 => hag3 q3 a1 ⟨f1, l1, fun a' b' c' g e e2 => by have := hg3 a' b' c' g e e2; have := g1 a' b' c' g e e2; omega⟩
          by_cases ol : ow s hem l
          · rw [qb1 ol]
            refine ⟨fun e => absurd e (nI_ps2 (by omega)), fun _ => ?_⟩
            rw [or_e, nI_or, show (2 ^ t ||| 2 ^ m) ||| 2 ^ l = W3 t m l from rfl]
            refine sp_canBe w (W3_lt q (by omega) (by omega)) hll3 (fun M4 f4 l4 s4 => ⟨fun z => nextL M4 (hf3.tr f4) l4 (fun a' b' c' g e e2 e3 => ?_), fun z => ?_⟩)
            · rw [e, e2, e3] at g
              exact g.2.2.2.2 (bo_z z)
            · have z := bo_nz z
              have := h M4 (hf3.tr f4) l4
              rw [lv_gw hn hn3 (a := t) (b := m) (c := l) ⟨⟨fun e => by omega, fun e => by omega, fun _ => ⟨q2, q3⟩⟩, ot, om, ol, z⟩ (fun a' b' c' g => ?_)] at this
              · exact this
              · have g1 := hg a' b' c' g
                obtain ⟨k1, k2⟩ := g.1.2.2 n3
                have g2 := hg2 a' b' c' g
                have g3 := hg3 a' b' c' g
                rw [W3_3 q2 q3, W3_3 k1 k2]
                have p1 := pl2 q2
                have p2 := pl2 q3
                have p3 := pp2 l
                have p4 := pp2 a'
                have p5 := pp2 b'
                have p6 := pp2 c'
                rcases Nat.lt_or_ge t a' with y | y
                · have := pl2 y; omega
                · have e : a' = t := by omega
                  replace g2 := g2 e
                  replace g3 := g3 e
                  subst e
                  rcases Nat.lt_or_ge m b' with y2 | y2
                  · have := pl2 y2; omega
                  · have e2 : b' = m := by omega
                    replace g3 := g3 e2
                    subst e2
                    have : 2 ^ l ≤ 2 ^ c' := Nat.pow_le_pow_right (by decide) g3
                    omega
          · rw [qb0 ol]
            refine ⟨fun _ => nextL a3 hf3 hll3 (fun a' b' c' g e e2 e3 => ?_), fun e => absurd rfl e⟩
            rw [e3] at g
            exact ol g.2.2.2.1
        · have n2 := eqi (b := 2) (by omega) (by decide) n2
          rw [or_e]
          have e22 : 2 ^ t ||| 2 ^ m = W3 t m m := by unfold W3; rw [Nat.or_assoc, Nat.or_self]
          rw [e22]
          have exitL : ∀ a1 : mM, fr M a1 (b + 22) (b + 23) → HL a1 b s hem → aC s hem (W3 t m m) = 0 → Loop (fun ag' s' => p_X1_laterOf_F94 b (nI n) (nI t) (nI (2 ^ t)) (nI m) (nI (2 ^ m)) Q ag ag2 ag' s'.1 s'.2) (0, a1) := by
            intro a1 f1 l1 z
            have go : ag2 (nI (m + 1), a1) := nextM a1 f1 l1 (fun a' b' c' g e e2 => by
              have k := (g.1.2.1 n2).2
              rw [k, e2, e] at g
              exact g.2.2.2.2 z)
            refine loopU (A := Unit) 0 (fun l _ => (nI l, a1)) (fun _ _ => True) () rfl trivial ?_
            rintro l _ ag3 _ _ _
            show p_X1_laterOf_F94 b (nI n) (nI t) (nI (2 ^ t)) (nI m) (nI (2 ^ m)) Q ag ag2 ag3 (nI l) a1
            unfold p_X1_laterOf_F94
            rw [show nI m + 1 = nI (m + 1) from nI_add m 1]
            exact ⟨fun _ => go, fun _ => ⟨fun _ => go, fun _ => ⟨fun _ => go, fun e => absurd (by rw [n2]; decide) e⟩⟩⟩
          refine sp_canBe w w2 hl2 (fun M6 f6 l6 s6 => ⟨fun z => exitL M6 (hf2.tr f6) l6 (bo_z z), fun z => ?_⟩)
          have z := bo_nz z
          have := h M6 (hf2.tr f6) l6
          rw [lv_gw hn hn3 (a := t) (b := m) (c := m) ⟨⟨fun e => by omega, fun _ => ⟨q2, rfl⟩, fun e => by omega⟩, ot, om, om, z⟩ (fun a' b' c' g => ?_)] at this
          · exact this
          · have g1 := hg a' b' c' g
            obtain ⟨k1, k2⟩ := g.1.2.1 n2
            have g2 := hg2 a' b' c' g
            rw [k2, W3_2 q2, W3_2 k1]
            have p1 := pl2 q2
            have p3 := pp2 m
            have p4 := pp2 a'
            have p5 := pp2 b'
            rcases Nat.lt_or_ge t a' with y | y
            · have := pl2 y; omega
            · have e : a' = t := by omega
              replace g2 := g2 e
              subst e
              have : 2 ^ m ≤ 2 ^ b' := Nat.pow_le_pow_right (by decide) g2
              omega
      · rw [pb0 om]
        refine ⟨fun _ => ?_, fun e => absurd rfl e⟩
        have go : ag2 (nI (m + 1), a2) := nextM a2 hf2 hl2 (fun a' b' c' g e e2 => by
          rw [e2] at g
          exact om g.2.2.1)
        refine loopU (A := Unit) 0 (fun l _ => (nI l, a2)) (fun _ _ => True) () rfl trivial ?_
        rintro l _ ag3 _ _ _
        show p_X1_laterOf_F94 b (nI n) (nI t) (nI (2 ^ t)) (nI m) 0 Q ag ag2 ag3 (nI l) a2
        unfold p_X1_laterOf_F94
        rw [show nI m + 1 = nI (m + 1) from nI_add m 1]
        exact ⟨fun _ => go, fun _ => ⟨fun _ => go, fun e => absurd rfl e⟩⟩
    · have n1 := eqi (b := 1) (by omega) (by decide) n1
      have e11 : 2 ^ t = W3 t t t := (W3_1 t).symm
      have exitM : ∀ a1 : mM, fr M a1 (b + 22) (b + 23) → HL a1 b s hem → aC s hem (W3 t t t) = 0 → Loop (fun ag' s' => p_X1_laterOf_F39 b (nI n) (nI t) (nI (2 ^ t)) Q ag ag' s'.1 s'.2) (0, a1) := by
        intro a1 f1 l1 z
        have go : ag (nI (t + 1), a1) := nextT a1 f1 l1 (fun a' b' c' g e => by
          obtain ⟨k1, k2⟩ := g.1.1 n1
          rw [k2, k1, e] at g
          exact g.2.2.2.2 z)
        refine loopU (A := Unit) 0 (fun l _ => (nI l, a1)) (fun _ _ => True) () rfl trivial ?_
        rintro l _ ag2 _ _ _
        show p_X1_laterOf_F39 b (nI n) (nI t) (nI (2 ^ t)) Q ag ag2 (nI l) a1
        unfold p_X1_laterOf_F39
        rw [show nI t + 1 = nI (t + 1) from nI_add t 1]
        exact ⟨fun _ => go, fun _ => ⟨fun _ => go, fun _ => ⟨fun _ => go, fun e => absurd (by rw [n1]; decide) e⟩⟩⟩
      refine sp_canBe w b20 hl (fun M8 f8 l8 s8 => ⟨fun z => exitM M8 (hf.tr f8) l8 (by rw [← e11]; exact bo_z z), fun z => ?_⟩)
      have z := bo_nz z
      have := h M8 (hf.tr f8) l8
      rw [lv_gw hn hn3 (a := t) (b := t) (c := t) ⟨⟨fun _ => ⟨rfl, rfl⟩, fun e => by omega, fun e => by omega⟩, ot, ot, ot, by rw [← e11]; exact z⟩ (fun a' b' c' g => ?_), ← e11] at this
      · exact this
      · have g1 := hg a' b' c' g
        obtain ⟨k1, k2⟩ := g.1.1 n1
        rw [k2, k1, W3_1, W3_1]
        exact Nat.pow_le_pow_right (by decide) g1
  · rw [ob0 ot]
    refine ⟨fun _ => ?_, fun e => absurd rfl e⟩
    have go : ag (nI (t + 1), a) := nextT a hf hl (fun a' b' c' g e => by
      rw [e] at g
      exact ot g.2.1)
    refine loopU (A := Unit) 0 (fun l _ => (nI l, a)) (fun _ _ => True) () rfl trivial ?_
    rintro l _ ag2 _ _ _
    show p_X1_laterOf_F39 b (nI n) (nI t) 0 Q ag ag2 (nI l) a
    unfold p_X1_laterOf_F39
    rw [show nI t + 1 = nI (t + 1) from nI_add t 1]
    exact ⟨fun _ => go, fun _ => ⟨fun _ => go, fun e => absurd rfl e⟩⟩
theorem lvN_lt {s c : Nat → Nat} (w : WF s c) (hem n : Nat) : lvN s hem n < 1048576 := by
  unfold lvN
  by_cases h : ∃ W, LV s hem n W
  · rw [dif_pos h]
    obtain ⟨⟨a, b, c, g, e⟩, _⟩ := Classical.choose_spec h
    rw [e]
    exact W3_lt (ow_20 w g.2.2.1) (ow_20 w g.2.2.2.1) (ow_20 w g.2.2.2.2.1)
  · rw [dif_neg h]; decide
theorem sp_fewestLater {b hem : Nat} {s c : Nat → Nat} {M : mM} {Q : Int32 → mM → Prop} (w : WF s c) (hL : HL M b s hem) (h : ∀ M', fr M M' (b + 22) (b + 23) → Q (laterV s hem) M') : p_X1_fewestLater b M Q := by
  refine sp_canBe (wo := 0) w (by decide) hL (fun M1 f1 l1 s1 => ?_)
  rw [aC_A]
  refine ⟨fun z => ?_, fun z => ?_⟩
  · have z := bo_z z
    refine loopU (A := mM) 3 (fun i a => (nI (i + 1), a)) (fun i a => fr M a (b + 22) (b + 23) ∧ HL a b s hem ∧ ∀ j, 1 ≤ j → j < i + 1 → lvN s hem j = 0) M1 rfl ⟨f1, l1, fun j h1 h2 => absurd h1 (by omega)⟩ ?_
    rintro i a ag hi ⟨hf, hl, hg⟩ hag
    show p_X1_fewestLater_F12 b Q ag (nI (i + 1)) a
    unfold p_X1_fewestLater_F12
    refine ⟨fun q => ?_, fun q => ?_⟩
    · have q := lti (a := 3) (by decide) (by omega) q
      have := h a hf
      rw [later_0 z (fun j h1 h2 => hg j h1 (by omega))] at this
      exact this
    · have q := nlti (a := 3) (by decide) (by omega) q
      refine sp_laterOf w hl (by omega) (by omega) (fun M3 f3 l3 => ?_)
      have ll := lvN_lt w hem (i + 1)
      rw [show nI (i + 1) + 1 = nI (i + 1 + 1) from nI_add _ 1]
      refine ⟨fun y => hag (by omega) M3 ⟨hf.tr f3, l3, fun j h1 h2 => ?_⟩, fun y => ?_⟩
      · by_cases x : j = i + 1
        · rw [x]; exact eqi (b := 0) (by omega) (by decide) y
        · exact hg j h1 (by omega)
      · have y : lvN s hem (i + 1) ≠ 0 := fun e => y (by rw [e]; rfl)
        have := h M3 (hf.tr f3)
        rw [later_n z (by omega) (by omega) (fun j h1 h2 => hg j h1 h2) y] at this
        exact this
  · have z := bo_nz z
    have := h M1 f1
    rw [show laterV s hem = 0 from if_pos z] at this
    exact this
