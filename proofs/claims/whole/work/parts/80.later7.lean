/-! the fewest later traces: the row, and both -/
def pop : Nat → Nat → Nat
  | 0, _ => 0
  | n + 1, v => v % 2 + pop n (v / 2)
theorem pop_0 : ∀ n, pop n 0 = 0
  | 0 => rfl
  | n + 1 => by
    show 0 % 2 + pop n (0 / 2) = 0
    rw [Nat.zero_div, pop_0 n]
theorem pop_W : ∀ a, a < 20 → ∀ b, b ≤ a → ∀ c, c ≤ b → pop 20 (W3 a b c) = dc a b c := by
  have h : ∀ a, a < 20 → ∀ b, b < a + 1 → ∀ c, c < b + 1 → pop 20 (W3 a b c) = dc a b c := by decide +kernel
  exact fun a ha b hb c hc => h a ha b (by omega) c (by omega)
theorem sp7_sizeOf {v : Nat} {M : mM} {Q : Int32 → Prop} (hv : v < 1048576) (h : Q (nI (pop 20 v))) : p_X7_sizeOf (nI v) M Q := by
  refine loopU (A := Nat × Nat) 20 (fun i x => (nI x.1, nI x.2)) (fun i x => x.1 + pop (20 - i) x.2 = pop 20 v ∧ x.2 < 2 ^ (20 - i) ∧ x.1 ≤ i) (0, v) rfl ⟨Nat.zero_add _, hv, Nat.le_refl _⟩ ?_
  rintro i ⟨k, u⟩ ag hi ⟨h1, h2, h3⟩ hag
  have h1 : k + pop (20 - i) u = pop 20 v := h1
  have h2 : u < 2 ^ (20 - i) := h2
  have h3 : k ≤ i := h3
  have u20 : u < 1048576 := Nat.lt_of_lt_of_le h2 (show 2 ^ (20 - i) ≤ 2 ^ 20 from Nat.pow_le_pow_right (by decide) (by omega))
  show p_X7_sizeOf_F4 (nI v) M Q ag (nI k) (nI u)
  unfold p_X7_sizeOf_F4
  refine ⟨fun q => ?_, fun q => ?_⟩
  · have q := lei (b := 0) (by omega) (by decide) q
    have : u = 0 := by omega
    subst this
    rw [pop_0, Nat.add_zero] at h1
    rw [h1]; exact h
  · have q := nlei (b := 0) (by omega) (by decide) q
    have i20 : i < 20 := by
      rcases Nat.lt_or_ge i 20 with z | z
      · exact z
      · rw [show 20 - i = 0 by omega] at h2
        have : (2 : Nat) ^ 0 = 1 := rfl
        omega
    obtain ⟨j, hj⟩ : ∃ j, 20 - i = j + 1 := ⟨19 - i, by omega⟩
    rw [nI_and1 (by omega), nI_add, show nI u >>> ((1 : Int32) &&& 31) = nI (u / 2) from pk_shrN (by omega) _ 1 (by decide)]
    refine hag i20 (k + u % 2, u / 2) ⟨?_, ?_, ?_⟩
    · show k + u % 2 + pop (20 - (i + 1)) (u / 2) = pop 20 v
      rw [← h1, hj, show 20 - (i + 1) = j by omega]
      show _ = k + (u % 2 + pop j (u / 2))
      omega
    · show u / 2 < 2 ^ (20 - (i + 1))
      rw [hj, Nat.pow_succ] at h2
      rw [show 20 - (i + 1) = j by omega]
      omega
    · show k + u % 2 ≤ i + 1
      omega
theorem sp7_tracesOf {m hem : Nat} {s c : Nat → Nat} {M : mM} {Q : Int32 → Prop} (hs : BK M m s c) (w : WF s c) (hh : hem < 6) (h : ∀ B, B < 1048576 → (∀ t, B.testBit t = true ↔ ow s hem t) → Q (nI B)) : p_X7_tracesOf m (nI hem) M Q := by
  have w1 := w.2.1
  refine loopU (A := Nat) (s 1) (fun t B => (nI B, nI t)) (fun t B => B < 1048576 ∧ ∀ u, B.testBit u = true ↔ u < t ∧ ow s hem u) 0 rfl ⟨by decide, fun u => ⟨fun q => absurd q (by rw [Nat.zero_testBit]; decide), fun q => absurd q.1 (Nat.not_lt_zero _)⟩⟩ ?_
  rintro t B ag ht ⟨hB, hb⟩ hag
  show p_X7_tracesOf_F4 m (nI hem) M Q ag (nI B) (nI t)
  unfold p_X7_tracesOf_F4
  rw [show M.1 (m + 1) (1 : Int32).toNatClampNeg = nI (s 1) from hs.1 1 (by decide)]
  refine ⟨fun q => ?_, fun q => ?_⟩
  · have q := lei (by omega) (by omega) q
    have : t = s 1 := by omega
    subst this
    exact h B hB (fun u => ⟨fun y => ((hb u).mp y).2, fun y => (hb u).mpr ⟨y.1, y⟩⟩)
  · have q := nlei (by omega) (by omega) q
    obtain ⟨v1, v2, v3, v4, v5, v6, v7, v8⟩ := w.tr t q
    rw [show nI t + 1 = nI (t + 1) from nI_add t 1]
    have no : ¬ ow s hem t → ag (nI B ||| 0, nI (t + 1)) := fun n => by
      rw [show nI B ||| (0 : Int32) = nI B from by rw [show (0 : Int32) = nI 0 from rfl, nI_or, Nat.or_zero]]
      refine hag q B ⟨hB, fun u => ⟨fun y => ?_, fun y => ?_⟩⟩
      · have := (hb u).mp y
        exact ⟨by omega, this.2⟩
      · refine (hb u).mpr ⟨?_, y.2⟩
        have : u ≠ t := fun e => n (by rw [← e]; exact y.2)
        omega
    refine sp7_oT0 hs w q ?_
    rw [show nI (s (60 + 4 * t)) / 8 = nI (s (60 + 4 * t) / 8) from pk_div (d := 8) (by omega) (by decide) (by decide)]
    refine ⟨fun z => no (fun r => z (by rw [r.2.2])), fun z => sp7_oT3 hs w q ⟨fun y => no (fun r => y (by rw [r.2.1]; rfl)), fun y => ?_⟩⟩
    rintro x3 rfl
    have z := eqi (by omega) (by omega) z
    have y := eqi (b := 0) (by omega) (by decide) y
    rw [e_sh1b t (by omega), nI_or]
    refine hag q (B ||| 2 ^ t) ⟨or_lt20 hB (by omega), fun u => ?_⟩
    rw [tb_or, hb u]
    constructor
    · rintro (⟨a, r⟩ | rfl)
      · exact ⟨by omega, r⟩
      · exact ⟨by omega, q, y, z⟩
    · rintro ⟨a, r⟩
      rcases Nat.lt_or_ge u t with x | x
      · exact Or.inl ⟨x, r⟩
      · exact Or.inr (by omega)
/-- what was found among those that were seen -/
def lI (s : Nat → Nat) (hem n : Nat) (V : Nat → Nat → Nat → Prop) (L y : Int32) : Prop := (y = 0 ∧ ∀ a b c, V a b c → ¬ GD s hem n a b c) ∨ (y = 1 ∧ ∃ W, W < 1048576 ∧ L = nI W ∧ (∃ a b c, GD s hem n a b c ∧ W = W3 a b c) ∧ ∀ a b c, V a b c → GD s hem n a b c → W ≤ W3 a b c)
theorem lI.wk {s : Nat → Nat} {hem n : Nat} {V V' : Nat → Nat → Nat → Prop} {L y : Int32} (h : lI s hem n V L y) (k : ∀ a b c, GD s hem n a b c → V' a b c → V a b c) : lI s hem n V' L y := by
  rcases h with ⟨h1, h2⟩ | ⟨h1, W, h2, h3, h4, h5⟩
  · exact Or.inl ⟨h1, fun a b c v g => h2 a b c (k a b c g v) g⟩
  · exact Or.inr ⟨h1, W, h2, h3, h4, fun a b c v g => h5 a b c (k a b c g v) g⟩
theorem sp7_laterN {m hem n B : Nat} {p1 : Int32} {s c : Nat → Nat} {M : mM} {Q : Int32 → mM → Prop} {ag : (Int32 × mM) → Prop} (hs : BK M m s c) (w : WF s c) (hh : hem < 6) (hp : p1 = nI hem) (hn : 1 ≤ n) (hn3 : n ≤ 3) (hB : B < 1048576) (hb : ∀ t, B.testBit t = true ↔ ow s hem t) (h1 : lvN s hem n ≠ 0 → ∀ M', fq M M' (cnS m) → Q (nI (lvN s hem n)) M') (h0 : lvN s hem n = 0 → ∀ M', fq M M' (cnS m) → ag (nI (n + 1), M')) : Loop (fun ag' t => p_X7_later_F52 m p1 (nI B) (nI n) Q ag ag' t.1 t.2.1 t.2.2.1 t.2.2.2) (1000000, 0, 0, M) := by
  have w1 := w.2.1
  subst hp
  refine loopU (A := Int32 × Int32 × mM) (s 1) (fun a x => (x.1, x.2.1, nI a, x.2.2)) (fun a x => fq M x.2.2 (cnS m) ∧ lI s hem n (fun a' b' c' => a' < a) x.1 x.2.1) (1000000, 0, M) rfl ⟨fq.rf, Or.inl ⟨rfl, fun a b c v => absurd v (Nat.not_lt_zero _)⟩⟩ ?_
  rintro a ⟨L, y, N⟩ ag2 ha ⟨hf, hl⟩ hag2
  have hf : fq M N (cnS m) := hf
  have hl : lI s hem n (fun a' b' c' => a' < a) L y := hl
  have hsN := BK_fq hs hf
  show p_X7_later_F52 m (nI hem) (nI B) (nI n) Q ag ag2 L y (nI a) N
  unfold p_X7_later_F52
  rw [show N.1 (m + 1) (1 : Int32).toNatClampNeg = nI (s 1) from hsN.1 1 (by decide)]
  refine ⟨fun q => ?_, fun q => ?_⟩
  · have q := lei (by omega) (by omega) q
    rw [show nI n + 1 = nI (n + 1) from nI_add n 1]
    rcases hl with ⟨rfl, h2⟩ | ⟨rfl, W, h2, rfl, h4, h5⟩
    · refine ⟨fun _ => h0 (lv_0 (fun a' b' c' g => h2 a' b' c' ?_ g)) N hf, fun e => absurd rfl e⟩
      have := g.2.2.1.1
      show a' < a
      omega
    · have lv : lvN s hem n = W := lv_eq ⟨h4, fun a' b' c' g => h5 a' b' c' (by have := g.2.2.1.1; show a' < a; omega) g⟩
      have W0 : W ≠ 0 := by
        obtain ⟨a', b', c', _, e⟩ := h4
        have := W3_ps a' b' c'
        omega
      refine ⟨fun e => absurd e (by decide), fun _ => ?_⟩
      have := h1 (by rw [lv]; exact W0) N hf
      rw [lv] at this
      exact this
  have q := nlei (by omega) (by omega) q
  refine loopU (A := Int32 × Int32 × mM) (a + 1) (fun b x => (x.1, x.2.1, nI b, x.2.2)) (fun b x => fq M x.2.2 (cnS m) ∧ lI s hem n (fun a' b' c' => a' < a ∨ (a' = a ∧ b' < b)) x.1 x.2.1) (L, y, N) rfl ⟨hf, hl.wk (fun a' b' c' _ v => v.elim id (fun r => absurd r.2 (Nat.not_lt_zero _)))⟩ ?_
  clear hl hsN hf
  rintro b ⟨L, y, N⟩ ag3 hb3 ⟨hf, hl⟩ hag3
  have hf : fq M N (cnS m) := hf
  have hl : lI s hem n (fun a' b' c' => a' < a ∨ (a' = a ∧ b' < b)) L y := hl
  show p_X7_later_F66 m (nI hem) (nI B) (nI n) (nI a) Q ag ag2 ag3 L y (nI b) N
  unfold p_X7_later_F66
  refine ⟨fun q3 => ?_, fun q3 => ?_⟩
  · have q3 := lti (by omega) (by omega) q3
    rw [show nI a + 1 = nI (a + 1) from nI_add a 1]
    refine hag2 q (L, y, N) ⟨hf, hl.wk (fun a' b' c' g v => ?_)⟩
    have v : a' < a + 1 := v
    have := g.2.1
    omega
  have q3 := nlti (by omega) (by omega) q3
  refine loopU (A := Int32 × Int32 × mM) (b + 1) (fun c x => (x.1, x.2.1, nI c, x.2.2)) (fun c x => fq M x.2.2 (cnS m) ∧ lI s hem n (fun a' b' c' => a' < a ∨ (a' = a ∧ (b' < b ∨ (b' = b ∧ c' < c)))) x.1 x.2.1) (L, y, N) rfl ⟨hf, hl.wk (fun a' b' c' _ v => v.elim Or.inl (fun r => Or.inr ⟨r.1, r.2.elim id (fun z => absurd z.2 (Nat.not_lt_zero _))⟩))⟩ ?_
  clear hl hf
  rintro k ⟨L, y, N⟩ ag4 hk ⟨hf, hl⟩ hag4
  have hf : fq M N (cnS m) := hf
  have hl : lI s hem n (fun a' b' c' => a' < a ∨ (a' = a ∧ (b' < b ∨ (b' = b ∧ c' < k)))) L y := hl
  have hsN := BK_fq hs hf
  show p_X7_later_F76 m (nI hem) (nI B) (nI n) (nI a) (nI b) Q ag ag2 ag3 ag4 L y (nI k) N
  unfold p_X7_later_F76
  refine ⟨fun q4 => ?_, fun q4 => ?_⟩
  · have q4 := lti (by omega) (by omega) q4
    rw [show nI b + 1 = nI (b + 1) from nI_add b 1]
    refine hag3 (by omega) (L, y, N) ⟨hf, hl.wk (fun a' b' c' g v => ?_)⟩
    have v : a' < a ∨ (a' = a ∧ b' < b + 1) := v
    have := g.1
    omega
  have q4 := nlti (by omega) (by omega) q4
  rintro x5 rfl
  rw [e_sh1b a (by omega), e_sh1b b (by omega), e_sh1b k (by omega), nI_or, nI_or, show (2 ^ a ||| 2 ^ b) ||| 2 ^ k = W3 a b k from rfl]
  have Wl := W3_lt (a := a) (b := b) (c := k) (by omega) (by omega) (by omega)
  refine sp7_sizeOf Wl ?_
  rw [pop_W a (by omega) b (by omega) k (by omega)]
  have dl : dc a b k ≤ 3 := by unfold dc; split <;> split <;> omega
  -- this one is not to be taken
  have skip : ∀ N', fq M N' (cnS m) → (GD s hem n a b k → ∃ W, y = 1 ∧ L = nI W ∧ W ≤ W3 a b k) → ag4 (L, y, nI k + 1, N') := by
    intro N' f' ng
    rw [show nI k + 1 = nI (k + 1) from nI_add k 1]
    refine hag4 (by omega) (L, y, N') ⟨f', ?_⟩
    rcases hl with ⟨e1, h2⟩ | ⟨e1, W, h2, h3, h4, h5⟩
    · refine Or.inl ⟨e1, fun a' b' c' v g => ?_⟩
      have v : a' < a ∨ (a' = a ∧ (b' < b ∨ (b' = b ∧ c' < k + 1))) := v
      by_cases z : a' = a ∧ b' = b ∧ c' = k
      · obtain ⟨rfl, rfl, rfl⟩ := z
        obtain ⟨_, y1, _⟩ := ng g
        rw [e1] at y1
        exact absurd y1 (by decide)
      · exact h2 a' b' c' (by show _ ∨ _; omega) g
    · refine Or.inr ⟨e1, W, h2, h3, h4, fun a' b' c' v g => ?_⟩
      have v : a' < a ∨ (a' = a ∧ (b' < b ∨ (b' = b ∧ c' < k + 1))) := v
      by_cases z : a' = a ∧ b' = b ∧ c' = k
      · obtain ⟨rfl, rfl, rfl⟩ := z
        obtain ⟨W', _, e2, e3⟩ := ng g
        rw [h3] at e2
        have e2 : W = W' := eqi (by omega) (by omega) e2
        omega
      · exact h5 a' b' c' (by show _ ∨ _; omega) g
  have J133 : (GD s hem n a b k → ∃ W, y = 1 ∧ L = nI W ∧ W ≤ W3 a b k) → p_X7_later_J133 m (nI hem) Q ag ag2 ag3 ag4 (nI B) (nI n) L y (nI a) (nI b) (nI k) (nI (W3 a b k)) N := fun ng => ⟨fun _ => skip N hf ng, fun e => absurd rfl e⟩
  have J129 : ow s hem a → ow s hem b → ow s hem k → dc a b k = n → (y = 0 ∨ ∃ W, W < 1048576 ∧ y = 1 ∧ L = nI W ∧ W3 a b k < W) → p_X7_later_J129 m (nI hem) Q ag ag2 ag3 ag4 (nI B) (nI n) L y (nI a) (nI b) (nI k) (nI (W3 a b k)) N := by
    intro oa ob ok dn hy
    refine ⟨fun e => absurd e (by decide), fun _ => sp7_can hsN w hh Wl (fun M7 f7 => ⟨fun z => skip M7 (hf.tr f7) (fun g => absurd (bo_z z) g.2.2.2.2.2.2), fun z => ?_⟩)⟩
    have z := bo_nz z
    have gg : GD s hem n a b k := ⟨by omega, by omega, oa, ob, ok, dn, z⟩
    rw [show nI k + 1 = nI (k + 1) from nI_add k 1]
    refine hag4 (by omega) (nI (W3 a b k), 1, M7) ⟨hf.tr f7, Or.inr ⟨rfl, W3 a b k, Wl, rfl, ⟨a, b, k, gg, rfl⟩, fun a' b' c' v g => ?_⟩⟩
    have v : a' < a ∨ (a' = a ∧ (b' < b ∨ (b' = b ∧ c' < k + 1))) := v
    by_cases x : a' = a ∧ b' = b ∧ c' = k
    · obtain ⟨rfl, rfl, rfl⟩ := x
      exact Nat.le_refl _
    · have v' : a' < a ∨ (a' = a ∧ (b' < b ∨ (b' = b ∧ c' < k))) := by omega
      rcases hl with ⟨e1, h2⟩ | ⟨e1, W, h2, h3, h4, h5⟩
      · exact absurd g (h2 a' b' c' v')
      · have := h5 a' b' c' v' g
        rcases hy with y0 | ⟨W', w', _, e2, e3⟩
        · rw [e1] at y0; exact absurd y0 (by decide)
        · rw [h3] at e2
          have e2 : W = W' := eqi (by omega) (by omega) e2
          omega
  refine ⟨fun z => J133 (fun g => absurd (by rw [g.2.2.2.2.2.1]) z), fun z => ?_⟩
  have z : dc a b k = n := eqi (by omega) (by omega) z
  rw [nI_mask (by omega)]
  refine ⟨fun x => J133 (fun g => absurd (fun t ht => ?_) x), fun x => ?_⟩
  · rw [hb]
    rcases W3_tb.mp ht with e | e | e
    · rw [e]; exact g.2.2.1
    · rw [e]; exact g.2.2.2.1
    · rw [e]; exact g.2.2.2.2.1
  have oa := (hb a).mp (x a (W3_tb.mpr (Or.inl rfl)))
  have ob := (hb b).mp (x b (W3_tb.mpr (Or.inr (Or.inl rfl))))
  have ok := (hb k).mp (x k (W3_tb.mpr (Or.inr (Or.inr rfl))))
  refine ⟨fun y0 => J129 oa ob ok z (Or.inl y0), fun y0 => ?_⟩
  rcases hl with ⟨e1, h2⟩ | ⟨e1, W, h2, h3, h4, h5⟩
  · exact absurd e1 y0
  · rw [h3] at J133 J129 ⊢
    refine ⟨fun le => J133 (fun _ => ⟨W, e1, rfl, lei (by omega) (by omega) le⟩), fun le => J129 oa ob ok z (Or.inr ⟨W, h2, e1, rfl, nlei (by omega) (by omega) le⟩)⟩
noncomputable def F_later (x : Int32) (S : zS) : Int32 × zS := pqI (iB x 0 5) (laterV (zs S) (vN x), S) (-2, zRf S 0)
theorem MR_fq {M M' : mM} {m : Nat} {S : zS} (h : MR M m S) (f : fq M M' (cnS m)) : MR M' m S := MR_fB (Z := noZ) h (fB_q f) id id (BK_fq h.1 f)
theorem cnS_fr {M M' : mM} {m : Nat} (f : fq M M' (cnS m)) : fr M M' m (m + 15) := f.fr (fun k q => by unfold cnS lkS at q; omega)
theorem bo_later {g m : Nat} {S : zS} (x : Int32) : BO g m S (F_later x S) (fun M Q => p_X6_later g x M Q) (fun M Q => p_X7_later m x M Q) := by
  intro hS
  have w := hS.1
  unfold F_later
  by_cases ok : iB x 0 5
  · rw [pqI_t ok]
    obtain ⟨u1, _, v1⟩ := iB_v (by decide) ok
    refine ⟨hS, fun M Q hC h => ?_, fun M Q hM h => ?_⟩
    · show p_X6_later g x M Q
      unfold p_X6_later
      refine sp_isHemX (fun _ => ⟨fun _ => ?_, fun e => absurd e (by decide)⟩) (fun q => absurd ok q)
      clear ok
      generalize vN x = hem at *
      subst u1
      exact sp_lookR hS hC (by omega) (fun M1 f1 c1 we hl hs => sp_fewestLater w hl (fun M2 f2 => h M2 (f1.tr (f2.wd (by omega) (by omega))) (CR_fr c1 f2 (by omega))))
    · show p_X7_later m x M Q
      unfold p_X7_later
      refine sp7_inI (lo := 0) (hi := 5) (by decide) (by decide) (fun _ => ⟨fun _ => ?_, fun e => absurd e (by decide)⟩) (fun q => absurd ok q)
      clear ok
      generalize vN x = hem at *
      subst u1
      refine sp7_can (wo := 0) hM.1 w (by omega) (by decide) (fun M2 f2 => ?_)
      rw [aC_A]
      have c2 := MR_fq hM f2
      refine ⟨fun z => ?_, fun z => ?_⟩
      · have z := bo_z z
        refine sp7_tracesOf c2.1 w (by omega) (fun B hB hb => ?_)
        refine loopU (A := mM) 3 (fun i a => (nI (i + 1), a)) (fun i a => fq M a (cnS m) ∧ ∀ j, 1 ≤ j → j < i + 1 → lvN (zs S) hem j = 0) M2 rfl ⟨f2, fun j h1 h2 => absurd h1 (by omega)⟩ ?_
        rintro i a ag hi ⟨hf, hg⟩ hag
        show p_X7_later_F36 m (nI hem) (nI B) Q ag (nI (i + 1)) a
        unfold p_X7_later_F36
        refine ⟨fun q => ?_, fun q => ?_⟩
        · have q := lei (a := 4) (by decide) (by omega) q
          have := h a (cnS_fr hf) (MR_fq hM hf)
          rw [later_0 z (fun j h1 h2 => hg j h1 (by omega))] at this
          exact this
        · have q := nlei (a := 4) (by decide) (by omega) q
          refine sp7_laterN (BK_fq hM.1 hf) w (by omega) rfl (by omega) (by omega) hB hb (fun nz M' f' => ?_) (fun ez M' f' => hag (by omega) M' ⟨hf.tr f', fun j h1 h2 => ?_⟩)
          · have := h M' (cnS_fr (hf.tr f')) (MR_fq hM (hf.tr f'))
            rw [later_n z (by omega) (by omega) (fun j h1 h2 => hg j h1 h2) nz] at this
            exact this
          · by_cases x : j = i + 1
            · rw [x]; exact ez
            · exact hg j h1 (by omega)
      · have z := bo_nz z
        have := h M2 (cnS_fr f2) c2
        rw [show laterV (zs S) hem = 0 from if_pos z] at this
        exact this
  · rw [pqI_f ok]
    refine ⟨SW_rf hS, fun M Q hC h => ?_, fun M Q hM h => ?_⟩
    · exact sp_isHemX (fun a => absurd a ok) (fun _ => ⟨fun e => absurd rfl e, fun _ => sp_told (r := -2) hC h⟩)
    · exact sp7_inI (lo := 0) (hi := 5) (by decide) (by decide) (fun a => absurd a ok) (fun _ => ⟨fun e => absurd rfl e, fun _ => sp7_badR hM h⟩)
