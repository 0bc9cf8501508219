/-! the row reads all items, and tells one in silence -/
theorem sp7_numbers {wd : Nat} {M : mM} {Q : Int32 → Prop} (h : wd < 14) (q : Q (nI (nmb wd))) : p_X7_numbers (nI (mC wd)) M Q := by
  have mb := mC_b wd h
  have e : ∀ c d : Nat, c < 1000 → (∀ k, k < 14 → mC k = c → nmb k = d) → nI (mC wd) = nI c → Q (nI d) := fun c d hc hd y => by
    rw [← hd wd h (eqi (by omega) (by omega) y)]
    exact q
  refine ⟨e 16 1 (by decide) (by decide), e 17 2 (by decide) (by decide), e 18 2 (by decide) (by decide), e 19 2 (by decide) (by decide), e 20 4 (by decide) (by decide), e 21 2 (by decide) (by decide), e 22 1 (by decide) (by decide), e 23 1 (by decide) (by decide), e 24 1 (by decide) (by decide), fun n1 _ _ _ n5 _ n7 n8 n9 => ?_⟩
  have nn : ∀ c : Nat, ¬ nI (mC wd) = nI c → mC wd ≠ c := fun c y z => y (by rw [z])
  have a1 := nn 16 n1
  have a5 := nn 20 n5
  have a7 := nn 22 n7
  have a8 := nn 23 n8
  have a9 := nn 24 n9
  have : ∀ k, k < 14 → (mC k ≠ 16 ∧ mC k ≠ 20 ∧ mC k ≠ 22 ∧ mC k ≠ 23 ∧ mC k ≠ 24) → nmb k = 2 := by decide
  rw [this wd h ⟨a1, a5, a7, a8, a9⟩] at q
  exact q
/-- the reader's frame -/
def fG (M M' : mM) (m : Nat) : Prop := (∀ k, k ≠ m → k ≠ m + 9 → k ≠ m + 10 → M'.1 k = M.1 k) ∧ M'.2 = M.2 ∧ ∀ j, j < 10 ∨ 17 ≤ j → M'.1 m j = M.1 m j
theorem fG.rf {M : mM} {m : Nat} : fG M M m := ⟨fun _ _ _ _ => rfl, rfl, fun _ _ => rfl⟩
theorem fG.tr {M M1 M2 : mM} {m : Nat} (h : fG M M1 m) (k : fG M1 M2 m) : fG M M2 m := ⟨fun q a b c => (k.1 q a b c).trans (h.1 q a b c), k.2.1.trans h.2.1, fun j a => (k.2.2 j a).trans (h.2.2 j a)⟩
theorem fG_E {M M' : mM} {m : Nat} (h : fE M M' m) : fG M M' m := ⟨fun k a _ _ => h.1 k a, h.2.1, fun j a => h.2.2 j (by omega)⟩
theorem fG.st {M M1 : mM} {m j : Nat} {x : Int32} (h : fG M M1 m) (hj : 10 ≤ j ∧ j < 17) : fG M (mI M1 m (upd (M1.1 m) j x)) m := ⟨fun q a b c => (mI_n a).trans (h.1 q a b c), h.2.1, fun i a => by rw [mI_s, updN (by omega)]; exact h.2.2 i a⟩
theorem fG.wr {M M1 : mM} {m k : Nat} {f : Nat → Int32} (h : fG M M1 m) (hk : k = m + 9 ∨ k = m + 10) : fG M (mI M1 k f) m := ⟨fun q a b c => (mI_n (by omega)).trans (h.1 q a b c), h.2.1, fun j a => by rw [mI_o (by omega)]; exact h.2.2 j a⟩
theorem rTx.G {M M' : mM} {m : Nat} {t : zT} (h : rTx M m t) (f : fG M M' m) : rTx M' m t := ⟨by rw [f.2.2 9 (by omega)]; exact h.1, fun j hj => by rw [f.1 _ (by omega) (by omega) (by omega)]; exact h.2 j hj⟩
/-- the items below n lie in the row's cells -/
def itS (M : mM) (m : Nat) (t : zT) (n : Nat) : Prop := ∀ i, i < n → M.1 (m + 9) i = nI (mC (wdI t i)) ∧ ∀ j, j < nmb (wdI t i) → M.1 (m + 10) (4 * i + j) = nI (nmI t i j)
theorem itS.ag {M M' : mM} {m n : Nat} {t : zT} (h : itS M m t n) (e9 : M'.1 (m + 9) = M.1 (m + 9)) (e10 : M'.1 (m + 10) = M.1 (m + 10)) : itS M' m t n := fun i hi => ⟨by rw [e9]; exact (h i hi).1, fun j hj => by rw [e10]; exact (h i hi).2 j hj⟩
theorem itS.E {M M' : mM} {m n : Nat} {t : zT} (h : itS M m t n) (f : fE M M' m) : itS M' m t n := h.ag (f.1 _ (by omega)) (f.1 _ (by omega))
theorem stp_b {t : zT} {i : Nat} (nb : ∀ j, j < i → ¬ stp t j) : ∀ j, j < i → wdI t j < 14 := fun j hj => by
  have ok : itOK t (ip t j) := by
    by_cases z : itOK t (ip t j)
    · exact z
    · exact absurd (Or.inr z) (nb j hj)
  refine tVl_w ?_
  by_cases y : tKd t (ip t j) = 1
  · exact y
  · exact absurd (Or.inl ⟨rfl, y⟩) (ok 0 (by omega))
theorem sp7_reads {m : Nat} {t : zT} {M : mM} {Q : Int32 → mM → Prop} (hx : rTx M m t) (hg : tG t) (h1 : tKd t (ip t (itN t)) = 0 → (∀ j, j < itN t → ¬ stp t j) → ∀ M', fG M M' m → M'.1 m 16 = nI (itN t) → itS M' m t (itN t) → Q 1 M') (h0 : ¬ tKd t (ip t (itN t)) = 0 → ∀ M', fG M M' m → M'.1 m 11 = nI (fpos t (ip t (itN t))) → Q 0 M') : p_X7_reads m M Q := by
  have g1 := hg.1
  intro M1 e1 M2 e2
  have F1 : fG M M1 m := by rw [e1]; exact fG.rf.st (by decide)
  have F2 : fG M M2 m := by rw [e2]; exact F1.st (by decide)
  have m10 : M2.1 m 10 = nI 0 := by rw [e2, mI_s, updN (by decide), e1, mI_s, updS]; rfl
  have m16 : M2.1 m 16 = nI 0 := by rw [e2, mI_s, updS]; rfl
  clear e1 e2
  refine sp7_scans (hx.G F2) hg (Nat.zero_le _) m10 (fun M3 f3 c3 => ?_)
  refine loopU (A := mM) 150 (fun i a => a) (fun i a => fG M a m ∧ MK a m t (ip t i) ∧ (∀ j, j < i → ¬ stp t j) ∧ a.1 m 16 = nI i ∧ itS a m t i) M3 rfl ⟨F2.tr (fG_E f3), c3, fun j hj => absurd hj (Nat.not_lt_zero _), by rw [f3.2.2 16 (by omega)]; exact m16, fun i hi => absurd hi (Nat.not_lt_zero _)⟩ ?_
  rintro i a ag hi ⟨fa, ca, nb, a16, sa⟩ hag
  show p_X7_reads_F14 m Q ag a
  have pl := ip_le t i
  have kl := tKd_le t (ip t i)
  have xa := hx.G fa
  unfold p_X7_reads_F14
  have hm12 := ca.2.2.1
  have m12b : tKd t (ip t i) = 1 → mT (tKd t (ip t i)) (tVl t (ip t i)) = mC (wdI t i) ∧ wdI t i < 14 := fun e => ⟨by rw [e]; rfl, tVl_w e⟩
  have m12n : tKd t (ip t i) ≠ 1 → mT (tKd t (ip t i)) (tVl t (ip t i)) < 10 ∧ (mT (tKd t (ip t i)) (tVl t (ip t i)) = 0 → tKd t (ip t i) = 0) := fun e => by
    have : tKd t (ip t i) = 0 ∨ tKd t (ip t i) = 2 ∨ tKd t (ip t i) = 3 ∨ tKd t (ip t i) = 4 := by omega
    rcases this with y | y | y | y
    · rw [y]; exact ⟨(by decide : 0 < 10), fun _ => rfl⟩
    · rw [y]; exact ⟨(by decide : 2 < 10), fun e => absurd (show (2 : Nat) = 0 from e) (by decide)⟩
    · rw [y]; exact ⟨(by decide : 3 < 10), fun e => absurd (show (3 : Nat) = 0 from e) (by decide)⟩
    · rw [y]; exact ⟨(by decide : 1 < 10), fun e => absurd (show (1 : Nat) = 0 from e) (by decide)⟩
  have bad0 : tKd t (ip t i) ≠ 1 → ¬ itOK t (ip t i) ∧ fpos t (ip t i) = tSt t (ip t i) := fun e => by
    have bd : badK t (ip t i) 0 := Or.inl ⟨rfl, e⟩
    exact ⟨fun r => r 0 (by omega) bd, fpos_at (fun j hj => absurd hj (Nat.not_lt_zero _)) bd (by decide)⟩
  rw [hm12]
  refine ⟨fun z => ?_, fun z => ⟨fun y => ?_, fun y => ?_⟩⟩
  · have k0 : tKd t (ip t i) = 0 := by
      by_cases e : tKd t (ip t i) = 1
      · obtain ⟨e1, e2⟩ := m12b e
        rw [e1] at z
        have := mC_b _ e2
        have := eqi (b := 0) (by omega) (by decide) z
        omega
      · obtain ⟨e1, e2⟩ := m12n e
        exact e2 (eqi (b := 0) (by omega) (by decide) z)
    have eN : itN t = i := fstP_at nb (Or.inl k0) (by omega)
    rw [eN] at h1
    exact h1 k0 nb a fa a16 sa
  · have k1 : tKd t (ip t i) = 1 := by
      by_cases e : tKd t (ip t i) = 1
      · exact e
      · obtain ⟨e1, e2⟩ := m12n e
        have := lei (a := 10) (by decide) (by omega) y
        omega
    obtain ⟨e1, w14⟩ := m12b k1
    rw [e1]
    obtain ⟨n1, n4⟩ := nmb_b _ w14
    refine sp7_scans xa hg (tEn_b pl).2.1 ca.1 (fun M4 f4 c4 => ?_)
    have a164 : M4.1 m 16 = nI i := by rw [f4.2.2 16 (by omega)]; exact a16
    generalize hw : nmb (wdI t i) = w at *
    refine loopU (A := mM) w (fun k b => (nI k, b)) (fun k b => fG M b m ∧ MK b m t (pos t (ip t i) (k + 1)) ∧ (∀ j, j ≤ k → ¬ badK t (ip t i) j) ∧ b.1 m 16 = nI i ∧ itS b m t i ∧ ∀ j, j < k → b.1 (m + 10) (4 * i + j) = nI (tVl t (pos t (ip t i) (j + 1)))) M4 rfl ⟨fa.tr (fG_E f4), c4, fun j hj => ?_, a164, sa.E f4, fun j hj => absurd hj (Nat.not_lt_zero _)⟩ ?_
    · have : j = 0 := by omega
      subst this
      rintro (⟨_, e⟩ | ⟨e, _⟩ | ⟨e, _⟩)
      · exact e k1
      · omega
      · omega
    rintro k b ag2 hk ⟨fb, cb, nbk, b16, sb, bn⟩ hag2
    show p_X7_reads_F40 m (nI (mC (wdI t i))) Q ag ag2 (nI k) b
    have xb := hx.G fb
    have plk := pos_le pl (k + 1)
    have klk := tKd_le t (pos t (ip t i) (k + 1))
    have b12 := cb.2.2.1
    unfold p_X7_reads_F40
    have fail : badK t (ip t i) (k + 1) → Q 0 b := fun bd => by
      have no : ¬ itOK t (ip t i) := fun r => r (k + 1) (by
        have : nmb (tVl t (ip t i)) = w := hw
        rw [this]; omega) bd
      have eN : itN t = i := fstP_at nb (Or.inr no) (by omega)
      rw [eN] at h0
      refine h0 (by rw [k1]; decide) b fb ?_
      rw [cb.2.1, fpos_at (fun j hj => nbk j (by omega)) bd (by omega)]
    have mTe : ∀ d : Nat, (d = 2 ∨ d = 3) → (nI (mT (tKd t (pos t (ip t i) (k + 1))) (tVl t (pos t (ip t i) (k + 1)))) = nI d ↔ tKd t (pos t (ip t i) (k + 1)) = d) := by
      intro d hd
      have : tKd t (pos t (ip t i) (k + 1)) = 0 ∨ tKd t (pos t (ip t i) (k + 1)) = 1 ∨ tKd t (pos t (ip t i) (k + 1)) = 2 ∨ tKd t (pos t (ip t i) (k + 1)) = 3 ∨ tKd t (pos t (ip t i) (k + 1)) = 4 := by omega
      rcases this with y | y | y | y | y
      · rw [y]
        exact ⟨fun e => by have := eqi (a := 0) (b := d) (by decide) (by omega) e; omega, fun e => by omega⟩
      · have c := mC_b _ (tVl_w y)
        rw [y]
        exact ⟨fun e => by have := eqi (a := mC _) (b := d) (by omega) (by omega) e; omega, fun e => by omega⟩
      · rw [y]
        exact ⟨fun e => by have := eqi (a := 2) (b := d) (by decide) (by omega) e; omega, fun e => by rw [← e]; rfl⟩
      · rw [y]
        exact ⟨fun e => by have := eqi (a := 3) (b := d) (by decide) (by omega) e; omega, fun e => by rw [← e]; rfl⟩
      · rw [y]
        exact ⟨fun e => by have := eqi (a := 1) (b := d) (by decide) (by omega) e; omega, fun e => by omega⟩
    refine sp7_numbers w14 ?_
    rw [hw, b12]
    refine ⟨fun q => ⟨fun v => ⟨by rw [b16]; exact vin (by omega) (by decide), ?_⟩, fun v => fail (Or.inr (Or.inr ⟨?_, fun e => v ((mTe 3 (Or.inr rfl)).mpr e)⟩))⟩, fun q => ⟨fun v => ⟨?_, ?_⟩, fun v => fail (Or.inr (Or.inl ⟨by omega, ?_, fun e => v ((mTe 2 (Or.inl rfl)).mpr e)⟩))⟩⟩
    · have q := lei (by omega) (by omega) q
      have kw : k = w := by omega
      have v := (mTe 3 (Or.inr rfl)).mp v
      have ok : itOK t (ip t i) := by
        intro j hj
        have hj : j ≤ nmb (wdI t i) + 1 := hj
        rcases Nat.lt_or_ge k j with x | x
        · have : j = k + 1 := by omega
          subst this
          rintro (⟨e, _⟩ | ⟨_, e, _⟩ | ⟨_, e⟩)
          · omega
          · have e : k + 1 ≤ nmb (wdI t i) := e
            omega
          · exact e v
        · exact nbk j x
      have nb' : ∀ j, j < i + 1 → ¬ stp t j := fun j hj => by
        rcases Nat.lt_or_ge j i with x | x
        · exact nb j x
        · have : j = i := by omega
          subst this
          rintro (e | e)
          · rw [k1] at e; exact absurd e (by decide)
          · exact e ok
      have l150 := itN_le hg nb'
      intro M6 e6 M8 e8
      have F6 : fG M M6 m := by rw [e6]; exact fb.wr (Or.inl rfl)
      have F8 : fG M M8 m := by rw [e8]; exact F6.st (by decide)
      have d16 : M8.1 m 16 = nI (i + 1) := by
        rw [e8, mI_s, updS, e6, mI_o (by omega), b16]
        exact nI_add i 1
      have d10 : M8.1 m 10 = nI (nxt t (ip t i)) := by
        rw [e8, mI_s, updN (by decide), e6, mI_o (by omega), cb.1]
        show _ = nI (pos t (ip t i) (nmb (wdI t i) + 2))
        rw [hw, ← kw]; rfl
      have s9 : M8.1 (m + 9) = upd (b.1 (m + 9)) i (nI (mC (wdI t i))) := by
        rw [e8, mI_n (by omega), e6, mI_s, b16, clp (by omega)]
      have s10 : M8.1 (m + 10) = b.1 (m + 10) := by
        rw [e8, mI_n (by omega), e6, mI_n (by omega)]
      have S8 : itS M8 m t (i + 1) := fun j hj => by
        rw [s9, s10]
        rcases Nat.lt_or_ge j i with x | x
        · rw [updN (by omega)]
          exact sb j x
        · have : j = i := by omega
          subst this
          rw [updS]
          refine ⟨rfl, fun u hu => ?_⟩
          rw [bn u (by omega)]
          unfold nmI
          rw [if_pos hu]
      refine sp7_scans (hx.G F8) hg (ip_le t (i + 1)) d10 (fun M9 f9 c9 => ?_)
      exact hag (by omega) M9 ⟨F8.tr (fG_E f9), c9, nb', by rw [f9.2.2 16 (by omega)]; exact d16, S8.E f9⟩
    · have q := lei (by omega) (by omega) q
      show k + 1 = nmb (wdI t i) + 1
      omega
    · have q := nlei (by omega) (by omega) q
      rw [b16, show (4 : Int32) * nI i = nI (4 * i) from pk_mul 4 i, nI_add]
      exact vin (by omega) (by decide)
    · have q := nlei (by omega) (by omega) q
      have v := (mTe 2 (Or.inl rfl)).mp v
      rw [b16, show (4 : Int32) * nI i = nI (4 * i) from pk_mul 4 i, nI_add, clp (by omega), cb.2.2.2 v, show nI k + 1 = nI (k + 1) from nI_add k 1]
      intro M10 e10
      have F10 : fG M M10 m := by rw [e10]; exact fb.wr (Or.inr rfl)
      have d10 : M10.1 m 10 = nI (pos t (ip t i) (k + 1 + 1)) := by rw [e10, mI_o (by omega)]; exact cb.1
      have s9 : M10.1 (m + 9) = b.1 (m + 9) := by rw [e10, mI_n (by omega)]
      have s10 : M10.1 (m + 10) = upd (b.1 (m + 10)) (4 * i + k) (nI (tVl t (pos t (ip t i) (k + 1)))) := by rw [e10, mI_s]
      have S10 : itS M10 m t i := fun j hj => by
        rw [s9, s10]
        refine ⟨(sb j hj).1, fun u hu => ?_⟩
        have := nmb_b _ (stp_b nb j hj)
        rw [updN (by omega)]
        exact (sb j hj).2 u hu
      refine sp7_scans (hx.G F10) hg (pos_le pl (k + 2)) d10 (fun M12 f12 c12 => ?_)
      refine hag2 q M12 ⟨F10.tr (fG_E f12), c12, fun j hj => ?_, by rw [f12.2.2 16 (by omega), e10, mI_o (by omega)]; exact b16, S10.E f12, fun j hj => ?_⟩
      · rcases Nat.lt_or_ge k j with x | x
        · have : j = k + 1 := by omega
          subst this
          rintro (⟨e, _⟩ | ⟨_, _, e⟩ | ⟨e, _⟩)
          · omega
          · exact e v
          · have e : k + 1 = nmb (wdI t i) + 1 := e
            omega
        · exact nbk j x
      · rw [f12.1 _ (by omega), s10]
        by_cases x : j = k
        · rw [x, updS]
        · rw [updN (by omega)]
          exact bn j (by omega)
    · have q := nlei (by omega) (by omega) q
      show k + 1 ≤ nmb (wdI t i)
      omega
  · have k1 : tKd t (ip t i) ≠ 1 := by
      intro e
      obtain ⟨e1, e2⟩ := m12b e
      rw [e1] at y
      have c := mC_b _ e2
      have := nlei (a := 10) (by decide) (by omega) y
      omega
    have kz : tKd t (ip t i) ≠ 0 := fun e => z (by rw [e]; rfl)
    obtain ⟨no, ef⟩ := bad0 k1
    have eN : itN t = i := fstP_at nb (Or.inr no) (by omega)
    rw [eN] at h0
    exact h0 kz a fa (by rw [ef]; exact ca.2.1)
