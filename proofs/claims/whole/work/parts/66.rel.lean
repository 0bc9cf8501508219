/-! what object and row hold together -/
abbrev zI : Type := Nat × (Nat → Nat) × (Nat → Nat)
abbrev zS : Type := (Nat → Nat) × (Nat → Nat) × (Nat → zI) × (Nat × (Nat → Nat)) × (Nat × Nat) × (Nat → Int32)
abbrev zs (S : zS) : Nat → Nat := S.1
abbrev zc (S : zS) : Nat → Nat := S.2.1
abbrev zi (S : zS) : Nat → zI := S.2.2.1
abbrev zt (S : zS) : Nat × (Nat → Nat) := S.2.2.2.1
abbrev zf (S : zS) : Nat × Nat := S.2.2.2.2.1
abbrev zr (S : zS) : Nat → Int32 := S.2.2.2.2.2
abbrev zSt (S : zS) (s c : Nat → Nat) : zS := (s, c, S.2.2)
abbrev zIm (S : zS) (i : Nat) (x : zI) : zS := (S.1, S.2.1, (fun j => if j = i then x else S.2.2.1 j), S.2.2.2)
abbrev zTx (S : zS) (t : Nat × (Nat → Nat)) : zS := (S.1, S.2.1, S.2.2.1, t, S.2.2.2.2)
abbrev zFr (S : zS) (n d : Nat) : zS := (S.1, S.2.1, S.2.2.1, S.2.2.2.1, (n / Nat.gcd n d, d / Nat.gcd n d), S.2.2.2.2.2)
abbrev zRf (S : zS) (k : Nat) : zS := (S.1, S.2.1, S.2.2.1, S.2.2.2.1, S.2.2.2.2.1, bmp S.2.2.2.2.2 k)
def cIm (M : mM) (g i : Nat) (x : zI) : Prop := M.1 (g + 50) i = nI (bo x.1) ∧ (x.1 ≠ 0 → ST M (g + 26 + 12 * i) x.2.1 x.2.2)
def cTx (M : mM) (g : Nat) (t : Nat × (Nat → Nat)) : Prop := M.1 (g + 51) 2 = nI t.1 ∧ ∀ j, j < t.1 → M.1 (g + 52) j &&& 255 = nI (t.2 j)
def CR (M : mM) (g : Nat) (S : zS) : Prop := ST M (g + 1) (zs S) (zc S) ∧ (∀ i, i < 2 → cIm M g i (zi S i)) ∧ cTx M g (zt S) ∧ (RW M (g + 123) (zf S).1 ∧ RW M (g + 126) (zf S).2) ∧ ∀ k, k < 3 → M.1 (g + 144) k = zr S k
def rIm (M : mM) (m i : Nat) (x : zI) : Prop := M.1 (m + 3) i = nI (bo x.1) ∧ (x.1 ≠ 0 → (∀ j, j < 150 → M.1 (m + 2) (210 * i + j) = nI (x.2.1 j)) ∧ ∀ k, k < 48 → M.1 (m + 2) (210 * i + (150 + k)) = oI (x.2.2 k))
def rTx (M : mM) (m : Nat) (t : Nat × (Nat → Nat)) : Prop := M.1 m 9 = nI t.1 ∧ ∀ j, j < t.1 → M.1 (m + 8) j = nI (t.2 j)
def MR (M : mM) (m : Nat) (S : zS) : Prop := BK M m (zs S) (zc S) ∧ (∀ i, i < 2 → rIm M m i (zi S i)) ∧ rTx M m (zt S) ∧ (MG M m 0 (zf S).1 ∧ MG M m 1 (zf S).2) ∧ (∀ k, k < 3 → M.1 (m + 5) k = zr S k) ∧ M.1 m 5 = 0
def SW (S : zS) : Prop := WF (zs S) (zc S) ∧ (∀ i, i < 2 → (zi S i).1 ≠ 0 → WF (zi S i).2.1 (zi S i).2.2) ∧ (zt S).1 ≤ 300 ∧ ∀ j, (zt S).2 j < 256
theorem ST.ag {M M' : mM} {b : Nat} {s c : Nat → Nat} (h : ST M b s c) (e : ∀ k, b ≤ k → k < b + 12 → M'.1 k = M.1 k) : ST M' b s c := by
  obtain ⟨h1, h2, h3, h4, h5, h6, h7⟩ := h
  refine ⟨?_, ?_, ?_, ?_, ?_, ?_, ?_⟩
  · rw [e b (by omega) (by omega)]; exact h1
  · rw [e b (by omega) (by omega)]; exact h2
  · intro i hi; rw [e _ (by omega) (by omega)]; exact h3 i hi
  · intro i hi; rw [e _ (by omega) (by omega)]; exact h4 i hi
  · intro i hi
    obtain ⟨a1, a2, a3, a4⟩ := h5 i hi
    refine ⟨?_, ?_, ?_, ?_⟩
    · rw [e _ (by omega) (by omega)]; exact a1
    · rw [e _ (by omega) (by omega)]; exact a2
    · rw [e _ (by omega) (by omega)]; exact a3
    · rw [e _ (by omega) (by omega)]; exact a4
  · intro i hi
    obtain ⟨a1, a2, a3, a4⟩ := h6 i hi
    refine ⟨?_, ?_, ?_, ?_⟩
    · rw [e _ (by omega) (by omega)]; exact a1
    · rw [e _ (by omega) (by omega)]; exact a2
    · rw [e _ (by omega) (by omega)]; exact a3
    · rw [e _ (by omega) (by omega)]; exact a4
  · intro i hi; rw [e _ (by omega) (by omega)]; exact h7 i hi
theorem RW.ag {M M' : mM} {b v : Nat} (h : RW M b v) (e0 : M'.1 b = M.1 b) (e1 : M'.1 (b + 1) = M.1 (b + 1)) : RW M' b v :=
  ⟨fun i hi => by rw [e1]; exact h.1 i hi, by rw [e0]; exact h.2.1, h.2.2⟩
theorem cIm.ag {M M' : mM} {g i : Nat} {x : zI} (h : cIm M g i x) (hi : i < 2) (e : ∀ k, g + 26 ≤ k → k < g + 51 → M'.1 k = M.1 k) : cIm M' g i x :=
  ⟨by rw [e _ (by omega) (by omega)]; exact h.1, fun q => (h.2 q).ag (fun k a b => e k (by omega) (by omega))⟩
theorem cTx.ag {M M' : mM} {g : Nat} {t : Nat × (Nat → Nat)} (h : cTx M g t) (e0 : M'.1 (g + 51) 2 = M.1 (g + 51) 2) (e1 : M'.1 (g + 52) = M.1 (g + 52)) : cTx M' g t :=
  ⟨by rw [e0]; exact h.1, fun j hj => by rw [e1]; exact h.2 j hj⟩
def kCR (g k : Nat) : Prop := (g + 1 ≤ k ∧ k < g + 13) ∨ (g + 26 ≤ k ∧ k < g + 53) ∨ (g + 123 ≤ k ∧ k < g + 129) ∨ k = g + 144
theorem CR_ag {M M' : mM} {g : Nat} {S : zS} (h : CR M g S) (e : ∀ k, kCR g k → M'.1 k = M.1 k) : CR M' g S := by
  obtain ⟨h1, h2, h3, h4, h5⟩ := h
  refine ⟨h1.ag (fun k a b => e k (Or.inl (by omega))), fun i hi => (h2 i hi).ag hi (fun k a b => e k (Or.inr (Or.inl (by omega)))), h3.ag (by rw [e (g + 51) (Or.inr (Or.inl (by omega)))]) (e _ (Or.inr (Or.inl (by omega)))), ⟨h4.1.ag (e _ (Or.inr (Or.inr (Or.inl (by omega))))) (e _ (Or.inr (Or.inr (Or.inl (by omega))))), h4.2.ag (e _ (Or.inr (Or.inr (Or.inl (by omega))))) (e _ (Or.inr (Or.inr (Or.inl (by omega)))))⟩, fun k hk => by rw [e _ (Or.inr (Or.inr (Or.inr rfl)))]; exact h5 k hk⟩
/-- the object's own cells change, but none that it is known by -/
theorem CR_fr {M M' : mM} {g lo hi : Nat} {S : zS} (h : CR M g S) (f : fr M M' lo hi) (q : (g + 13 ≤ lo ∧ hi ≤ g + 26) ∨ (g + 53 ≤ lo ∧ hi ≤ g + 123) ∨ (g + 129 ≤ lo ∧ hi ≤ g + 144) ∨ g + 145 ≤ lo ∨ hi ≤ g) : CR M' g S :=
  CR_ag h (fun k hk => f.1 k (by unfold kCR at hk; omega))
/-- the statue changes -/
theorem CR_st {M M' : mM} {g : Nat} {S : zS} {s c : Nat → Nat} (h : CR M g S) (f : fr M M' (g + 1) (g + 13)) (hs : ST M' (g + 1) s c) : CR M' g (zSt S s c) := by
  obtain ⟨h1, h2, h3, h4, h5⟩ := h
  refine ⟨hs, fun i hi => (h2 i hi).ag hi (fun k a b => f.1 k (by omega)), h3.ag (by rw [f.1 (g + 51) (by omega)]) (f.1 _ (by omega)), ⟨h4.1.ag (f.1 _ (by omega)) (f.1 _ (by omega)), h4.2.ag (f.1 _ (by omega)) (f.1 _ (by omega))⟩, fun k hk => by rw [f.1 _ (by omega)]; exact h5 k hk⟩
theorem CR_rf {M : mM} {g k : Nat} {S : zS} (h : CR M g S) (hk : k < 3) : CR (mI M (g + 144) (bmp (M.1 (g + 144)) k)) g (zRf S k) := by
  obtain ⟨h1, h2, h3, h4, h5⟩ := h
  refine ⟨h1.ag (fun k a b => mI_n (by omega)), fun i hi => (h2 i hi).ag hi (fun k a b => mI_n (by omega)), h3.ag (by rw [mI_o (by omega)]) (mI_n (by omega)), ⟨h4.1.ag (mI_n (by omega)) (mI_n (by omega)), h4.2.ag (mI_n (by omega)) (mI_n (by omega))⟩, fun j hj => ?_⟩
  rw [mI_s]
  show bmp _ k j = bmp _ k j
  unfold bmp
  rw [h5 k hk, h5 j hj]
theorem CR_fc {M M' : mM} {g n d : Nat} {S : zS} (h : CR M g S) (f : fr M M' (g + 122) (g + 144)) (h1 : RW M' (g + 123) (n / Nat.gcd n d)) (h2 : RW M' (g + 126) (d / Nat.gcd n d)) : CR M' g (zFr S n d) := by
  obtain ⟨a1, a2, a3, a4, a5⟩ := h
  refine ⟨a1.ag (fun k a b => f.1 k (by omega)), fun i hi => (a2 i hi).ag hi (fun k a b => f.1 k (by omega)), a3.ag (by rw [f.1 (g + 51) (by omega)]) (f.1 _ (by omega)), ⟨h1, h2⟩, fun k hk => by rw [f.1 _ (by omega)]; exact a5 k hk⟩
theorem BK.ag {M M' : mM} {m : Nat} {s c : Nat → Nat} (h : BK M m s c) (e : M'.1 (m + 1) = M.1 (m + 1)) : BK M' m s c := ⟨fun i hi => by rw [e]; exact h.1 i hi, fun i hi => by rw [e]; exact h.2 i hi⟩
theorem rIm.ag {M M' : mM} {m i : Nat} {x : zI} (h : rIm M m i x) (e2 : M'.1 (m + 2) = M.1 (m + 2)) (e3 : M'.1 (m + 3) = M.1 (m + 3)) : rIm M' m i x :=
  ⟨by rw [e3]; exact h.1, fun q => ⟨fun j hj => by rw [e2]; exact (h.2 q).1 j hj, fun j hj => by rw [e2]; exact (h.2 q).2 j hj⟩⟩
theorem rTx.ag {M M' : mM} {m : Nat} {t : Nat × (Nat → Nat)} (h : rTx M m t) (e0 : M'.1 m 9 = M.1 m 9) (e1 : M'.1 (m + 8) = M.1 (m + 8)) : rTx M' m t :=
  ⟨by rw [e0]; exact h.1, fun j hj => by rw [e1]; exact h.2 j hj⟩
theorem MG.ag {M M' : mM} {m r v : Nat} (h : MG M m r v) (e6 : M'.1 (m + 6) = M.1 (m + 6)) (e7 : M'.1 (m + 7) = M.1 (m + 7)) : MG M' m r v :=
  ⟨fun i hi => by rw [e6]; exact h.1 i hi, by rw [e7]; exact h.2.1, h.2.2⟩
theorem MR_fT {M M' : mM} {m : Nat} {S : zS} {Z : Nat → Prop} (h : MR M m S) (f : fT M M' m Z) (z0 : ¬ Z 0) (z1 : ¬ Z 1) : MR M' m S := by
  obtain ⟨h1, h2, h3, h4, h5, h6⟩ := h
  have e : ∀ k, k < m + 6 ∨ (m + 8 ≤ k ∧ k < m + 11) → M'.1 k = M.1 k := fun k hk => f.1 k (by omega) (by omega) (by omega) (by omega) (by omega) (by omega)
  exact ⟨h1.ag (e _ (by omega)), fun i hi => (h2 i hi).ag (e _ (by omega)) (e _ (by omega)), h3.ag (by rw [e m (by omega)]) (e _ (by omega)), ⟨h4.1.fT f z0, h4.2.fT f z1⟩, fun k hk => by rw [e _ (by omega)]; exact h5 k hk, by rw [e m (by omega)]; exact h6⟩
theorem MR_fc {M M' : mM} {m n d : Nat} {S : zS} {Z : Nat → Prop} (h : MR M m S) (f : fT M M' m Z) (h0 : MG M' m 0 (n / Nat.gcd n d)) (h1 : MG M' m 1 (d / Nat.gcd n d)) : MR M' m (zFr S n d) := by
  obtain ⟨a1, h2, h3, h4, h5, h6⟩ := h
  have e : ∀ k, k < m + 6 ∨ (m + 8 ≤ k ∧ k < m + 11) → M'.1 k = M.1 k := fun k hk => f.1 k (by omega) (by omega) (by omega) (by omega) (by omega) (by omega)
  exact ⟨a1.ag (e _ (by omega)), fun i hi => (h2 i hi).ag (e _ (by omega)) (e _ (by omega)), h3.ag (by rw [e m (by omega)]) (e _ (by omega)), ⟨h0, h1⟩, fun k hk => by rw [e _ (by omega)]; exact h5 k hk, by rw [e m (by omega)]; exact h6⟩
theorem MR_out {M M' : mM} {m lo hi : Nat} {S : zS} (h : MR M m S) (f : fr M M' lo hi) (q : m + 15 ≤ lo ∨ hi ≤ m) : MR M' m S := by
  obtain ⟨h1, h2, h3, h4, h5, h6⟩ := h
  have e : ∀ k, k < 15 → M'.1 (m + k) = M.1 (m + k) := fun k hk => f.1 _ (by omega)
  exact ⟨h1.ag (e 1 (by omega)), fun i hi => (h2 i hi).ag (e 2 (by omega)) (e 3 (by omega)), h3.ag (by rw [show M'.1 m = M.1 m from e 0 (by omega)]) (e 8 (by omega)), ⟨h4.1.ag (e 6 (by omega)) (e 7 (by omega)), h4.2.ag (e 6 (by omega)) (e 7 (by omega))⟩, fun k hk => by rw [e 5 (by omega)]; exact h5 k hk, by rw [show M'.1 m = M.1 m from e 0 (by omega)]; exact h6⟩
/-- the book changes -/
theorem MR_bk {M M' : mM} {m : Nat} {S : zS} {s c : Nat → Nat} (h : MR M m S) (f : fq M M' (bkS m)) (hs : BK M' m s c) : MR M' m (zSt S s c) := by
  obtain ⟨h1, h2, h3, h4, h5, h6⟩ := h
  have e : ∀ k, k ≠ m + 1 → M'.1 k = M.1 k := fun k hk => f.1 k (by unfold bkS; omega)
  exact ⟨hs, fun i hi => (h2 i hi).ag (e _ (by omega)) (e _ (by omega)), h3.ag (by rw [e m (by omega)]) (e _ (by omega)), ⟨h4.1.ag (e _ (by omega)) (e _ (by omega)), h4.2.ag (e _ (by omega)) (e _ (by omega))⟩, fun k hk => by rw [e _ (by omega)]; exact h5 k hk, by rw [e m (by omega)]; exact h6⟩
theorem MR_rf {M : mM} {m k : Nat} {S : zS} (h : MR M m S) (hk : k < 3) : MR (mI M (m + 5) (bmp (M.1 (m + 5)) k)) m (zRf S k) := by
  obtain ⟨h1, h2, h3, h4, h5, h6⟩ := h
  refine ⟨h1.ag (mI_n (by omega)), fun i hi => (h2 i hi).ag (mI_n (by omega)) (mI_n (by omega)), h3.ag (by rw [mI_o (by omega)]) (mI_n (by omega)), ⟨h4.1.ag (mI_n (by omega)) (mI_n (by omega)), h4.2.ag (mI_n (by omega)) (mI_n (by omega))⟩, fun j hj => ?_, by rw [mI_o (by omega)]; exact h6⟩
  rw [mI_s]
  show bmp _ k j = bmp _ k j
  unfold bmp
  rw [h5 k hk, h5 j hj]
theorem fT.fr {M M' : mM} {m : Nat} {S : Nat → Prop} (f : fT M M' m S) : fr M M' m (m + 15) := ⟨fun k hk => f.1 k (by omega) (by omega) (by omega) (by omega) (by omega) (by omega), fun k _ => by rw [f.2.1]⟩
theorem fq.fr {M M' : mM} {lo hi : Nat} {S : Nat → Prop} (f : fq M M' S) (h : ∀ k, S k → lo ≤ k ∧ k < hi) : fr M M' lo hi := ⟨fun k hk => f.1 k (fun q => by have := h k q; omega), fun k _ => by rw [f.2]⟩
theorem bkS.fr {M M' : mM} {m : Nat} (f : fq M M' (bkS m)) : fr M M' m (m + 15) := f.fr (fun k q => by unfold bkS at q; omega)
/-! refusals, whatever is told -/
def tld (S : zS) (r : Int32) : zS := if r = -2 then zRf S 0 else if r = -3 then zRf S 1 else if r = -4 then zRf S 2 else S
theorem tld_2 (S : zS) : tld S (-2) = zRf S 0 := rfl
theorem tld_3 (S : zS) : tld S (-3) = zRf S 1 := rfl
theorem tld_4 (S : zS) : tld S (-4) = zRf S 2 := rfl
theorem tld_n {S : zS} {n : Nat} (h : n < 2147483648) : tld S (nI n) = S := by
  have e : ∀ z : Int, -5 < z → z < 0 → nI n ≠ jI z := fun z h1 h2 q => by
    rw [jI_n, jI_eq (by omega) (by omega) (by omega) (by omega)] at q
    omega
  unfold tld
  rw [if_neg (show ¬ nI n = -2 from fun q => e (-2) (by decide) (by decide) (by rw [q]; rfl)), if_neg (show ¬ nI n = -3 from fun q => e (-3) (by decide) (by decide) (by rw [q]; rfl)), if_neg (show ¬ nI n = -4 from fun q => e (-4) (by decide) (by decide) (by rw [q]; rfl))]
theorem sp_told {g : Nat} {r : Int32} {S : zS} {M : mM} {Q : Int32 → mM → Prop} (hC : CR M g S) (h : ∀ M', fr M M' g (g + 145) → CR M' g (tld S r) → Q r M') : p_X6_told g r M Q := by
  by_cases a2 : r = -2
  · subst a2
    exact sp_told_k (k := 0) (by decide) rfl (h _ (fr.rf.mI (by omega) (by omega)) (CR_rf hC (by decide)))
  by_cases a3 : r = -3
  · subst a3
    exact sp_told_k (k := 1) (by decide) (by decide) (h _ (fr.rf.mI (by omega) (by omega)) (CR_rf hC (by decide)))
  by_cases a4 : r = -4
  · subst a4
    exact sp_told_k (k := 2) (by decide) (by decide) (h _ (fr.rf.mI (by omega) (by omega)) (CR_rf hC (by decide)))
  have go := h M fr.rf (by unfold tld; rw [if_neg a2, if_neg a3, if_neg a4]; exact hC)
  unfold p_X6_told
  refine ⟨fun _ => go, fun q => ⟨fun _ => go, fun z => ?_⟩⟩
  exfalso
  have n2 : r.toInt ≠ -2 := fun e => a2 (by rw [jI_of r, e]; rfl)
  have n3 : r.toInt ≠ -3 := fun e => a3 (by rw [jI_of r, e]; rfl)
  have n4 : r.toInt ≠ -4 := fun e => a4 (by rw [jI_of r, e]; rfl)
  rw [Int32.lt_iff_toInt_lt, show (-2 : Int32).toInt = -2 from rfl] at q
  rw [Int32.lt_iff_toInt_lt, show (-4 : Int32).toInt = -4 from rfl] at z
  omega
theorem sp7_badR {m : Nat} {S : zS} {M : mM} {Q : Int32 → mM → Prop} (hM : MR M m S) (h : ∀ M', fr M M' m (m + 15) → MR M' m (tld S (-2)) → Q (-2) M') : p_X7_bad m M Q := sp7_refuses (k := 0) (by decide) hM.2.2.2.2.2 (h _ (fr.rf.mI (by omega) (by omega)) (MR_rf hM (by decide)))
theorem sp7_noR {m : Nat} {S : zS} {M : mM} {Q : Int32 → mM → Prop} (hM : MR M m S) (h : ∀ M', fr M M' m (m + 15) → MR M' m (tld S (-3)) → Q (-3) M') : p_X7_no m M Q := sp7_refuses (k := 1) (by decide) hM.2.2.2.2.2 (h _ (fr.rf.mI (by omega) (by omega)) (MR_rf hM (by decide)))
theorem sp7_fullR {m : Nat} {S : zS} {M : mM} {Q : Int32 → mM → Prop} (hM : MR M m S) (h : ∀ M', fr M M' m (m + 15) → MR M' m (tld S (-4)) → Q (-4) M') : p_X7_full m M Q := sp7_refuses (k := 2) (by decide) hM.2.2.2.2.2 (h _ (fr.rf.mI (by omega) (by omega)) (MR_rf hM (by decide)))
/-- both answer alike, and hold the same behind it -/
def BO (g m : Nat) (S : zS) (F : Int32 × zS) (pC pM : mM → (Int32 → mM → Prop) → Prop) : Prop :=
  SW S → SW F.2 ∧ (∀ M Q, CR M g S → (∀ M', fr M M' g (g + 145) → CR M' g F.2 → Q F.1 M') → pC M Q) ∧ (∀ M Q, MR M m S → (∀ M', fr M M' m (m + 15) → MR M' m F.2 → Q F.1 M') → pM M Q)
