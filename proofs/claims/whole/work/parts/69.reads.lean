/-! what is read of both, and images -/
noncomputable def F_sign (x : Int32) (S : zS) : Int32 × zS := pqI (x = 0) (if (zf S).1 = 0 then 0 else 1, S) (pqI (x = 1) (nI (ln (zf S).1), S) (pqI (x = 2) (nI (ln (zf S).2), S) (-2, zRf S 0)))
theorem iB3 {x : Int32} : iB x 0 2 ↔ x = 0 ∨ x = 1 ∨ x = 2 := by
  constructor
  · rintro ⟨n, _, h, rfl⟩
    have : n = 0 ∨ n = 1 ∨ n = 2 := by omega
    rcases this with rfl | rfl | rfl
    · exact Or.inl rfl
    · exact Or.inr (Or.inl rfl)
    · exact Or.inr (Or.inr rfl)
  · rintro (h | h | h)
    · exact ⟨0, by omega, by omega, h⟩
    · exact ⟨1, by omega, by omega, h⟩
    · exact ⟨2, by omega, by omega, h⟩
theorem bo_sign {g m : Nat} {S : zS} (x : Int32) : BO g m S (F_sign x S) (fun M Q => p_X6_sign g x M Q) (fun M Q => p_X7_sign m x M Q) := by
  intro hS
  unfold F_sign
  by_cases a0 : x = 0
  · rw [pqI_t a0]
    subst a0
    refine ⟨hS, fun M Q hC h => ?_, fun M Q hM h => ?_⟩
    · show p_X6_sign g 0 M Q
      unfold p_X6_sign
      refine sp_within (lo := 0) (hi := 2) (by decide) (by decide) (fun _ => ⟨fun _ => ⟨fun e => absurd rfl e, fun _ => sp_isZero hC.2.2.2.1.1 ?_⟩, fun e => absurd e (by decide)⟩) (fun y => absurd (iB3.mpr (Or.inl rfl)) y)
      have h := h M fr.rf hC
      by_cases z : (zf S).1 = 0
      · rw [if_pos z] at h ⊢
        exact ⟨fun e => absurd e (by decide), fun _ => h⟩
      · rw [if_neg z] at h ⊢
        exact ⟨fun _ => h, fun e => absurd rfl e⟩
    · show p_X7_sign m 0 M Q
      unfold p_X7_sign
      have h := h M fr.rf hM
      have w0 : M.1 (m + 7) (0 : Int32).toNatClampNeg ≤ 0 ↔ (zf S).1 = 0 := hM.2.2.2.1.1.w0
      refine ⟨fun e => absurd rfl e, fun _ => ⟨fun q => ?_, fun q => ?_⟩⟩
      · rw [if_pos (w0.mp q)] at h; exact h
      · rw [if_neg (fun r => q (w0.mpr r))] at h; exact h
  rw [pqI_f a0]
  by_cases a1 : x = 1
  · rw [pqI_t a1]
    subst a1
    refine ⟨hS, fun M Q hC h => ?_, fun M Q hM h => ?_⟩
    · show p_X6_sign g 1 M Q
      unfold p_X6_sign
      refine sp_within (lo := 0) (hi := 2) (by decide) (by decide) (fun _ => ⟨fun _ => ⟨fun _ => ⟨fun e => absurd rfl e, fun _ => ?_⟩, fun e => absurd e (by decide)⟩, fun e => absurd e (by decide)⟩) (fun y => absurd (iB3.mpr (Or.inr (Or.inl rfl))) y)
      rw [show M.1 (g + 122 + 1) 2 = nI (ln (zf S).1) from hC.2.2.2.1.1.2.1]
      exact h M fr.rf hC
    · show p_X7_sign m 1 M Q
      unfold p_X7_sign
      refine ⟨fun _ => ⟨fun e => absurd rfl e, fun _ => ?_⟩, fun e => absurd e (by decide)⟩
      rw [show M.1 (m + 7) (0 : Int32).toNatClampNeg = nI (ln (zf S).1) from hM.2.2.2.1.1.2.1]
      exact h M fr.rf hM
  rw [pqI_f a1]
  by_cases a2 : x = 2
  · rw [pqI_t a2]
    subst a2
    refine ⟨hS, fun M Q hC h => ?_, fun M Q hM h => ?_⟩
    · show p_X6_sign g 2 M Q
      unfold p_X6_sign
      refine sp_within (lo := 0) (hi := 2) (by decide) (by decide) (fun _ => ⟨fun _ => ⟨fun _ => ⟨fun _ => ?_, fun e => absurd e (by decide)⟩, fun e => absurd e (by decide)⟩, fun e => absurd e (by decide)⟩) (fun y => absurd (iB3.mpr (Or.inr (Or.inr rfl))) y)
      rw [show M.1 (g + 122 + 4) 2 = nI (ln (zf S).2) from hC.2.2.2.1.2.2.1]
      exact h M fr.rf hC
    · show p_X7_sign m 2 M Q
      unfold p_X7_sign
      refine ⟨fun _ => ⟨fun _ => ⟨fun e => absurd rfl e, fun _ => ?_⟩, fun e => absurd e (by decide)⟩, fun e => absurd e (by decide)⟩
      rw [show M.1 (m + 7) (1 : Int32).toNatClampNeg = nI (ln (zf S).2) from hM.2.2.2.1.2.2.1]
      exact h M fr.rf hM
  rw [pqI_f a2]
  refine ⟨SW_rf hS, fun M Q hC h => ?_, fun M Q hM h => ?_⟩
  · show p_X6_sign g x M Q
    unfold p_X6_sign
    exact sp_within (lo := 0) (hi := 2) (by decide) (by decide) (fun y => (iB3.mp y).elim (fun e => absurd e a0) (fun y => y.elim (fun e => absurd e a1) (fun e => absurd e a2))) (fun _ => ⟨fun e => absurd rfl e, fun _ => sp_told (r := -2) hC h⟩)
  · exact ⟨fun _ => ⟨fun _ => ⟨fun _ => sp7_badR hM h, fun e => absurd e a2⟩, fun e => absurd e a1⟩, fun e => absurd e a0⟩
noncomputable def F_limb (x y : Int32) (S : zS) : Int32 × zS := pqI (iB x 0 1 ∧ 0 ≤ y) (pqI (bl y (ln (if x = 0 then (zf S).1 else (zf S).2))) (nI (dg (if x = 0 then (zf S).1 else (zf S).2) (vN y)), S) (-1, S)) (-2, zRf S 0)
theorem sp_digitX {b v : Nat} {y : Int32} {M : mM} {Q : Int32 → Prop} (hr : RW M b v) (h1 : bl y (ln v) → Q (nI (dg v (vN y)))) (h0 : ¬ bl y (ln v) → Q (-1)) : p_X5_digit b y M Q := by
  have l40 := ln_le v
  refine sp_digit hr (fun i e hi => ?_) (fun q => h0 (fun r => ?_))
  · have := h1 ⟨i, hi, e⟩
    rw [e, vN_n (by omega)] at this
    exact this
  · obtain ⟨i, hi, e⟩ := r
    exact q i hi e
theorem bl_nn {y : Int32} {n : Nat} (h : bl y n) (hn : n < 1000000) : 0 ≤ y := by
  rw [Int32.le_iff_toInt_le]
  exact ((bl_iff hn).mp h).1
theorem sp7_limbX {m r v : Nat} {y : Int32} {M : mM} {Q : Int32 → Prop} (hr : r < 2) (hy : 0 ≤ y) (hg : MG M m r v) (h1 : bl y (ln v) → Q (nI (dg v (vN y)))) (h0 : ¬ bl y (ln v) → Q (-1)) : vp_in (nI r) 360 ∧ (((M.1 (m + 7) (nI r).toNatClampNeg) ≤ y → Q (-1)) ∧ ((¬ (M.1 (m + 7) (nI r).toNatClampNeg) ≤ y) → (vp_in ((40 * nI r) + y) 14400 ∧ Q (M.1 (m + 6) ((40 * nI r) + y).toNatClampNeg)))) := by
  have l40 := ln_le v
  have y0 : 0 ≤ y.toInt := by
    rw [Int32.le_iff_toInt_le] at hy
    exact hy
  rw [clp (by omega), hg.2.1]
  have key : nI (ln v) ≤ y ↔ ¬ bl y (ln v) := by
    rw [bl_iff (by omega), Int32.le_iff_toInt_le, jI_n, jI_t (by omega) (by omega)]
    omega
  refine ⟨vin (by omega) (by decide), fun q => h0 (key.mp q), fun q => ?_⟩
  have b : bl y (ln v) := by
    by_cases z : bl y (ln v)
    · exact z
    · exact absurd (key.mpr z) q
  have h1 := h1 b
  obtain ⟨u, hu⟩ := bl_v (by omega) b
  generalize vN y = i at *
  rw [u, m40, nI_add, clp (by omega), hg.1 i (by omega)]
  exact ⟨vin (by omega) (by decide), h1⟩
theorem iB2 {x : Int32} (h : iB x 0 1) : x = 0 ∨ x = 1 := by
  obtain ⟨n, _, h, rfl⟩ := h
  have : n = 0 ∨ n = 1 := by omega
  rcases this with rfl | rfl
  · exact Or.inl rfl
  · exact Or.inr rfl
theorem bo_limb {g m : Nat} {S : zS} (x y : Int32) : BO g m S (F_limb x y S) (fun M Q => p_X6_limb g x y M Q) (fun M Q => p_X7_limb m x y M Q) := by
  intro hS
  unfold F_limb
  by_cases ok : iB x 0 1 ∧ 0 ≤ y
  · rw [pqI_t ok]
    have hx := iB2 ok.1
    refine ⟨?_, fun M Q hC h => ?_, fun M Q hM h => ?_⟩
    · by_cases z : bl y (ln (if x = 0 then (zf S).1 else (zf S).2))
      · rw [pqI_t z]; exact hS
      · rw [pqI_f z]; exact hS
    · show p_X6_limb g x y M Q
      unfold p_X6_limb
      have fin1 : bl y (ln (if x = 0 then (zf S).1 else (zf S).2)) → Q (nI (dg (if x = 0 then (zf S).1 else (zf S).2) (vN y))) M := fun z => by
        rw [pqI_t z] at h; exact h M fr.rf hC
      have fin0 : ¬ bl y (ln (if x = 0 then (zf S).1 else (zf S).2)) → Q (-1) M := fun z => by
        rw [pqI_f z] at h; exact h M fr.rf hC
      refine sp_within (lo := 0) (hi := 1) (by decide) (by decide) (fun _ => ⟨fun e => absurd e (by decide), fun _ => ⟨fun _ => ⟨fun e => ?_, fun e => ?_⟩, fun q => absurd ok.2 q⟩⟩) (fun q => absurd ok.1 q)
      · rw [if_neg e] at fin1 fin0
        exact sp_digitX hC.2.2.2.1.2 fin1 fin0
      · rw [if_pos e] at fin1 fin0
        exact sp_digitX hC.2.2.2.1.1 fin1 fin0
    · show p_X7_limb m x y M Q
      unfold p_X7_limb
      have fin1 : bl y (ln (if x = 0 then (zf S).1 else (zf S).2)) → Q (nI (dg (if x = 0 then (zf S).1 else (zf S).2) (vN y))) M := fun z => by
        rw [pqI_t z] at h; exact h M fr.rf hM
      have fin0 : ¬ bl y (ln (if x = 0 then (zf S).1 else (zf S).2)) → Q (-1) M := fun z => by
        rw [pqI_f z] at h; exact h M fr.rf hM
      refine sp7_inI (lo := 0) (hi := 1) (by decide) (by decide) (fun _ => ⟨fun e => absurd e (by decide), fun _ => ⟨fun _ => ?_, fun q => absurd ok.2 q⟩⟩) (fun q => absurd ok.1 q)
      rcases hx with rfl | rfl
      · rw [if_pos rfl] at fin1 fin0
        exact sp7_limbX (r := 0) (Q := fun r => Q r M) (by decide) ok.2 hM.2.2.2.1.1 fin1 fin0
      · rw [if_neg (by decide)] at fin1 fin0
        exact sp7_limbX (r := 1) (Q := fun r => Q r M) (by decide) ok.2 hM.2.2.2.1.2 fin1 fin0
  · rw [pqI_f ok]
    refine ⟨SW_rf hS, fun M Q hC h => ?_, fun M Q hM h => ?_⟩
    · exact sp_within (lo := 0) (hi := 1) (by decide) (by decide) (fun a => ⟨fun e => absurd e (by decide), fun _ => ⟨fun q => absurd ⟨a, q⟩ ok, fun _ => sp_told (r := -2) hC h⟩⟩) (fun _ => ⟨fun _ => sp_told (r := -2) hC h, fun e => absurd rfl e⟩)
    · exact sp7_inI (lo := 0) (hi := 1) (by decide) (by decide) (fun a => ⟨fun e => absurd e (by decide), fun _ => ⟨fun q => absurd ⟨a, q⟩ ok, fun _ => sp7_badR hM h⟩⟩) (fun _ => ⟨fun _ => sp7_badR hM h, fun e => absurd rfl e⟩)
noncomputable def F_image (x : Int32) (S : zS) : Int32 × zS := pqI (iB x 0 1) (1, zIm S (vN x) (1, zs S, zc S)) (-2, zRf S 0)
theorem bo_image {g m : Nat} {S : zS} (x : Int32) : BO g m S (F_image x S) (fun M Q => p_X6_image g x M Q) (fun M Q => p_X7_image m x M Q) := by
  intro hS
  unfold F_image
  by_cases ok : iB x 0 1
  · rw [pqI_t ok]
    obtain ⟨u, _, v1⟩ := iB_v (by decide) ok
    generalize vN x = i at *
    subst u
    refine ⟨⟨hS.1, fun j hj => ?_, hS.2.2⟩, fun M Q hC h => ?_, fun M Q hM h => ?_⟩
    · show (if j = i then ((1, zs S, zc S) : zI) else zi S j).1 ≠ 0 → WF (if j = i then ((1, zs S, zc S) : zI) else zi S j).2.1 (if j = i then ((1, zs S, zc S) : zI) else zi S j).2.2
      by_cases z : j = i
      · rw [if_pos z]; exact fun _ => hS.1
      · rw [if_neg z]; exact hS.2.1 j hj
    · show p_X6_image g (nI i) M Q
      unfold p_X6_image
      refine sp_within (lo := 0) (hi := 1) (by decide) (by decide) (fun _ => ⟨fun _ => ⟨vin (by omega) (by decide), ?_⟩, fun e => absurd e (by decide)⟩) (fun q => absurd ok q)
      rw [clp (by omega)]
      refine sp_becomeS hS.1 (by omega) hC.1 (fun M3 f3 s3 => ⟨vin (by omega) (by decide), ?_⟩)
      rintro M4 rfl
      obtain ⟨h1, h2, h3, h4, h5⟩ := hC
      have e : ∀ k, k < g + 26 ∨ (g + 51 ≤ k) → (mI M3 (g + 50) (upd (M3.1 (g + 50)) i (vp_nar .boolean 1))).1 k = M.1 k := fun k hk => by
        rw [mI_n (by omega)]; exact f3.1 k (by omega)
      refine h _ ((f3.wd (by omega) (by omega)).mI (by omega) (by omega)) ⟨h1.ag (fun k a b => e k (by omega)), fun j hj => ?_, h3.ag (by rw [e _ (by omega)]) (e _ (by omega)), ⟨h4.1.ag (e _ (by omega)) (e _ (by omega)), h4.2.ag (e _ (by omega)) (e _ (by omega))⟩, fun k hk => by rw [e _ (by omega)]; exact h5 k hk⟩
      show cIm _ g j (if j = i then ((1, zs S, zc S) : zI) else zi S j)
      by_cases z : j = i
      · subst z
        rw [if_pos rfl]
        refine ⟨by rw [mI_s, updS]; exact (by decide : vp_nar .boolean 1 = nI (bo 1)), fun _ => s3.ag (fun k a b => mI_n (by omega))⟩
      · rw [if_neg z]
        have hj2 := h2 j hj
        refine ⟨?_, fun q => (hj2.2 q).ag (fun k a b => ?_)⟩
        · rw [mI_s, updN z, f3.1 _ (by omega)]; exact hj2.1
        · rw [mI_n (by omega)]; exact f3.1 k (by omega)
    · show p_X7_image m (nI i) M Q
      unfold p_X7_image
      refine sp7_inI (lo := 0) (hi := 1) (by decide) (by decide) (fun _ => ⟨fun _ => ?_, fun e => absurd e (by decide)⟩) (fun q => absurd ok q)
      refine loopU (A := mM) 210 (fun k a => (nI k, a)) (fun k a => fq M a (fun q => q = m + 2) ∧ (∀ j, j < k → a.1 (m + 2) (210 * i + j) = M.1 (m + 1) j) ∧ ∀ j, j < 210 * i ∨ 210 * i + 210 ≤ j → a.1 (m + 2) j = M.1 (m + 2) j) M rfl ⟨fq.rf, fun j hj => absurd hj (Nat.not_lt_zero _), fun _ _ => rfl⟩ ?_
      rintro k a ag hk ⟨hf, hg, hn⟩ hag
      show p_X7_image_F17 m (nI i) Q ag (nI k) a
      unfold p_X7_image_F17
      refine ⟨fun q => ⟨vin (by omega) (by decide), ?_⟩, fun q => ?_⟩
      · have q := lei (a := 210) (by decide) (by omega) q
        have : k = 210 := by omega
        subst this
        rintro M2 rfl
        rw [clp (by omega)]
        obtain ⟨h1, h2, h3, h4, h5, h6⟩ := hM
        have e : ∀ k, k ≠ m + 2 → k ≠ m + 3 → (mI a (m + 3) (upd (a.1 (m + 3)) i (vp_nar .boolean 1))).1 k = M.1 k := fun k k2 k3 => by
          rw [mI_n k3]; exact hf.1 k k2
        refine h _ ((hf.fr (lo := m) (hi := m + 15) (fun k e => by omega)).mI (by omega) (by omega)) ⟨h1.ag (e _ (by omega) (by omega)), fun j hj => ?_, h3.ag (by rw [e _ (by omega) (by omega)]) (e _ (by omega) (by omega)), ⟨h4.1.ag (e _ (by omega) (by omega)) (e _ (by omega) (by omega)), h4.2.ag (e _ (by omega) (by omega)) (e _ (by omega) (by omega))⟩, fun k hk => by rw [e _ (by omega) (by omega)]; exact h5 k hk, by rw [e _ (by omega) (by omega)]; exact h6⟩
        show rIm _ m j (if j = i then ((1, zs S, zc S) : zI) else zi S j)
        by_cases z : j = i
        · subst z
          rw [if_pos rfl]
          refine ⟨by rw [mI_s, updS]; exact (by decide : vp_nar .boolean 1 = nI (bo 1)), fun _ => ⟨fun k hk => ?_, fun k hk => ?_⟩⟩
          · rw [mI_o (by omega), hg k (by omega)]; exact h1.1 k hk
          · rw [mI_o (by omega), hg (150 + k) (by omega)]; exact h1.2 k hk
        · rw [if_neg z]
          have hj2 := h2 j hj
          refine ⟨?_, fun q => ⟨fun k hk => ?_, fun k hk => ?_⟩⟩
          · rw [mI_s, updN z, hf.1 _ (by omega)]; exact hj2.1
          · rw [mI_o (by omega), hn _ (by omega)]; exact (hj2.2 q).1 k hk
          · rw [mI_o (by omega), hn _ (by omega)]; exact (hj2.2 q).2 k hk
      · have q := nlei (a := 210) (by decide) (by omega) q
        rw [show (210 : Int32) * nI i = nI (210 * i) from pk_mul 210 i, nI_add, clp (by omega), clp (by omega), show nI k + 1 = nI (k + 1) from nI_add k 1]
        refine ⟨vin q (by decide), vin (by omega) (by decide), ?_⟩
        rintro M5 rfl
        refine hag q _ ⟨hf.mI rfl, fun j hj => ?_, fun j hj => ?_⟩
        · rw [mI_s]
          by_cases z : j = k
          · rw [z, updS, hf.1 _ (by omega)]
          · rw [updN (by omega)]; exact hg j (by omega)
        · rw [mI_s, updN (by omega)]; exact hn j hj
  · rw [pqI_f ok]
    refine ⟨SW_rf hS, fun M Q hC h => ?_, fun M Q hM h => ?_⟩
    · exact sp_within (lo := 0) (hi := 1) (by decide) (by decide) (fun a => absurd a ok) (fun _ => ⟨fun e => absurd rfl e, fun _ => sp_told (r := -2) hC h⟩)
    · exact sp7_inI (lo := 0) (hi := 1) (by decide) (by decide) (fun a => absurd a ok) (fun _ => ⟨fun e => absurd rfl e, fun _ => sp7_badR hM h⟩)
noncomputable def F_from (x : Int32) (S : zS) : Int32 × zS := pqI (iB x 0 1) (pqI ((zi S (vN x)).1 = 0) (-3, zRf S 1) (1, zSt S (zi S (vN x)).2.1 (zi S (vN x)).2.2)) (-2, zRf S 0)
theorem bo_from {g m : Nat} {S : zS} (x : Int32) : BO g m S (F_from x S) (fun M Q => p_X6_from g x M Q) (fun M Q => p_X7_from m x M Q) := by
  intro hS
  unfold F_from
  by_cases ok : iB x 0 1
  · rw [pqI_t ok]
    obtain ⟨u, _, v1⟩ := iB_v (by decide) ok
    generalize vN x = i at *
    subst u
    by_cases kp : (zi S i).1 = 0
    · rw [pqI_t kp]
      refine ⟨SW_rf hS, fun M Q hC h => ?_, fun M Q hM h => ?_⟩
      · show p_X6_from g (nI i) M Q
        unfold p_X6_from
        have k0 : M.1 (g + 50) i = 0 := by rw [(hC.2.1 i (by omega)).1, bo_0 kp]; rfl
        rw [clp (by omega), k0]
        exact sp_within (lo := 0) (hi := 1) (by decide) (by decide) (fun _ => ⟨fun _ => ⟨vin (by omega) (by decide), fun e => absurd rfl e, fun _ => sp_told (r := -3) hC h⟩, fun e => absurd e (by decide)⟩) (fun q => absurd ok q)
      · show p_X7_from m (nI i) M Q
        unfold p_X7_from
        have k0 : M.1 (m + 3) i = 0 := by rw [(hM.2.1 i (by omega)).1, bo_0 kp]; rfl
        rw [clp (by omega), k0]
        exact sp7_inI (lo := 0) (hi := 1) (by decide) (by decide) (fun _ => ⟨fun _ => ⟨vin (by omega) (by decide), fun e => absurd rfl e, fun _ => sp7_noR hM h⟩, fun e => absurd e (by decide)⟩) (fun q => absurd ok q)
    · rw [pqI_f kp]
      have wi := hS.2.1 i (by omega) kp
      refine ⟨SW_st hS wi, fun M Q hC h => ?_, fun M Q hM h => ?_⟩
      · show p_X6_from g (nI i) M Q
        unfold p_X6_from
        have k1 : M.1 (g + 50) i = 1 := by rw [(hC.2.1 i (by omega)).1, bo_1 kp]; rfl
        rw [clp (by omega), k1]
        refine sp_within (lo := 0) (hi := 1) (by decide) (by decide) (fun _ => ⟨fun _ => ⟨vin (by omega) (by decide), fun _ => ⟨vin (by omega) (by decide), ?_⟩, fun e => absurd e (by decide)⟩, fun e => absurd e (by decide)⟩) (fun q => absurd ok q)
        exact sp_becomeS wi (by omega) ((hC.2.1 i (by omega)).2 kp) (fun M4 f4 s4 => h M4 (f4.wd (by omega) (by omega)) (CR_st hC f4 s4))
      · show p_X7_from m (nI i) M Q
        unfold p_X7_from
        have k1 : M.1 (m + 3) i = 1 := by rw [(hM.2.1 i (by omega)).1, bo_1 kp]; rfl
        rw [clp (by omega), k1]
        refine sp7_inI (lo := 0) (hi := 1) (by decide) (by decide) (fun _ => ⟨fun _ => ⟨vin (by omega) (by decide), fun _ => ?_, fun e => absurd e (by decide)⟩, fun e => absurd e (by decide)⟩) (fun q => absurd ok q)
        refine loopU (A := mM) 210 (fun k a => (nI k, a)) (fun k a => fq M a (bkS m) ∧ ∀ j, j < k → a.1 (m + 1) j = M.1 (m + 2) (210 * i + j)) M rfl ⟨fq.rf, fun j hj => absurd hj (Nat.not_lt_zero _)⟩ ?_
        rintro k a ag hk ⟨hf, hg⟩ hag
        show p_X7_from_F31 m (nI i) Q ag (nI k) a
        unfold p_X7_from_F31
        refine ⟨fun q => ?_, fun q => ?_⟩
        · have q := lei (a := 210) (by decide) (by omega) q
          have : k = 210 := by omega
          subst this
          have hi := (hM.2.1 i (by omega)).2 kp
          refine h a (bkS.fr hf) (MR_bk hM hf ⟨fun j hj => ?_, fun j hj => ?_⟩)
          · rw [hg j (by omega)]; exact hi.1 j hj
          · rw [hg (150 + j) (by omega)]; exact hi.2 j hj
        · have q := nlei (a := 210) (by decide) (by omega) q
          rw [show (210 : Int32) * nI i = nI (210 * i) from pk_mul 210 i, nI_add, clp (by omega), clp (by omega), show nI k + 1 = nI (k + 1) from nI_add k 1]
          refine ⟨vin (by omega) (by decide), vin q (by decide), ?_⟩
          rintro M4 rfl
          refine hag q _ ⟨hf.mI rfl, fun j hj => ?_⟩
          rw [mI_s]
          by_cases z : j = k
          · rw [z, updS, hf.1 _ (by unfold bkS; omega)]
          · rw [updN z]; exact hg j (by omega)
  · rw [pqI_f ok]
    refine ⟨SW_rf hS, fun M Q hC h => ?_, fun M Q hM h => ?_⟩
    · exact sp_within (lo := 0) (hi := 1) (by decide) (by decide) (fun a => absurd a ok) (fun _ => ⟨fun e => absurd rfl e, fun _ => sp_told (r := -2) hC h⟩)
    · exact sp7_inI (lo := 0) (hi := 1) (by decide) (by decide) (fun a => absurd a ok) (fun _ => ⟨fun e => absurd rfl e, fun _ => sp7_badR hM h⟩)
noncomputable def F_status (x : Int32) (S : zS) : Int32 × zS := pqI (iB x 0 2) (zr S (vN x), S) (-1, zRf S 0)
theorem bo_status {g m : Nat} {S : zS} (x : Int32) : BO g m S (F_status x S) (fun M Q => p_X6_status g x M Q) (fun M Q => p_X7_status m x M Q) := by
  intro hS
  unfold F_status
  by_cases ok : iB x 0 2
  · rw [pqI_t ok]
    obtain ⟨u, _, v1⟩ := iB_v (by decide) ok
    generalize vN x = i at *
    subst u
    refine ⟨hS, fun M Q hC h => ?_, fun M Q hM h => ?_⟩
    · show p_X6_status g (nI i) M Q
      unfold p_X6_status
      rw [clp (by omega), hC.2.2.2.2 i (by omega)]
      exact sp_within (lo := 0) (hi := 2) (by decide) (by decide) (fun _ => ⟨fun _ => ⟨vin (by omega) (by decide), h M fr.rf hC⟩, fun e => absurd e (by decide)⟩) (fun q => absurd ok q)
    · show p_X7_status m (nI i) M Q
      unfold p_X7_status
      rw [clp (by omega), hM.2.2.2.2.1 i (by omega)]
      exact sp7_inI (lo := 0) (hi := 2) (by decide) (by decide) (fun _ => ⟨fun e => absurd e (by decide), fun _ => ⟨vin (by omega) (by decide), h M fr.rf hM⟩⟩) (fun q => absurd ok q)
  · rw [pqI_f ok]
    refine ⟨SW_rf hS, fun M Q hC h => ?_, fun M Q hM h => ?_⟩
    · exact sp_within (lo := 0) (hi := 2) (by decide) (by decide) (fun a => absurd a ok) (fun _ => ⟨fun e => absurd rfl e, fun _ => sp_told (r := -2) hC (fun M' f c => h M' f c)⟩)
    · exact sp7_inI (lo := 0) (hi := 2) (by decide) (by decide) (fun a => absurd a ok) (fun _ => ⟨fun _ => sp7_refuses (k := 0) (by decide) hM.2.2.2.2.2 (h _ (fr.rf.mI (by omega) (by omega)) (MR_rf hM (by decide))), fun e => absurd rfl e⟩)
