/-! bytes come to the text, and go -/
theorem lN_sar8 {w k : Nat} (hk : k ≤ 56) : (lN w >>> ((nI k).toInt64 &&& 63)) &&& 255 = lN (w / 2 ^ k % 256) := by
  apply Int64.toBitVec_inj.mp
  rw [wb_c k (by omega)]
  show ((BitVec.ofNat 64 w).sshiftRight' ((BitVec.ofNat 64 k).smod 64) &&& BitVec.ofNat 64 (2 ^ 8 - 1)) = BitVec.ofNat 64 (w / 2 ^ k % 256)
  rw [wb_sm k (by omega), BitVec.sshiftRight', BitVec.toNat_ofNat, Nat.mod_eq_of_lt (by omega)]
  apply BitVec.eq_of_getLsbD_eq
  intro i hi
  rw [BitVec.getLsbD_and, BitVec.getLsbD_sshiftRight, BitVec.getLsbD_ofNat, BitVec.getLsbD_ofNat, BitVec.getLsbD_ofNat, Nat.testBit_two_pow_sub_one, show (256 : Nat) = 2 ^ 8 from rfl, Nat.testBit_mod_two_pow, Nat.testBit_div_two_pow]
  by_cases h : i < 8
  · rw [if_pos (by omega), show (decide (64 ≤ i)) = false from decide_eq_false (by omega), show decide (k + i < 64) = true from decide_eq_true (by omega), show decide (i < 64) = true from decide_eq_true hi, show decide (i < 8) = true from decide_eq_true h]
    simp [Nat.add_comm]
  · rw [show decide (i < 8) = false from decide_eq_false h]
    simp
def tW (v : Int64) : Nat := v.toBitVec.toNat
theorem tW_n (v : Int64) : v = lN (tW v) := by
  apply Int64.toBitVec_inj.mp
  show v.toBitVec = BitVec.ofNat 64 (tW v)
  unfold tW
  simp
theorem tW_lt (v : Int64) : tW v < 18446744073709551616 := v.toBitVec.isLt
def tBf (t : Nat × (Nat → Nat)) (w n : Nat) : Nat → Nat := fun j => if t.1 ≤ j ∧ j < t.1 + n then w / 2 ^ (8 * (n - 1 - (j - t.1))) % 256 else t.2 j
theorem tBf_in {t : Nat × (Nat → Nat)} {w n j k : Nat} (hj : j = t.1 + (n - (k + 1))) (hk : k < n) : tBf t w n j = w / 2 ^ (8 * k) % 256 := by
  unfold tBf
  rw [if_pos (by omega), show n - 1 - (j - t.1) = k by omega]
theorem tBf_out {t : Nat × (Nat → Nat)} {w n j : Nat} (h : j < t.1) : tBf t w n j = t.2 j := if_neg (by omega)
theorem tBf_lt {t : Nat × (Nat → Nat)} {w n : Nat} (h : ∀ j, t.2 j < 256) (j : Nat) : tBf t w n j < 256 := by
  unfold tBf
  split
  · exact Nat.mod_lt _ (by decide)
  · exact h j
theorem byte_c (w k : Nat) (hw : w < 18446744073709551616) (hk : k < 8) : vp_nar .byte ((((lN w).toUInt64 >>> ((8 * nI k).toInt64.toUInt64 &&& Int64.toUInt64 63)).toInt64).toInt32).toInt8.toInt32 &&& 255 = nI (w / 2 ^ (8 * k) % 256) := by
  rw [show (8 : Int32) * nI k = nI (8 * k) from pk_mul 8 k, wb_shr (by omega) (by omega), lN_i, vp_nar_byte, fb_byte_twice, bp_b]
  exact fa_mask _ 8
noncomputable def F_type (v : Int64) (n : Int32) (S : zS) : Int32 × zS := pqI (iB n 1 8) (pqI ((zt S).1 + vN n ≤ 300) (nI ((zt S).1 + vN n), zTx S ((zt S).1 + vN n, tBf (zt S) (tW v) (vN n))) (-4, zRf S 2)) (-2, zRf S 0)
theorem CR_tx {M M' : mM} {g : Nat} {S : zS} {t : Nat × (Nat → Nat)} (h : CR M g S) (f : fr M M' (g + 51) (g + 54)) (ht : cTx M' g t) : CR M' g (zTx S t) := by
  obtain ⟨h1, h2, h3, h4, h5⟩ := h
  exact ⟨h1.ag (fun k a b => f.1 k (by omega)), fun i hi => (h2 i hi).ag hi (fun k a b => f.1 k (by omega)), ht, ⟨h4.1.ag (f.1 _ (by omega)) (f.1 _ (by omega)), h4.2.ag (f.1 _ (by omega)) (f.1 _ (by omega))⟩, fun k hk => by rw [f.1 _ (by omega)]; exact h5 k hk⟩
theorem MR_tx {M M' : mM} {m : Nat} {S : zS} {t : Nat × (Nat → Nat)} (h : MR M m S) (f : ∀ k, k ≠ m → k ≠ m + 8 → M'.1 k = M.1 k) (f5 : M'.1 m 5 = M.1 m 5) (ht : rTx M' m t) : MR M' m (zTx S t) := by
  obtain ⟨h1, h2, h3, h4, h5, h6⟩ := h
  exact ⟨h1.ag (f _ (by omega) (by omega)), fun i hi => (h2 i hi).ag (f _ (by omega) (by omega)) (f _ (by omega) (by omega)), ht, ⟨h4.1.ag (f _ (by omega) (by omega)) (f _ (by omega) (by omega)), h4.2.ag (f _ (by omega) (by omega)) (f _ (by omega) (by omega))⟩, fun k hk => by rw [f _ (by omega) (by omega)]; exact h5 k hk, by rw [f5]; exact h6⟩
theorem sp_write {b n w : Nat} {t : Nat × (Nat → Nat)} {M : mM} {Q : Int32 → mM → Prop} (hn : n ≤ 8) (hw : w < 18446744073709551616) (hl : t.1 + n ≤ 300) (h1 : M.1 b 2 = nI t.1) (h2 : ∀ j, j < t.1 → M.1 (b + 1) j &&& 255 = nI (t.2 j)) (h : ∀ M', fr M M' b (b + 3) → M'.1 b 2 = nI (t.1 + n) → (∀ j, j < t.1 + n → M'.1 (b + 1) j &&& 255 = nI (tBf t w n j)) → Q (nI (t.1 + n)) M') : Loop (fun ag s => p_X3_write_F33 b (lN w) (nI n) Q ag s.1 s.2) (oI n, M) := by
  refine loopD (A := mM) n (fun i a => (oI i, a)) (fun i a => i ≤ n ∧ fr M a b (b + 3) ∧ a.1 b 2 = nI (t.1 + (n - i)) ∧ ∀ j, j < t.1 + (n - i) → a.1 (b + 1) j &&& 255 = nI (tBf t w n j)) M rfl ⟨Nat.le_refl _, fr.rf, by rw [Nat.sub_self]; exact h1, fun j hj => by rw [tBf_out (by omega)]; exact h2 j (by omega)⟩ ?_
  rintro i a ag hi ⟨_, hf, hl2, hb⟩ hag
  show p_X3_write_F33 b (lN w) (nI n) Q ag (oI i) a
  unfold p_X3_write_F33
  rcases i with _ | k
  · refine ⟨fun _ => ?_, fun q => absurd (by decide) q⟩
    rw [hl2]
    exact h a hf hl2 hb
  have hag := hag k rfl
  rw [oI_s]
  refine ⟨fun q => absurd (lti (a := k) (b := 0) (by omega) (by decide) q) (by omega), fun _ M2 e2 => ⟨?_, fun M3 e3 => ?_⟩⟩
  · rw [hl2]; exact vin (by omega) (by decide)
  rw [hl2] at e2
  rw [hl2, clp (by omega)] at e3
  rw [oI_pr]
  have f3 : fr M M3 b (b + 3) := by rw [e3, e2]; exact (hf.mI (by omega) (by omega)).mI (by omega) (by omega)
  refine hag M3 ⟨by omega, f3, ?_, fun j hj => ?_⟩
  · rw [e3, mI_o (by omega), e2, mI_s, updS, show nI (t.1 + (n - (k + 1))) + 1 = nI (t.1 + (n - (k + 1)) + 1) from nI_add _ 1]
    congr 1; omega
  · rw [e3, mI_s]
    by_cases z : j = t.1 + (n - (k + 1))
    · rw [z, updS, byte_c w k hw (by omega), tBf_in (k := k) rfl (by omega)]
    · rw [updN z, e2, mI_o (by omega)]
      exact hb j (by omega)
theorem sp7_write {m n w : Nat} {t : Nat × (Nat → Nat)} {M : mM} {Q : Int32 → mM → Prop} (hn : n ≤ 8) (hl : t.1 + n ≤ 300) (h1 : M.1 m 9 = nI t.1) (h2 : ∀ j, j < t.1 → M.1 (m + 8) j = nI (t.2 j)) (h : ∀ M', (∀ k, k ≠ m → k ≠ m + 8 → M'.1 k = M.1 k) → M'.2 = M.2 → M'.1 m 5 = M.1 m 5 → M'.1 m 9 = nI (t.1 + n) → (∀ j, j < t.1 + n → M'.1 (m + 8) j = nI (tBf t w n j)) → Q (nI (t.1 + n)) M') : Loop (fun ag s => p_X7_type_F39 m (lN w) (nI n) Q ag s.1 s.2) (oI n, M) := by
  refine loopD (A := mM) n (fun i a => (oI i, a)) (fun i a => (i ≤ n ∧ (∀ k, k ≠ m → k ≠ m + 8 → a.1 k = M.1 k) ∧ a.2 = M.2 ∧ a.1 m 5 = M.1 m 5) ∧ a.1 m 9 = nI (t.1 + (n - i)) ∧ ∀ j, j < t.1 + (n - i) → a.1 (m + 8) j = nI (tBf t w n j)) M rfl ⟨⟨Nat.le_refl _, fun _ _ _ => rfl, rfl, rfl⟩, by rw [Nat.sub_self]; exact h1, fun j hj => by rw [tBf_out (by omega)]; exact h2 j (by omega)⟩ ?_
  rintro i a ag hi ⟨⟨_, hf, hf2, hf5⟩, hl2, hb⟩ hag
  show p_X7_type_F39 m (lN w) (nI n) Q ag (oI i) a
  unfold p_X7_type_F39
  rcases i with _ | k
  · refine ⟨fun _ => ?_, fun q => absurd (by decide) q⟩
    rw [hl2]
    exact h a hf hf2 hf5 hl2 hb
  have hag := hag k rfl
  rw [oI_s]
  refine ⟨fun q => absurd (lti (a := k) (b := 0) (by omega) (by decide) q) (by omega), fun _ => ⟨?_, fun M2 e2 M4 e4 => ?_⟩⟩
  · rw [hl2]; exact vin (by omega) (by decide)
  rw [hl2, clp (by omega), show (8 : Int32) * nI k = nI (8 * k) from pk_mul 8 k, lN_sar8 (by omega), lN_i] at e2
  have e9 : M2.1 m = a.1 m := by rw [e2, mI_n (by omega)]
  rw [e9, hl2] at e4
  rw [oI_pr]
  refine hag M4 ⟨⟨by omega, fun q q1 q2 => ?_, ?_, ?_⟩, ?_, fun j hj => ?_⟩
  · rw [e4, mI_n q1, e2, mI_n q2]; exact hf q q1 q2
  · rw [e4, mI_l, e2, mI_l]; exact hf2
  · rw [e4, mI_s, updN (by decide)]; exact hf5
  · rw [e4, mI_s, updS, show nI (t.1 + (n - (k + 1))) + 1 = nI (t.1 + (n - (k + 1)) + 1) from nI_add _ 1]
    congr 1; omega
  · rw [e4, mI_o (by omega), e2, mI_s]
    by_cases z : j = t.1 + (n - (k + 1))
    · rw [z, updS, tBf_in (k := k) rfl (by omega)]
    · rw [updN z]
      exact hb j (by omega)
theorem frM {M M' : mM} {m : Nat} (f : ∀ k, k ≠ m → k ≠ m + 8 → M'.1 k = M.1 k) (f2 : M'.2 = M.2) : fr M M' m (m + 15) := ⟨fun k hk => f k (by omega) (by omega), fun k _ => by rw [f2]⟩
theorem bo_type {g m : Nat} {S : zS} (v : Int64) (n : Int32) : BO g m S (F_type v n S) (fun M Q => p_X6_type g v n M Q) (fun M Q => p_X7_type m v n M Q) := by
  intro hS
  obtain ⟨hS1, hS2, hS3, hS4⟩ := hS
  unfold F_type
  by_cases a : iB n 1 8
  · rw [pqI_t a]
    obtain ⟨u, v1, v2⟩ := iB_v (by decide) a
    have hv := tW_n v
    have hvl := tW_lt v
    generalize tW v = w at *
    generalize vN n = k at *
    subst u hv
    by_cases z : (zt S).1 + k ≤ 300
    · rw [pqI_t z]
      refine ⟨⟨hS1, hS2, z, tBf_lt hS4⟩, fun M Q hC h => ?_, fun M Q hM h => ?_⟩
      · show p_X6_type g (lN w) (nI k) M Q
        unfold p_X6_type p_X3_write
        refine sp_within (lo := 1) (hi := 8) (by decide) (by decide) (fun _ => ⟨fun _ => ?_, fun e => absurd e (by decide)⟩) (fun y => absurd a y)
        rw [show M.1 (g + 51) 2 = nI (zt S).1 from hC.2.2.1.1, nI_add, nI_m1]
        refine ⟨fun _ => sp_write v2 hvl z hC.2.2.1.1 hC.2.2.1.2 (fun M1 f1 l1 b1 => ?_), fun y => absurd ((nI_leI (b := 300) (by omega) (by decide)).mpr z) y⟩
        refine sp_told (r := nI ((zt S).1 + k)) (CR_tx (t := ((zt S).1 + k, tBf (zt S) w k)) hC f1 ⟨l1, b1⟩) (fun M2 f2 c2 => ?_)
        rw [tld_n (by omega)] at c2
        exact h M2 ((f1.wd (by omega) (by omega)).tr f2) c2
      · refine sp7_inI (lo := 1) (hi := 8) (by decide) (by decide) (fun _ => ⟨fun _ => ?_, fun e => absurd e (by decide)⟩) (fun y => absurd a y)
        rw [show M.1 m 9 = nI (zt S).1 from hM.2.2.1.1, nI_add, nI_m1]
        exact ⟨fun _ => sp7_write v2 z hM.2.2.1.1 hM.2.2.1.2 (fun M1 f1 f2 f5 l1 b1 => h M1 (frM f1 f2) (MR_tx (t := ((zt S).1 + k, tBf (zt S) w k)) hM f1 f5 ⟨l1, b1⟩)), fun y => absurd ((nI_leI (b := 300) (by omega) (by decide)).mpr z) y⟩
    · rw [pqI_f z]
      refine ⟨⟨hS1, hS2, hS3, hS4⟩, fun M Q hC h => ?_, fun M Q hM h => ?_⟩
      · show p_X6_type g (lN w) (nI k) M Q
        unfold p_X6_type p_X3_write
        refine sp_within (lo := 1) (hi := 8) (by decide) (by decide) (fun _ => ⟨fun _ => ?_, fun e => absurd e (by decide)⟩) (fun y => absurd a y)
        rw [show M.1 (g + 51) 2 = nI (zt S).1 from hC.2.2.1.1, nI_add]
        exact ⟨fun y => absurd (lei (b := 300) (by omega) (by decide) y) z, fun _ => sp_told (r := -4) hC (fun M2 f2 c2 => h M2 f2 c2)⟩
      · refine sp7_inI (lo := 1) (hi := 8) (by decide) (by decide) (fun _ => ⟨fun _ => ?_, fun e => absurd e (by decide)⟩) (fun y => absurd a y)
        rw [show M.1 m 9 = nI (zt S).1 from hM.2.2.1.1, nI_add]
        exact ⟨fun y => absurd (lei (b := 300) (by omega) (by decide) y) z, fun _ => sp7_fullR hM h⟩
  · rw [pqI_f a]
    refine ⟨⟨hS1, hS2, hS3, hS4⟩, fun M Q hC h => ?_, fun M Q hM h => ?_⟩
    · show p_X6_type g v n M Q
      unfold p_X6_type p_X3_write
      exact sp_within (lo := 1) (hi := 8) (by decide) (by decide) (fun y => absurd y a) (fun _ => ⟨fun e => absurd rfl e, fun _ => sp_told (r := -2) hC (fun M2 f2 c2 => h M2 f2 c2)⟩)
    · exact sp7_inI (lo := 1) (hi := 8) (by decide) (by decide) (fun y => absurd y a) (fun _ => ⟨fun e => absurd rfl e, fun _ => sp7_badR hM h⟩)
def F_clear (S : zS) : Int32 × zS := (nI (zt S).1, zTx S (0, (zt S).2))
theorem bo_clear {g m : Nat} {S : zS} : BO g m S (F_clear S) (fun M Q => p_X6_clear g M Q) (fun M Q => p_X7_clear m M Q) := by
  intro hS
  refine ⟨⟨hS.1, hS.2.1, Nat.zero_le _, hS.2.2.2⟩, fun M Q hC h => ?_, fun M Q hM h => ?_⟩
  · show ∀ M1 : mM, M1 = mI M (g + 51) (upd (M.1 (g + 51)) 2 0) → Q (M.1 (g + 51) 2) M1
    rintro M1 rfl
    rw [show M.1 (g + 51) 2 = nI (zt S).1 from hC.2.2.1.1]
    exact h _ (fr.rf.mI (by omega) (by omega)) (CR_tx hC (fr.rf.mI (by omega) (by omega)) ⟨by rw [mI_s, updS]; rfl, fun j hj => absurd hj (Nat.not_lt_zero j)⟩)
  · show ∀ M1 : mM, M1 = mI M m (upd (M.1 m) 9 0) → Q (M.1 m 9) M1
    rintro M1 rfl
    rw [show M.1 m 9 = nI (zt S).1 from hM.2.2.1.1]
    exact h _ (fr.rf.mI (by omega) (by omega)) (MR_tx hM (fun k k1 k2 => mI_n k1) (by rw [mI_s, updN (by decide)]) ⟨by rw [mI_s, updS]; rfl, fun j hj => absurd hj (Nat.not_lt_zero j)⟩)
