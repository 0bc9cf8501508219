/-! from the law's entry to its loop -/
theorem kl_0 : Cond.classLink RL 7 RX6 ∈ wsL_law := inR1 (List.mem_of_getElem? (i := 0) rfl)
theorem kl_1 : Cond.instantiable RX6 12 ∈ wsL_law := inR1 (List.mem_of_getElem? (i := 1) rfl)
theorem kl_2 : Cond.initialized RX6 ∈ wsL_law := inR1 (List.mem_of_getElem? (i := 2) rfl)
theorem kl_3 : Cond.classLink RL 10 RX7 ∈ wsL_law := inR1 (List.mem_of_getElem? (i := 3) rfl)
theorem kl_4 : Cond.instantiable RX7 21 ∈ wsL_law := inR1 (List.mem_of_getElem? (i := 4) rfl)
theorem kl_5 : Cond.initialized RX7 ∈ wsL_law := inR1 (List.mem_of_getElem? (i := 5) rfl)
theorem kl_6 : Cond.methodLink RL 9 yX6_init ∈ wsL_law := inR1 (List.mem_of_getElem? (i := 7) rfl)
theorem kl_7 : Cond.instanceMethod yX6_init ∈ wsL_law := inR1 (List.mem_of_getElem? (i := 8) rfl)
theorem kl_8 : Cond.code yX6_init cX6_init 1 none ∈ wsL_law := inR1 (List.mem_of_getElem? (i := 9) rfl)
theorem kl_9 : Cond.methodLink RL 12 yX7_init ∈ wsL_law := inR6 (List.mem_of_getElem? (i := 9) rfl)
theorem kl_10 : Cond.instanceMethod yX7_init ∈ wsL_law := inR6 (List.mem_of_getElem? (i := 10) rfl)
theorem kl_11 : Cond.code yX7_init cX7_init 1 none ∈ wsL_law := inR6 (List.mem_of_getElem? (i := 11) rfl)
theorem hfs_6 : ∀ j, j < 12 → defaultValue (tyX6 j) = vp_V [.null, .null, .null, .null, .null, .null, .null, .null, .null, .null, .null, .null] j := fun j hj => match j, hj with | 0, _ => rfl | 1, _ => rfl | 2, _ => rfl | 3, _ => rfl | 4, _ => rfl | 5, _ => rfl | 6, _ => rfl | 7, _ => rfl | 8, _ => rfl | 9, _ => rfl | 10, _ => rfl | 11, _ => rfl | n + 12, h => absurd h (by omega)
theorem hfs_7 : ∀ j, j < 21 → defaultValue (tyX7 j) = vp_V [.null, .null, .null, .null, .null, .int 0, .null, .null, .null, .int 0, .int 0, .int 0, .int 0, .int 0, .null, .null, .int 0, .null, .null, .null, .null] j := fun j hj => match j, hj with | 0, _ => rfl | 1, _ => rfl | 2, _ => rfl | 3, _ => rfl | 4, _ => rfl | 5, _ => rfl | 6, _ => rfl | 7, _ => rfl | 8, _ => rfl | 9, _ => rfl | 10, _ => rfl | 11, _ => rfl | 12, _ => rfl | 13, _ => rfl | 14, _ => rfl | 15, _ => rfl | 16, _ => rfl | 17, _ => rfl | 18, _ => rfl | 19, _ => rfl | 20, _ => rfl | n + 21, h => absurd h (by omega)
theorem ym_6 : YM yX6_init cX6_init 1 none 0 := ⟨kl_8, kl_2, by decide, ⟨by decide +kernel, by decide +kernel⟩, by decide +kernel⟩
theorem ym_7 : YM yX7_init cX7_init 1 none 0 := ⟨kl_11, kl_5, by decide, ⟨by decide +kernel, by decide +kernel⟩, by decide +kernel⟩
theorem MR_ag {M M' : mM} {m : Nat} {S : zS} (e : ∀ k, k < 15 → M.1 (m + k) = M'.1 (m + k)) (h : MR M' m S) : MR M m S := by
  obtain ⟨h1, h2, h3, h4, h5, h6⟩ := h
  have e0 : M.1 m = M'.1 m := e 0 (by decide)
  refine ⟨⟨fun i hi => by rw [e 1 (by decide)]; exact h1.1 i hi, fun i hi => by rw [e 1 (by decide)]; exact h1.2 i hi⟩, fun i hi => ⟨by rw [e 3 (by decide)]; exact (h2 i hi).1, fun q => ⟨fun j hj => by rw [e 2 (by decide)]; exact ((h2 i hi).2 q).1 j hj, fun j hj => by rw [e 2 (by decide)]; exact ((h2 i hi).2 q).2 j hj⟩⟩, ⟨by rw [e0]; exact h3.1, fun j hj => by rw [e 8 (by decide)]; exact h3.2 j hj⟩, ⟨⟨fun i hi => by rw [e 6 (by decide)]; exact h4.1.1 i hi, by rw [e 7 (by decide)]; exact h4.1.2.1, h4.1.2.2⟩, ⟨fun i hi => by rw [e 6 (by decide)]; exact h4.2.1 i hi, by rw [e 7 (by decide)]; exact h4.2.2.1, h4.2.2.2⟩⟩, fun k hk => by rw [e 5 (by decide)]; exact h5 k hk, by rw [e0]; exact h6⟩
set_option maxRecDepth 20000 in
theorem len6 (b : Nat) : (lyC 6 b).length = 145 := rfl
theorem len7 (b : Nat) : (lyC 7 b).length = 15 := rfl
set_option maxRecDepth 20000 in
theorem law_all {X : lX} (C : CL X) (hV : wV2 (l_S X)) (hb : l_n X ≤ 320) (fin : ∀ lv M, VL X 1054 lv [] M) : LB X 0 [(0, .ref (l_b X))] [] [] (fun _ _ => 0, fun _ _ => 0) 0 0 := by
  refine LB_make (len := 145) C hV (cn_6 (l_L X)) rfl inlX6 tyX6_ok hfs_6 kl_0 kl_1 kl_2 ym_6 rfl kl_7 kl_6 (len6 _) (by decide) (by decide) (by decide) (by decide) dL_law_0 dL_law_3 dL_law_4 (fun u1 h1 => ?_)
  refine LB_astore C dL_law_7 rfl ?_
  refine LB_make (len := 15) C hV (cn_7 (l_L X)) rfl inlX7 tyX7_ok hfs_7 kl_3 kl_4 kl_5 ym_7 rfl kl_10 kl_9 (len7 _) (by decide) (by decide) (by decide) (by decide) dL_law_8 dL_law_11 dL_law_12 (fun u2 h2 => ?_)
  refine LB_astore C dL_law_15 rfl ?_
  refine LB_iconst C (nI 0) dL_law_16 (by decide) ?_
  refine LB_istore C dL_law_17 rfl ?_
  refine LB_sub (lv' := LK X 0) [3, 2, 1, 0] rfl ?_
  have c1 : CR u1 0 S00 := h1
  have c2 : MR u2 145 S00 := h2
  refine LB_VL (law_loop C hb (fun S M i _ => fin _ M) (l_n X) 0 S00 _ (by omega) (by decide) ⟨SW_00, CR_ag c1 (fun k hk => ?_), MR_ag (fun k hk => ?_) c2⟩)
  · have hk : k < 145 := by unfold kCR at hk; omega
    exact (mg_lo (lo := 145) hk).1.trans (mg_mid (lo := 0) (hi := 0 + 145) (Nat.not_lt_zero k) (by omega)).1
  · exact (mg_mid (lo := 145) (hi := 145 + 15) (j := 145 + k) (by omega) (by omega)).1
