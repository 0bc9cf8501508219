section VROWS3
variable {X : wX} {cc : ByteArray} {own : String} {ret : Option FieldType} {pc : Nat} {lv : List (Nat × Value)} {st : List Value} {M : mM}
set_option maxHeartbeats 1000000 in
/-- a static array's first places into a cell of ints -/
theorem V_copyS (C : CX X cc own ret) {idx i k1 n1 : Nat} {sp dp n : Int32} (hi : i < 4) (o1 : AK (xW X) k1 (kI 0 n1)) (hh : 0 < xH X) (hl : Cond.methodLink own idx arraycopyName ∈ wsL_law) (hA : Cond.native arraycopyName ∈ wsL_law ∧ Cond.static arraycopyName ∈ wsL_law ∧ Cond.initialized "java/lang/System" ∈ wsL_law) (h1 : ¬ sp < 0) (h2 : ¬ dp < 0) (h3 : ¬ n < 0) (h4 : sp.toNatClampNeg + n.toNatClampNeg ≤ (zL i).length) (h5 : dp.toNatClampNeg + n.toNatClampNeg ≤ n1) (hs : (st.map fun v => v.category).sum ≤ 8) (hd : decode cc pc = .ok (.invokestatic idx, 3))
    (kk : V X (pc + 3) lv st (mI M k1 (va_cpy (zF i) (M.1 k1) sp.toNatClampNeg dp.toNatClampNeg n.toNatClampNeg))) : V X pc lv (.int n :: .int dp :: vR X k1 :: .int sp :: .ref (uS (xW X) i) :: st) M := by
  intro H L ls a b c
  have hw := C.2.2.2.2.2.1
  obtain ⟨hk, hz⟩ := o1
  have hnat := zz_native
  have nn : ∀ z : Int32, ¬ z < 0 → z.toInt = (z.toNatClampNeg : Int) := by
    intro z hz
    have hz0 : (0 : Int) ≤ z.toInt := by
      have := Int32.not_lt.mp hz
      simpa using Int32.le_iff_toInt_le.mp this
    show z.toInt = ((z.toInt.toNat : Nat) : Int)
    omega
  intro T hT Xs
  obtain ⟨scr, hc0, hs2, hs3, hs4, -, hs5, -⟩ := (C.2.2.2.2.2.2.2.2.2.1 i hi).2.kept b.2.1
  have hP : va_P (uD (xW X)) vwCl (wL (xW X) M) H := a
  have hD := wL_D C.2.2.2.2.2.2.2.2.1 M
  have hc1 : H[uA (xW X) k1]? = some (vp_cell (uC (xW X) 0) (n1, .inl (M.1 k1))) := hP k1 _ (wL_at hk hz)
  obtain ⟨hs6, k0, hk0, cm0, hkk0⟩ := hs2
  obtain ⟨-, k2, hk2, cm1, hkk1⟩ := (C.2.2.2.2.2.2.2.1.2 0 _ rfl).1 n1 (fun j => .int (M.1 k1 j))
  obtain ⟨vm', X', step⟩ := Xs.arraycopy C.1 C.2.2.2.2.1 (hw _ hl) (hw _ hA.1) (hw _ hA.2.1) (hw _ hA.2.2) (src := uS (xW X) i) (dst := uA (xW X) k1) (cs := scr) (cd := vp_cell (uC (xW X) 0) (n1, .inl (M.1 k1))) (srcPos := sp) (destPos := dp) (n := n) (by rw [hT]; exact hc0) (by rw [hT]; exact hc1)
    hs6 (fun _ h => by cases h) hs3 (fun h => by cases h) hk0 hk2 hkk0 hkk1 (by simp [refKind]) h1 h2 h3
    (by rw [nn sp h1, nn n h3]; omega)
    (by rw [nn dp h2, nn n h3]; show ¬ _ > ((arrV (uC (xW X) 0) n1 (fun j => .int (M.1 k1 j))).slots.size : Int); rw [arrV_size]; omega)
    (fun vm₁ _ i9 hi9 => by
      have e : scr.slots.getD (sp.toNatClampNeg + i9) .null = .int (zF i (sp.toNatClampNeg + i9)) := by
        rw [Array.getD_eq_getD_getElem?, hs5 _ (by omega)]
        rfl
      refine ⟨?_, ?_⟩
      · rw [e]
        rfl
      · rw [e]
        exact trivial)
    (g := F0 (xM X) pc ls (.int n :: .int dp :: vR X k1 :: .int sp :: .ref (uS (xW X) i) :: st)) rfl (by rw [C.2.2.1]; exact c.1) (rest := st) rfl (by rw [C.2.1]; exact hd) hh (by show 2 * 0 + _ + (_ + 11) ≤ 37 * xH X; omega)
  have e1 : copied scr (vp_cell (uC (xW X) 0) (n1, .inl (M.1 k1))) sp dp n = vp_cell (uC (xW X) 0) (n1, .inl (va_cpy (zF i) (M.1 k1) sp.toNatClampNeg dp.toNatClampNeg n.toNatClampNeg)) := va_copiedX (fun z => .int z) scr (uC (xW X) 0) (zF i) (M.1 k1) hs5 h4
  rw [e1] at X' step
  have hl2 : uA (xW X) k1 < H.size := (Array.getElem?_eq_some_iff.mp hc1).1
  have ha1 : (wL (xW X) M)[k1]? = some (uA (xW X) k1, .inl (uC (xW X) 0, n1, .inl (M.1 k1))) := wL_at hk hz
  have hheap : ((T.setVm vm').setCell (uA (xW X) k1) (vp_cell (uC (xW X) 0) (n1, .inl (va_cpy (zF i) (M.1 k1) sp.toNatClampNeg dp.toNatClampNeg n.toNatClampNeg)))).heap = H.setIfInBounds (uA (xW X) k1) (vp_cell (uC (xW X) 0) (n1, .inl (va_cpy (zF i) (M.1 k1) sp.toNatClampNeg dp.toNatClampNeg n.toNatClampNeg))) := by rw [← hT]; rfl
  have oq : ∀ q : Nat, q ≠ uA (xW X) k1 → (H.setIfInBounds (uA (xW X) k1) (vp_cell (uC (xW X) 0) (n1, .inl (va_cpy (zF i) (M.1 k1) sp.toNatClampNeg dp.toNatClampNeg n.toNatClampNeg))))[q]? = H[q]? := fun q hq => by simp [Array.getElem?_setIfInBounds, Ne.symm hq]
  have e := wL_set (w := xW X) (M := M) (M1 := mI M k1 (va_cpy (zF i) (M.1 k1) sp.toNatClampNeg dp.toNatClampNeg n.toNatClampNeg)) hk (fun q h => mI_n h) (fun q _ => rfl)
  rw [mI_s, mI_l, hz] at e
  have hP1 := hP.set hD ha1 (e := .inl (uC (xW X) 0, n1, .inl (va_cpy (zF i) (M.1 k1) sp.toNatClampNeg dp.toNatClampNeg n.toNatClampNeg))) (show (H.setIfInBounds (uA (xW X) k1) _)[uA (xW X) k1]? = some _ by simp [Array.getElem?_setIfInBounds, hl2]) oq
  have hP2 : wW (xW X) (mI M k1 (va_cpy (zF i) (M.1 k1) sp.toNatClampNeg dp.toNatClampNeg n.toNatClampNeg)) (H.setIfInBounds (uA (xW X) k1) (vp_cell (uC (xW X) 0) (n1, .inl (va_cpy (zF i) (M.1 k1) sp.toNatClampNeg dp.toNatClampNeg n.toNatClampNeg)))) := by
    show va_P _ _ (wL _ _) _
    rw [← e]
    exact hP1
  obtain ⟨t, a1, b1⟩ := kk _ _ ls hP2 ⟨by simp; exact b.1, fun q g1 g2 => by
      rw [oq q (fun e9 => g2 (by rw [e9]; exact hD.2 k1 _ ha1))]
      exact b.2.1 q g1 g2, fun q hq => by
      rcases List.mem_append.mp hq with h | h
      · exact b.2.2 q h
      · obtain ⟨z, -, hz9⟩ := List.mem_map.mp h
        rw [← hz9]
        exact hD.2 k1 _ ha1⟩ c _ hheap X'
  exact ⟨t, step t a1, b1⟩
end VROWS3
