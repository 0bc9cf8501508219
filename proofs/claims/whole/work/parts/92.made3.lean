/-! a new object with its constructor -/
section NROWS3
variable {X : nX} {cc : ByteArray} {own : String} {pc : Nat} {fs : List Value} {L : List kK} {M : mM} {st : List Value} {k n : Nat}
theorem NB_make (C : NX X cc own) {y : MethodName} {bytes : ByteArray} {c' mc ms h' N idx idx2 len : Nat} {Cn : String} {T : u_T} {ty0 : Nat → FieldType} {f0 : List Value} {Pm : Nat → mM → Prop} (hCN : CN (n_L X) h' c' mc ms y bytes f0 Pm) (hc : vwCl[c']? = some (Cn, T, N)) (hin : ∀ q ∈ u_ws Cn T N, q ∈ wsL_law) (hty : ∀ j, j < N → parseFieldDescriptor (T j).2.2.1 = some (ty0 j)) (hfs : ∀ j, j < N → defaultValue (ty0 j) = vp_V f0 j)
    (hcl : Cond.classLink own idx Cn ∈ wsL_law) (hins : Cond.instantiable Cn N ∈ wsL_law) (hini : Cond.initialized Cn ∈ wsL_law) (ym : YM y bytes 1 none 0) (hy : y.name = "<init>") (hyi : Cond.instanceMethod y ∈ wsL_law) (hlink : Cond.methodLink own idx2 y ∈ wsL_law ∨ Cond.methodLinkNest own idx2 y "PaintedGods" ∈ zNes2)
    (hlen : ∀ b, (lyC c' b).length = len) (hfr : h' + 1 ≤ (n_R X).frames) (hlo : 8 + (1 + 11) + 37 * h' ≤ (n_R X).locals) (hcells : k + 1 + mc ≤ (n_R X).cells) (hslots : n + N + ms ≤ (n_R X).slots) (hs : ∀ a : Nat, ((Value.ref a :: st).map fun v => v.category).sum ≤ 8)
    (hd1 : decode cc pc = .ok (.new idx, 3)) (hd2 : decode cc (pc + 3) = .ok (.dup, 1)) (hd3 : decode cc (pc + 3 + 1) = .ok (.invokespecial idx2, 3))
    (kk : ∀ u, Pm (n_b X + 1 + L.length) u → NB X (pc + 3 + 1 + 3) fs (L ++ lyC c' (n_b X + 1 + L.length)) (mg (n_b X + 1 + L.length) (n_b X + 1 + L.length + len) M u) (.ref (n_a X + (n_b X + 1 + L.length)) :: st) (k + 1 + mc) (n + N + ms)) : NB X pc fs L M st k n := by
  intro H locs ls hz ho hL hS hls
  obtain ⟨hexec, hb, hml, hown, hts, hK, hin2, hsz, hZ, hV⟩ := C
  have hz : H.size = n_a X + (n_b X + 1 + L.length) := by rw [hz]; omega
  have hKn := hK.1 c' _ hc
  have hS1 := hS.1
  refine W.newcK hexec hb hown (hts _ hcl) (hts _ hins) (hts _ hini) rfl hd1 (by omega) (by omega) hKn.2.1 hz fun H1 kC hkC e1 z1 o1 => ?_
  have born : va_at (n_G X).1 vwCl (n_a X + (n_b X + 1 + L.length), .inr (c', f0)) H1 := ⟨_, hc, (u_born ty0 hts hin hKn hkC e1 hty).to hfs⟩
  have hSn : va_S (n_O X) (n_S X).heap H1 locs := ⟨by rw [z1]; omega, fun q h1 h2 => (o1 q (by omega)).trans (hS.2.1 q h1 h2), hS.2.2⟩
  have hL1 := hpB_kept hL (H1 := H1) (fun q h1 h2 => o1 q (by omega))
  have ho1 := ho.kept (H1 := H1) (o1 (n_a X + n_b X) (by omega))
  refine lv_dup hexec hb hd2 rfl ?_
  obtain ⟨y1, y2, y3, y4, y5⟩ := ym
  have fb : FrameBlind (va_Pc [.ref (n_a X + (n_b X + 1 + L.length))] (fun U => U.heap.size = n_a X + (n_b X + 1 + L.length) + 1 ∧ va_at (n_G X).1 vwCl (n_a X + (n_b X + 1 + L.length), .inr (c', f0)) U.heap ∧ va_K (n_G X).1 vwCl (tyG (n_G X).2.1) U ∧ wY (n_G X).2.2 (fun q => n_a X + (n_b X + 1 + L.length) ≤ q) U U.heap ∧ wV2 U)) := by
    intro a0 U g mk q
    obtain ⟨q0, q1, q2, q3, q4, q5⟩ := q
    exact ⟨q0, q1, q2, va_K.moved (u := U) (U := U.calling g mk a0) (Vm.Alike.refl U.vm) q3, q4.blind g mk a0, q5.blind g mk a0⟩
  have pre : ∀ U : State, U.heap = H1 → (n_S X).WarmedH U.vm → va_Pc [.ref (n_a X + (n_b X + 1 + L.length))] (fun U => U.heap.size = n_a X + (n_b X + 1 + L.length) + 1 ∧ va_at (n_G X).1 vwCl (n_a X + (n_b X + 1 + L.length), .inr (c', f0)) U.heap ∧ va_K (n_G X).1 vwCl (tyG (n_G X).2.1) U ∧ wY (n_G X).2.2 (fun q => n_a X + (n_b X + 1 + L.length) ≤ q) U U.heap ∧ wV2 U) (Value.ref (n_a X + (n_b X + 1 + L.length)) :: []).toArray U := by
    intro U hU hW
    subst hU
    exact ⟨rfl, z1, born, hK.moved hW.alike, (hZ.warm hW hSn).narrow (fun q hq => by show n_a X + n_b X ≤ q; omega), hV.warm hW⟩
  have go : ∀ (u : mM) (t : State) (H2 : Heap) (locs2 : List Loc), t.heap = H2 → Pm (n_b X + 1 + L.length) u → (t.heap.size = n_a X + (n_b X + 1 + L.length) + (lyC c' (n_b X + 1 + L.length)).length ∧ hpB (n_G X) (n_a X) (n_b X + 1 + L.length) (lyC c' (n_b X + 1 + L.length)) u t.heap) → H1.size ≤ H2.size → (∀ q : Nat, q < H1.size → ¬ n_a X + (n_b X + 1 + L.length) ≤ q → H2[q]? = H1[q]?) → va_S (n_O X) (n_S X).heap H2 locs2 → W (n_P X) (n_L X) (n_E X) (n_R X) (n_S X) (n_M X) (n_A X) (n_B X) (n_me X) (n_c X) H2 locs2 (k + 1 + mc) (n + N + ms) (n_Q X) (F0 (n_M X) (pc + 3 + 1 + 3) ls (.ref (n_a X + (n_b X + 1 + L.length)) :: st)) := by
    intro u t H2 locs2 ht hp hB hz2 hk2 hS2
    subst ht
    have ln := hlen (n_b X + 1 + L.length)
    refine kk u hp t.heap locs2 ls (by rw [hB.1, List.length_append]; omega) (ho1.kept (hk2 _ (by omega) (by omega))) (hpB_app (hpB_cg (hpB_kept hL1 (fun q h1 h2 => hk2 q (by omega) (by omega))) (fun q h1 h2 => mg_lo (by omega))) (hpB_cg hB.2 (fun q h1 h2 => mg_mid (by omega) (by omega)))) hS2 hls
  rcases hlink with hl | hl
  · refine va_callv (va_runI (As := []) (rest := .ref (n_a X + (n_b X + 1 + L.length)) :: st) ⟨hexec, hb, hml, hown, hts⟩ (hCN (n_G X) (n_a X) (n_b X + 1 + L.length)) ⟨callB_of 0 hts (wL_goodIn0 y1) rfl rfl rfl (hts _ y2) (hts _ hl) ⟨y4.1, y4.2, y5⟩ ⟨hfr, hlo⟩, hy, hts _ hyi⟩ ⟨fb, pre⟩ rfl rfl hls.1 rfl (lv_room (hs _)) hd3 ⟨hcells, hslots⟩) hSn (fun q _ h => by show n_a X + n_b X ≤ q; have h : n_a X + (n_b X + 1 + L.length) ≤ q := h; omega) (fun q h => by show n_a X + n_b X ≤ q; have h : n_a X + (n_b X + 1 + L.length) ≤ q := h; omega) (fun u t H2 locs2 ht hvm hp hB hz2 hk2 hS2 => go u t H2 locs2 ht hp hB hz2 hk2 hS2)
  · refine va_callv (va_runIN (As := []) (rest := .ref (n_a X + (n_b X + 1 + L.length)) :: st) ⟨hexec, hb, hml, hown, hts⟩ (hCN (n_G X) (n_a X) (n_b X + 1 + L.length)) ⟨va_cnB 0 hts (wL_goodIn0 y1) rfl rfl rfl (hV.1 _ hl) (hts _ y2) ⟨y4.1, y4.2, y5⟩ ⟨hfr, hlo⟩, hy, hts _ hyi⟩ ⟨fb, pre⟩ rfl rfl hls.1 rfl (lv_room (hs _)) hd3 ⟨hcells, hslots⟩) hSn (fun q _ h => by show n_a X + n_b X ≤ q; have h : n_a X + (n_b X + 1 + L.length) ≤ q := h; omega) (fun q h => by show n_a X + n_b X ≤ q; have h : n_a X + (n_b X + 1 + L.length) ≤ q := h; omega) (fun u t H2 locs2 ht hvm hp hB hz2 hk2 hS2 => go u t H2 locs2 ht hp hB hz2 hk2 hS2)
end NROWS3
