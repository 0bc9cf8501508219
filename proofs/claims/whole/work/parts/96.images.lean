/-! an array of objects under construction -/
def NI (X : nX) (pc : Nat) (fs : List Value) (L : List kK) (f : Nat → Option Nat) (L2 : List kK) (M : mM) (st : List Value) (k n : Nat) : Prop :=
  ∀ (H : Heap) (locs : List Loc) (ls : Array Slot), H.size = n_a X + n_b X + 1 + L.length + 1 + L2.length → va_at (n_G X).1 vwCl (n_a X + n_b X, .inr (n_k X, fs)) H → hpB (n_G X) (n_a X) (n_b X + 1) L M H → va_at (n_G X).1 vwCl (n_a X + (n_b X + 1 + L.length), .inl ((n_G X).2.1 4, 2, .inr (.inr (.inr (.inr f))))) H → hpB (n_G X) (n_a X) (n_b X + 1 + L.length + 1) L2 M H → va_S (n_O X) (n_S X).heap H locs → lv_has ls 1 [(0, .ref (n_a X + n_b X))] →
    W (n_P X) (n_L X) (n_E X) (n_R X) (n_S X) (n_M X) (n_A X) (n_B X) (n_me X) (n_c X) H locs k n (n_Q X) (F0 (n_M X) pc ls st)
theorem arrV_cg {c : ClassId} {N : Nat} {f g : Nat → Value} (h : ∀ j, j < N → f j = g j) : arrV c N f = arrV c N g := by
  have e : (fun j : Fin N => f j.val) = fun j : Fin N => g j.val := by
    funext j
    exact h j.val j.isLt
  show ({ cls := c, slots := Array.ofFn (n := N) fun j => f j.val, vm := .none } : Cell) = { cls := c, slots := Array.ofFn (n := N) fun j => g j.val, vm := .none }
  rw [e]
section NROWS5
variable {X : nX} {cc : ByteArray} {own : String} {pc : Nat} {fs : List Value} {L : List kK} {f : Nat → Option Nat} {L2 : List kK} {M : mM} {st : List Value} {k n : Nat}
theorem NI_dup (C : NX X cc own) {v : Value} (hd : decode cc pc = .ok (.dup, 1)) (hc : v.category = 1) (kk : NI X (pc + 1) fs L f L2 M (v :: v :: st) k n) : NI X pc fs L f L2 M (v :: st) k n := fun H lo ls a b c r c2 d e => lv_dup C.1 C.2.1 hd hc (kk H lo ls a b c r c2 d e)
theorem NI_iconst (C : NX X cc own) {i : Int} (v : Int32) (hd : decode cc pc = .ok (.iconst i, 1)) (hv : Int32.ofInt i = v) (kk : NI X (pc + 1) fs L f L2 M (.int v :: st) k n) : NI X pc fs L f L2 M st k n := fun H lo ls a b c r c2 d e => lv_iconst C.1 C.2.1 hd hv (kk H lo ls a b c r c2 d e)
theorem NI_done {r : Nat → Nat} (hf : ∀ j, j < 2 → f j = some (n_a X + r j)) (kk : NB X pc fs (L ++ kR 4 2 r :: L2) M st k n) : NI X pc fs L f L2 M st k n := by
  intro H locs ls hz ho hL hr hL2 hS hls
  refine kk H locs ls (by rw [hz, List.length_append, List.length_cons]; omega) ho (hpB_app hL (fun q z hq => ?_)) hS hls
  cases q with
  | zero =>
    have hq : kR 4 2 r = z := Option.some.inj hq
    subst hq
    have hr : H[n_a X + (n_b X + 1 + L.length)]? = some (vp_cell ((n_G X).2.1 4) (2, .inr (.inr (.inr (.inr f))))) := hr
    show H[n_a X + (n_b X + 1 + L.length + 0)]? = some (vp_cell ((n_G X).2.1 4) (2, .inr (.inr (.inr (.inr (fun j => some (n_a X + r j)))))))
    rw [Nat.add_zero, hr, vp_cell_q, vp_cell_q]
    congr 1
    exact arrV_cg (fun j hj => by rw [hf j hj])
  | succ q =>
    have := hL2 q z hq
    rw [show n_b X + 1 + L.length + (q + 1) = n_b X + 1 + L.length + 1 + q by omega]
    exact this
theorem NB_newq (C : NX X cc own) {idx : Nat} (hcl : Cond.classLink own idx "PaintedGods$Statue" ∈ wsL_law) (hcells : k + 1 ≤ (n_R X).cells) (hslots : n + 2 ≤ (n_R X).slots) (hd : decode cc pc = .ok (.anewarray idx, 3)) (kk : NI X (pc + 3) fs L (fun _ => none) [] M (.ref (n_a X + (n_b X + 1 + L.length)) :: st) (k + 1) (n + 2)) : NB X pc fs L M (.int 2 :: st) k n := by
  intro H locs ls hz ho hL hS hls
  obtain ⟨hexec, hb, hml, hown, hts, hK, hin2, hsz, hZ, hV⟩ := C
  have hS1 := hS.1
  refine W.anew hexec hb hown (hts _ hcl) (va_AO.use hV.2.1) rfl hd rfl (by decide) (by decide) hcells hslots fun cA kA comp f1 f2 f3 f4 => ?_
  obtain ⟨kA2, comp2, g1, g2, g3, g4⟩ := (hK.2 4 _ rfl).2
  have hcA : cA = (n_G X).2.1 4 := Option.some.inj (f1.symm.trans g4)
  subst hcA
  generalize hH1 : H.push ({ cls := (n_G X).2.1 4, slots := Array.replicate (2 : Int32).toNatClampNeg .null, vm := .none } : Cell) = H1
  have z1 : H1.size = H.size + 1 := by rw [← hH1, Array.size_push]
  have e1 : H1[H.size]? = some (arrV ((n_G X).2.1 4) 2 (fun _ => .null)) := by rw [← hH1, Array.getElem?_push_size, ← arrV_new]; rfl
  have o1 : ∀ q : Nat, q < H.size → H1[q]? = H[q]? := fun q hq => by rw [← hH1, Array.getElem?_push, if_neg (Nat.ne_of_lt hq)]
  have sz : H.size = n_a X + (n_b X + 1 + L.length) := by omega
  rw [sz] at e1 ⊢
  exact kk H1 locs ls (by rw [z1, sz]; show n_a X + (n_b X + 1 + L.length) + 1 = n_a X + n_b X + 1 + L.length + 1 + 0; omega) (ho.kept (o1 (n_a X + n_b X) (by omega))) (hpB_kept hL (fun q h1 h2 => o1 q (by omega))) (by show H1[n_a X + (n_b X + 1 + L.length)]? = some (vp_cell _ _); rw [vp_cell_q, e1]; rfl) hpB_nil ⟨by rw [z1]; omega, fun q h1 h2 => (o1 q (by omega)).trans (hS.2.1 q h1 h2), hS.2.2⟩ hls
theorem NI_aast (C : NX X cc own) {qk : Nat} {ks : List kF} {i : Int32} (hv : L2[qk]? = some (kO 2 ks)) (hin : vp_in i 2) (hd : decode cc pc = .ok (.aastore, 1)) (kk : NI X (pc + 1) fs L (va_up f i.toNatClampNeg (some (n_a X + (n_b X + 1 + L.length + 1 + qk)))) L2 M st k n) : NI X pc fs L f L2 M (.ref (n_a X + (n_b X + 1 + L.length + 1 + qk)) :: .int i :: .ref (n_a X + (n_b X + 1 + L.length)) :: st) k n := by
  intro H locs ls hz ho hL hr hL2 hS hls
  obtain ⟨hexec, hb, hml, hown, hts, hK, hin2, hsz, hZ, hV⟩ := C
  have hlt : i.toNatClampNeg < 2 := Nat.not_le.mp fun q => hin (Or.inr q)
  have h0 : ¬ i < 0 := fun q => hin (Or.inl q)
  have hlq := (List.getElem?_eq_some_iff.mp hv).1
  obtain ⟨r', hr', cellV, g1, g2, g3, -⟩ := hL2 qk _ hv
  have hcls := (hK.1 2 _ rfl).2
  obtain ⟨kA, comp, k1, k2, k3, -⟩ := (hK.2 4 _ rfl).2
  have hcomp : comp = (n_G X).1.1 2 := Option.some.inj (k3.symm.trans hcls.1)
  subst hcomp
  obtain ⟨kC, hkC, -⟩ := hcls.2
  have hr0 : H[n_a X + (n_b X + 1 + L.length)]? = some (vp_cell ((n_G X).2.1 4) (2, .inr (.inr (.inr (.inr f))))) := hr
  refine W.aast hexec hb hr0 (fun q h => by cases h) (fun h => by cases h) k1 k2 rfl hkC ⟨h0, by show _ < (arrV _ _ _).slots.size; rw [arrV_size]; exact hlt⟩ g1 (fun q h => by rw [g3] at h; cases h) (by rw [g2]; exact hkC) (by rw [g2]; exact va_assign hcls) rfl rfl hd fun H1 e z oq => ?_
  refine kk H1 _ ls (by rw [z]; exact hz) (ho.kept (oq (n_a X + n_b X) (show n_a X + n_b X ≠ n_a X + (n_b X + 1 + L.length) by omega))) (hpB_kept hL (fun q h1 h2 => oq q (show q ≠ n_a X + (n_b X + 1 + L.length) by omega))) ?_ (hpB_kept hL2 (fun q h1 h2 => oq q (show q ≠ n_a X + (n_b X + 1 + L.length) by omega))) (hS.put z oq (show n_a X + n_b X ≤ n_a X + (n_b X + 1 + L.length) by omega)) hls
  show H1[n_a X + (n_b X + 1 + L.length)]? = some (vp_cell _ _)
  rw [e, vp_cell_q, vp_cell_q, arrV_store]
  congr 1
  refine arrV_cg (fun q _ => ?_)
  unfold updV va_up
  by_cases hq : q = i.toNatClampNeg
  · rw [if_pos hq, if_pos hq]; rfl
  · rw [if_neg hq, if_neg hq]
theorem NI_make (C : NX X cc own) {y : MethodName} {bytes : ByteArray} {c' mc ms h' N idx idx2 len : Nat} {Cn : String} {T : u_T} {ty0 : Nat → FieldType} {f0 : List Value} {Pm : Nat → mM → Prop} (hCN : CN (n_L X) h' c' mc ms y bytes f0 Pm) (hc : vwCl[c']? = some (Cn, T, N)) (hin : ∀ q ∈ u_ws Cn T N, q ∈ wsL_law) (hty : ∀ j, j < N → parseFieldDescriptor (T j).2.2.1 = some (ty0 j)) (hfs : ∀ j, j < N → defaultValue (ty0 j) = vp_V f0 j)
    (hcl : Cond.classLink own idx Cn ∈ wsL_law) (hins : Cond.instantiable Cn N ∈ wsL_law) (hini : Cond.initialized Cn ∈ wsL_law) (ym : YM y bytes 1 none 0) (hy : y.name = "<init>") (hyi : Cond.instanceMethod y ∈ wsL_law) (hlink : Cond.methodLink own idx2 y ∈ wsL_law ∨ Cond.methodLinkNest own idx2 y "PaintedGods" ∈ zNes2)
    (hlen : ∀ b, (lyC c' b).length = len) (hfr : h' + 1 ≤ (n_R X).frames) (hlo : 8 + (1 + 11) + 37 * h' ≤ (n_R X).locals) (hcells : k + 1 + mc ≤ (n_R X).cells) (hslots : n + N + ms ≤ (n_R X).slots) (hs : ∀ a : Nat, ((Value.ref a :: st).map fun v => v.category).sum ≤ 8)
    (hd1 : decode cc pc = .ok (.new idx, 3)) (hd2 : decode cc (pc + 3) = .ok (.dup, 1)) (hd3 : decode cc (pc + 3 + 1) = .ok (.invokespecial idx2, 3))
    (kk : ∀ u, Pm (n_b X + 1 + L.length + 1 + L2.length) u → NI X (pc + 3 + 1 + 3) fs L f (L2 ++ lyC c' (n_b X + 1 + L.length + 1 + L2.length)) (mg (n_b X + 1 + L.length + 1 + L2.length) (n_b X + 1 + L.length + 1 + L2.length + len) M u) (.ref (n_a X + (n_b X + 1 + L.length + 1 + L2.length)) :: st) (k + 1 + mc) (n + N + ms)) : NI X pc fs L f L2 M st k n := by
  intro H locs ls hz ho hL hr hL2 hS hls
  obtain ⟨hexec, hb, hml, hown, hts, hK, hin2, hsz, hZ, hV⟩ := C
  have hz : H.size = n_a X + (n_b X + 1 + L.length + 1 + L2.length) := by rw [hz]; omega
  have hKn := hK.1 c' _ hc
  have hS1 := hS.1
  refine W.newcK hexec hb hown (hts _ hcl) (hts _ hins) (hts _ hini) rfl hd1 (by omega) (by omega) hKn.2.1 hz fun H1 kC hkC e1 z1 o1 => ?_
  have born : va_at (n_G X).1 vwCl (n_a X + (n_b X + 1 + L.length + 1 + L2.length), .inr (c', f0)) H1 := ⟨_, hc, (u_born ty0 hts hin hKn hkC e1 hty).to hfs⟩
  have hSn : va_S (n_O X) (n_S X).heap H1 locs := ⟨by rw [z1]; omega, fun q h1 h2 => (o1 q (by omega)).trans (hS.2.1 q h1 h2), hS.2.2⟩
  have hL1 := hpB_kept hL (H1 := H1) (fun q h1 h2 => o1 q (by omega))
  have ho1 := ho.kept (H1 := H1) (o1 (n_a X + n_b X) (by omega))
  have hr1 := hr.kept (H1 := H1) (o1 (n_a X + (n_b X + 1 + L.length)) (by omega))
  have hL21 := hpB_kept hL2 (H1 := H1) (fun q h1 h2 => o1 q (by omega))
  refine lv_dup hexec hb hd2 rfl ?_
  obtain ⟨y1, y2, y3, y4, y5⟩ := ym
  have fb : FrameBlind (va_Pc [.ref (n_a X + (n_b X + 1 + L.length + 1 + L2.length))] (fun U => U.heap.size = n_a X + (n_b X + 1 + L.length + 1 + L2.length) + 1 ∧ va_at (n_G X).1 vwCl (n_a X + (n_b X + 1 + L.length + 1 + L2.length), .inr (c', f0)) U.heap ∧ va_K (n_G X).1 vwCl (tyG (n_G X).2.1) U ∧ wY (n_G X).2.2 (fun q => n_a X + (n_b X + 1 + L.length + 1 + L2.length) ≤ q) U U.heap ∧ wV2 U)) := by
    intro a0 U g mk q
    obtain ⟨q0, q1, q2, q3, q4, q5⟩ := q
    exact ⟨q0, q1, q2, va_K.moved (u := U) (U := U.calling g mk a0) (Vm.Alike.refl U.vm) q3, q4.blind g mk a0, q5.blind g mk a0⟩
  have pre : ∀ U : State, U.heap = H1 → (n_S X).WarmedH U.vm → va_Pc [.ref (n_a X + (n_b X + 1 + L.length + 1 + L2.length))] (fun U => U.heap.size = n_a X + (n_b X + 1 + L.length + 1 + L2.length) + 1 ∧ va_at (n_G X).1 vwCl (n_a X + (n_b X + 1 + L.length + 1 + L2.length), .inr (c', f0)) U.heap ∧ va_K (n_G X).1 vwCl (tyG (n_G X).2.1) U ∧ wY (n_G X).2.2 (fun q => n_a X + (n_b X + 1 + L.length + 1 + L2.length) ≤ q) U U.heap ∧ wV2 U) (Value.ref (n_a X + (n_b X + 1 + L.length + 1 + L2.length)) :: []).toArray U := by
    intro U hU hW
    subst hU
    exact ⟨rfl, z1, born, hK.moved hW.alike, (hZ.warm hW hSn).narrow (fun q hq => by show n_a X + n_b X ≤ q; omega), hV.warm hW⟩
  have go : ∀ (u : mM) (t : State) (H2 : Heap) (locs2 : List Loc), t.heap = H2 → Pm (n_b X + 1 + L.length + 1 + L2.length) u → (t.heap.size = n_a X + (n_b X + 1 + L.length + 1 + L2.length) + (lyC c' (n_b X + 1 + L.length + 1 + L2.length)).length ∧ hpB (n_G X) (n_a X) (n_b X + 1 + L.length + 1 + L2.length) (lyC c' (n_b X + 1 + L.length + 1 + L2.length)) u t.heap) → H1.size ≤ H2.size → (∀ q : Nat, q < H1.size → ¬ n_a X + (n_b X + 1 + L.length + 1 + L2.length) ≤ q → H2[q]? = H1[q]?) → va_S (n_O X) (n_S X).heap H2 locs2 → W (n_P X) (n_L X) (n_E X) (n_R X) (n_S X) (n_M X) (n_A X) (n_B X) (n_me X) (n_c X) H2 locs2 (k + 1 + mc) (n + N + ms) (n_Q X) (F0 (n_M X) (pc + 3 + 1 + 3) ls (.ref (n_a X + (n_b X + 1 + L.length + 1 + L2.length)) :: st)) := by
    intro u t H2 locs2 ht hp hB hz2 hk2 hS2
    subst ht
    have ln := hlen (n_b X + 1 + L.length + 1 + L2.length)
    refine kk u hp t.heap locs2 ls (by rw [hB.1, List.length_append]; omega) (ho1.kept (hk2 _ (by omega) (by omega))) (hpB_cg (hpB_kept hL1 (fun q h1 h2 => hk2 q (by omega) (by omega))) (fun q h1 h2 => mg_lo (by omega))) (hr1.kept (hk2 (n_a X + (n_b X + 1 + L.length)) (by omega) (by omega))) (hpB_app (hpB_cg (hpB_kept hL21 (fun q h1 h2 => hk2 q (by omega) (by omega))) (fun q h1 h2 => mg_lo (by omega))) (hpB_cg hB.2 (fun q h1 h2 => mg_mid (by omega) (by omega)))) hS2 hls
  rcases hlink with hl | hl
  · refine va_callv (va_runI (As := []) (rest := .ref (n_a X + (n_b X + 1 + L.length + 1 + L2.length)) :: st) ⟨hexec, hb, hml, hown, hts⟩ (hCN (n_G X) (n_a X) (n_b X + 1 + L.length + 1 + L2.length)) ⟨callB_of 0 hts (wL_goodIn0 y1) rfl rfl rfl (hts _ y2) (hts _ hl) ⟨y4.1, y4.2, y5⟩ ⟨hfr, hlo⟩, hy, hts _ hyi⟩ ⟨fb, pre⟩ rfl rfl hls.1 rfl (lv_room (hs _)) hd3 ⟨hcells, hslots⟩) hSn (fun q _ h => by show n_a X + n_b X ≤ q; have h : n_a X + (n_b X + 1 + L.length + 1 + L2.length) ≤ q := h; omega) (fun q h => by show n_a X + n_b X ≤ q; have h : n_a X + (n_b X + 1 + L.length + 1 + L2.length) ≤ q := h; omega) (fun u t H2 locs2 ht hvm hp hB hz2 hk2 hS2 => go u t H2 locs2 ht hp hB hz2 hk2 hS2)
  · refine va_callv (va_runIN (As := []) (rest := .ref (n_a X + (n_b X + 1 + L.length + 1 + L2.length)) :: st) ⟨hexec, hb, hml, hown, hts⟩ (hCN (n_G X) (n_a X) (n_b X + 1 + L.length + 1 + L2.length)) ⟨va_cnB 0 hts (wL_goodIn0 y1) rfl rfl rfl (hV.1 _ hl) (hts _ y2) ⟨y4.1, y4.2, y5⟩ ⟨hfr, hlo⟩, hy, hts _ hyi⟩ ⟨fb, pre⟩ rfl rfl hls.1 rfl (lv_room (hs _)) hd3 ⟨hcells, hslots⟩) hSn (fun q _ h => by show n_a X + n_b X ≤ q; have h : n_a X + (n_b X + 1 + L.length + 1 + L2.length) ≤ q := h; omega) (fun q h => by show n_a X + n_b X ≤ q; have h : n_a X + (n_b X + 1 + L.length + 1 + L2.length) ≤ q := h; omega) (fun u t H2 locs2 ht hvm hp hB hz2 hk2 hS2 => go u t H2 locs2 ht hp hB hz2 hk2 hS2)
end NROWS5
