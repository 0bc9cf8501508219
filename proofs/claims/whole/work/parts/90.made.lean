/-! objects under construction: cells one behind the other -/
abbrev aT (a : Nat) : Nat → Nat := fun q => a + q
/-- the classes, the array classes, the addresses of what stands before -/
abbrev gU : Type := va_G × (Nat → ClassId) × (Nat → Nat)
def eA (G : gU) (a : Nat) (M : mM) (k : Nat) (z : kK) : Nat × va_E := (a + k, wE (aT a) G.2.1 (M.1 k) (M.2 k) z)
def hpB (G : gU) (a b : Nat) (L : List kK) (M : mM) (H : Heap) : Prop := ∀ k z, L[k]? = some z → va_at G.1 vwCl (eA G a M (b + k) z) H
theorem hpB_nil {G : gU} {a b : Nat} {M : mM} {H : Heap} : hpB G a b [] M H := fun k z h => by cases h
theorem hpB_app {G : gU} {a b : Nat} {L1 L2 : List kK} {M : mM} {H : Heap} (h1 : hpB G a b L1 M H) (h2 : hpB G a (b + L1.length) L2 M H) : hpB G a b (L1 ++ L2) M H := by
  intro k z hk
  by_cases hl : k < L1.length
  · rw [List.getElem?_append_left hl] at hk
    exact h1 k z hk
  · rw [List.getElem?_append_right (by omega)] at hk
    have := h2 (k - L1.length) z hk
    rw [show b + L1.length + (k - L1.length) = b + k by omega] at this
    exact this
theorem hpB_one {G : gU} {a b : Nat} {z : kK} {M : mM} {H : Heap} (h : va_at G.1 vwCl (eA G a M b z) H) : hpB G a b [z] M H := by
  intro k z' hk
  have hz : k < 1 := (List.getElem?_eq_some_iff.mp hk).1
  have : k = 0 := by omega
  subst this
  cases hk
  exact h
theorem hpB_kept {G : gU} {a b : Nat} {L : List kK} {M : mM} {H H1 : Heap} (h : hpB G a b L M H) (hq : ∀ q, a + b ≤ q → q < a + b + L.length → H1[q]? = H[q]?) : hpB G a b L M H1 := fun k z hk => by
  have hl := (List.getElem?_eq_some_iff.mp hk).1
  exact (h k z hk).kept (hq (a + (b + k)) (by omega) (by omega))
theorem hpB_cg {G : gU} {a b : Nat} {L : List kK} {M M' : mM} {H : Heap} (h : hpB G a b L M H) (e : ∀ k, b ≤ k → k < b + L.length → M'.1 k = M.1 k ∧ M'.2 k = M.2 k) : hpB G a b L M' H := fun k z hk => by
  have hl := (List.getElem?_eq_some_iff.mp hk).1
  have h1 := h k z hk
  unfold eA at h1 ⊢
  rw [(e (b + k) (by omega) (by omega)).1, (e (b + k) (by omega) (by omega)).2]
  exact h1
theorem hpB_size {G : gU} {a b : Nat} {L : List kK} {M : mM} {H : Heap} (h : hpB G a b L M H) {k : Nat} (hk : k < L.length) : a + (b + k) < H.size := (h k _ (List.getElem?_eq_getElem hk)).lt
abbrev tyG (C : Nat → ClassId) : List (ClassId × FieldType) := [(C 0, .int), (C 1, .long), (C 2, .byte), (C 3, .boolean), (C 4, .object "PaintedGods$Statue"), (C 5, .array .int), (C 6, .array .long)]
def zNes2 : List Cond := [.methodLinkNest RX6 29 yX3_init "PaintedGods", .methodLinkNest RX6 36 yX4_init "PaintedGods", .methodLinkNest RX6 43 yX1_init "PaintedGods", .methodLinkNest RX6 57 yX5_init "PaintedGods", .methodLinkNest RX0 9 yX5_init "PaintedGods"]
/-- what stands before, whatever set of cells is ours -/
def wY (S : Nat → Nat) (A : Nat → Prop) (U : State) (H : Heap) : Prop :=
  (∀ i, i < 4 → va_Z (zC i) (zN i) "[I" (.ref (S i)) A U H ∧ va_T .int (S i) (zL i).length (fun j => .int (zF i j)) A U H) ∧
  (∀ x ∈ zNest, va_Nw x U) ∧
  (vk_R RX3 100 zText (S 4) U ∧ vk_S 1 [zBytes.length] [zBytes] (fun _ => S 4) (fun _ => S 5) A U H ∧ va_Z RJ0 "COMPACT_STRINGS" "Z" (.int 1) A U H ∧ va_Zq RJ3 "SIOOBE_FORMATTER" "Ljava/util/function/BiFunction;" A U H)
/-- the words of construction that the lists don't hold -/
def wV2 (U : State) : Prop := (∀ x ∈ zNes2, va_Nw x U) ∧ va_AO "PaintedGods$Statue" U ∧ (Cond.arrayOver (.array .int)).before #[] U = true ∧ (Cond.arrayOver (.array .long)).before #[] U = true
theorem wY.narrow {S : Nat → Nat} {A B : Nat → Prop} {U : State} {H : Heap} (h : wY S A U H) (hAB : ∀ q, B q → A q) : wY S B U H := by
  obtain ⟨h1, h2, h3, h4, h5, h6⟩ := h
  exact ⟨fun i hi => ⟨(h1 i hi).1.narrow hAB, (h1 i hi).2.narrow hAB⟩, h2, h3, h4.narrow hAB, h5.narrow hAB, h6.narrow hAB⟩
theorem wY.warm {S : Nat → Nat} {A : Nat → Prop} {s U : State} {locs : List Loc} (hW : s.WarmedH U.vm) (hS : va_S A s.heap U.heap locs) (h : wY S A s s.heap) : wY S A U U.heap := by
  obtain ⟨h1, h2, h3, h4, h5, h6⟩ := h
  have ha := hW.alike
  exact ⟨fun i hi => ⟨((h1 i hi).1.kept hS.2.1).moved ha, ((h1 i hi).2.kept hS.2.1).moved ha⟩, zNest_warm hW h2, h3.warm hW, (h4.kept hS.2.1).moved ha, (h5.kept hS.2.1).moved ha, (h6.kept hS.2.1).moved ha⟩
theorem wY.blind {S : Nat → Nat} {A : Nat → Prop} {U : State} (g : JFrame) (mk : MethodId) (a : Array Value) (h : wY S A U U.heap) : wY S A (U.calling g mk a) (U.calling g mk a).heap := by
  obtain ⟨h1, h2, h3, h4, h5, h6⟩ := h
  have ha : U.vm.Alike (U.calling g mk a).vm := Vm.Alike.refl U.vm
  refine ⟨fun i hi => ⟨(h1 i hi).1.moved ha, (h1 i hi).2.moved ha⟩, fun x hx => ?_, h3.same rfl, h4.moved ha, h5.moved ha, h6.moved ha⟩
  have h9 := h2 x hx
  simp only [zNest, List.mem_cons, List.not_mem_nil, or_false] at hx
  rcases hx with rfl | rfl | rfl | rfl | rfl | rfl | rfl | rfl | rfl | rfl <;> exact va_tabs rfl (rfl : U.vm = (U.calling g mk a).vm) h9
theorem wV2.warm {s U : State} (hW : s.WarmedH U.vm) (h : wV2 s) : wV2 U := by
  obtain ⟨h1, h2, h3, h4⟩ := h
  refine ⟨fun x hx => ?_, h2.moved hW.alike, arrayOver_alikeB hW.alike h3, arrayOver_alikeB hW.alike h4⟩
  have h9 := h1 x hx
  simp only [zNes2, List.mem_cons, List.not_mem_nil, or_false] at hx
  rcases hx with rfl | rfl | rfl | rfl | rfl <;> exact va_Nw.warmM hW h9
theorem wV2.blind {U : State} (g : JFrame) (mk : MethodId) (a : Array Value) (h : wV2 U) : wV2 (U.calling g mk a) := by
  obtain ⟨h1, h2, h3, h4⟩ := h
  have ha : U.vm.Alike (U.calling g mk a).vm := Vm.Alike.refl U.vm
  refine ⟨fun x hx => ?_, h2.moved ha, arrayOver_alikeB ha h3, arrayOver_alikeB ha h4⟩
  have h9 := h1 x hx
  simp only [zNes2, List.mem_cons, List.not_mem_nil, or_false] at hx
  rcases hx with rfl | rfl | rfl | rfl | rfl <;> exact va_tabs rfl (rfl : U.vm = (U.calling g mk a).vm) h9
/-! the walk of a constructor: the object's own cell at a + b, then what is made -/
abbrev nX : Type := Program × Launch × Env × Room × State × MethodId × Array Value × List Frame × Method × Code × (State → Prop) × gU × Nat × Nat × Nat
abbrev n_P (X : nX) : Program := X.1
abbrev n_L (X : nX) : Launch := X.2.1
abbrev n_E (X : nX) : Env := X.2.2.1
abbrev n_R (X : nX) : Room := X.2.2.2.1
abbrev n_S (X : nX) : State := X.2.2.2.2.1
abbrev n_M (X : nX) : MethodId := X.2.2.2.2.2.1
abbrev n_A (X : nX) : Array Value := X.2.2.2.2.2.2.1
abbrev n_B (X : nX) : List Frame := X.2.2.2.2.2.2.2.1
abbrev n_me (X : nX) : Method := X.2.2.2.2.2.2.2.2.1
abbrev n_c (X : nX) : Code := X.2.2.2.2.2.2.2.2.2.1
abbrev n_Q (X : nX) : State → Prop := X.2.2.2.2.2.2.2.2.2.2.1
abbrev n_G (X : nX) : gU := X.2.2.2.2.2.2.2.2.2.2.2.1
abbrev n_a (X : nX) : Nat := X.2.2.2.2.2.2.2.2.2.2.2.2.1
abbrev n_b (X : nX) : Nat := X.2.2.2.2.2.2.2.2.2.2.2.2.2.1
abbrev n_k (X : nX) : Nat := X.2.2.2.2.2.2.2.2.2.2.2.2.2.2
def n_O (X : nX) : Nat → Prop := fun q => n_a X + n_b X ≤ q
/-- pc, own fields, kinds of what is made, memory, stack, cells, slots -/
def NB (X : nX) (pc : Nat) (fs : List Value) (L : List kK) (M : mM) (st : List Value) (k n : Nat) : Prop :=
  ∀ (H : Heap) (locs : List Loc) (ls : Array Slot), H.size = n_a X + n_b X + 1 + L.length → va_at (n_G X).1 vwCl (n_a X + n_b X, .inr (n_k X, fs)) H → hpB (n_G X) (n_a X) (n_b X + 1) L M H → va_S (n_O X) (n_S X).heap H locs → lv_has ls 1 [(0, .ref (n_a X + n_b X))] →
    W (n_P X) (n_L X) (n_E X) (n_R X) (n_S X) (n_M X) (n_A X) (n_B X) (n_me X) (n_c X) H locs k n (n_Q X) (F0 (n_M X) pc ls st)
def NX (X : nX) (cc : ByteArray) (own : String) : Prop :=
  (n_P X).tables.exec = Jvm.exec ∧ (n_c X).code = cc ∧ (n_c X).maxLocals = 1 ∧ (n_S X).vm.findClass own = some (n_M X).cls ∧ (∀ q ∈ wsL_law, q.before (n_A X) (n_S X) = true) ∧ va_K (n_G X).1 vwCl (tyG (n_G X).2.1) (n_S X) ∧ (n_me X).name = "<init>" ∧ (n_S X).heap.size = n_a X + n_b X + 1 ∧ wY (n_G X).2.2 (n_O X) (n_S X) (n_S X).heap ∧ wV2 (n_S X)
section NROWS
variable {X : nX} {cc : ByteArray} {own : String} {pc : Nat} {fs : List Value} {L : List kK} {M : mM} {st : List Value} {k n : Nat}
theorem NB_aload (C : NX X cc own) (hd : decode cc pc = .ok (.aload_n 0, 1)) (kk : NB X (pc + 1) fs L M (.ref (n_a X + n_b X) :: st) k n) : NB X pc fs L M st k n := fun H lo ls a b c d e => lv_aload_n C.1 C.2.1 hd rfl (lv_at e 0 rfl) (kk H lo ls a b c d e)
theorem NB_iconst (C : NX X cc own) {i : Int} (v : Int32) (hd : decode cc pc = .ok (.iconst i, 1)) (hv : Int32.ofInt i = v) (kk : NB X (pc + 1) fs L M (.int v :: st) k n) : NB X pc fs L M st k n := fun H lo ls a b c d e => lv_iconst C.1 C.2.1 hd hv (kk H lo ls a b c d e)
theorem NB_bipush (C : NX X cc own) {i : Int} (v : Int32) (hd : decode cc pc = .ok (.bipush i, 2)) (hv : (Int8.ofInt i).toInt32 = v) (kk : NB X (pc + 2) fs L M (.int v :: st) k n) : NB X pc fs L M st k n := fun H lo ls a b c d e => lv_bipush C.1 C.2.1 hd hv (kk H lo ls a b c d e)
theorem NB_sipush (C : NX X cc own) {i : Int} (v : Int32) (hd : decode cc pc = .ok (.sipush i, 3)) (hv : (Int16.ofInt i).toInt32 = v) (kk : NB X (pc + 3) fs L M (.int v :: st) k n) : NB X pc fs L M st k n := fun H lo ls a b c d e => lv_sipush C.1 C.2.1 hd hv (kk H lo ls a b c d e)
theorem NB_dup (C : NX X cc own) {v : Value} (hd : decode cc pc = .ok (.dup, 1)) (hc : v.category = 1) (kk : NB X (pc + 1) fs L M (v :: v :: st) k n) : NB X pc fs L M (v :: st) k n := fun H lo ls a b c d e => lv_dup C.1 C.2.1 hd hc (kk H lo ls a b c d e)
/-- a final field of the class's own, of this type -/
def FN (own : String) (idx ci j : Nat) (t : FieldType) : Prop := ∃ (C : String) (T : u_T) (N : Nat) (ty : Nat → FieldType), vwCl[ci]? = some (C, T, N) ∧ (∀ q ∈ u_ws C T N, q ∈ wsL_law) ∧ (∀ k, k < N → parseFieldDescriptor (T k).2.2.1 = some (ty k)) ∧ (∀ a, a < N → ∀ b, b < N → a ≠ b → (T a).2.1 ≠ (T b).2.1) ∧ j < N ∧ Cond.fieldLink own idx (T j).1 (T j).2.1 (T j).2.2.1 ∈ wsL_law ∧ (T j).2.2.2 = true ∧ (T j).1 = own ∧ parseFieldDescriptor (T j).2.2.1 = some t
theorem NB_putF (C : NX X cc own) {idx j : Nat} {ty : FieldType} (F : FN own idx (n_k X) j ty) {v : Value} (hn : narrow ty v = v) (hfit : fits ty v = true) (hl : j < fs.length) (hd : decode cc pc = .ok (.putfield idx, 3)) (kk : NB X (pc + 3) (fs.set j v) L M st k n) : NB X pc fs L M (v :: .ref (n_a X + n_b X) :: st) k n := by
  intro H locs ls hz ho hL hS hls
  obtain ⟨hexec, hb, hml, hown, hts, hK, hin2, hsz, -⟩ := C
  obtain ⟨Cn, T, N, ty0, hc, hin, hty, hnm, hj, hlk, hfin, hdecl, hp⟩ := F
  have hap := va_apart (own := own) hts hin ty0 hty hnm hK hc
  obtain ⟨r, h1, cell, q1, q2, q3, q4⟩ := ho
  have hr : r = (Cn, T, N) := Option.some.inj (h1.symm.trans hc)
  subst hr
  obtain ⟨hSl, hfc, kC, hkC, hkind⟩ := hK.1 (n_k X) _ hc
  obtain ⟨cf, kf, fi, f, hi, hsl⟩ := hSl j hj
  have hlay := hts _ (hin _ (u_in_lay hj))
  unfold u_lay at hlay
  rw [if_pos hfin] at hlay
  have hst := (u_facts hfc hkC (u_lays hts hin hj) hi).1
  have hcf : (n_M X).cls = cf := by
    obtain ⟨_, _, c', _, _, _, -, -, hf', -, -, -, hown2, -⟩ := Cond.laysFinal_spec hlay
    have e1 : c' = cf := by have := hi.symm.trans hf'; simp at this; exact this.1.symm
    rw [hdecl] at hown2
    rw [← e1]; exact Option.some.inj (hown.symm.trans hown2)
  have h6 := u_fits hfc hkC hkind (Or.inr hlay) hi hp hn hfit
  refine W.putFinK hexec hb hown (hts _ hlk) hi hst hcf hin2 (by rw [q2]; exact h6) q1 q3 (by rw [hsl]; exact k2_hasslot (q4 j hj)) rfl rfl hd fun H' e1 e2 e3 => ?_
  rw [hsl] at e1 ⊢
  exact kk H' _ ls (by rw [e2]; exact hz) ⟨_, hc, t_OB.to (V := updV (vp_V fs) j v) ⟨_, e1, q2, q3, t_set q4 hap hj v⟩ (fun i _ => vp_updV_set hl v i)⟩ (hpB_kept hL (fun q h1 h2 => e3 q (Nat.ne_of_gt (show n_a X + n_b X < q from h1)))) (hS.put e2 e3 (Nat.le_refl _)) hls
/-- a new array of ints (bytes, booleans) of zeros -/
theorem NB_newI (C : NX X cc own) {atype : ArrayType} {ty : FieldType} {t N : Nat} {i : Int32} (ht : (tyG (n_G X).2.1)[t]? = some ((n_G X).2.1 t, ty)) (hty : newarray.typeOf atype = ty) (hra : ∀ (U : State) (cA : ClassId), va_RA U cA ty → U.vm.findClass ("[" ++ ty.toString) = some cA) (hdv : defaultValue ty = .int 0) (harr : Cond.arrayClass ty ∈ wsL_law) (hn : ¬ i < 0) (hN : i.toNatClampNeg = N) (hbytes : N * componentBytes ty ≤ 536870912) (hm : ∀ j, M.1 (n_b X + 1 + L.length) j = 0) (hcells : k + 1 ≤ (n_R X).cells) (hslots : n + N ≤ (n_R X).slots) (hd : decode cc pc = .ok (.newarray atype, 2)) (kk : NB X (pc + 2) fs (L ++ [kI t N]) M (.ref (n_a X + n_b X + 1 + L.length) :: st) (k + 1) (n + N)) : NB X pc fs L M (.int i :: st) k n := by
  intro H locs ls hz ho hL hS hls
  obtain ⟨hexec, hb, hml, hown, hts, hK, hin2, hsz, -⟩ := C
  subst hty
  refine va_newaK hexec hb (hts _ harr) rfl hd rfl hn hN hbytes hcells hslots hz fun H1 cA e1 z1 o1 hAr hNm => ?_
  have hcA : cA = (n_G X).2.1 t := Option.some.inj (hNm.symm.trans (hra _ _ (hK.2 t _ ht).2))
  subst hcA
  refine kk H1 locs ls (by rw [z1, List.length_append]; rfl) (ho.kept (o1 _ (by omega))) (hpB_app (hpB_kept hL (fun q h1 h2 => o1 q (by omega))) (hpB_one ?_)) ⟨by rw [z1]; have := hS.1; omega, fun q h1 h2 => (o1 q (by omega)).trans (hS.2.1 q h1 h2), hS.2.2⟩ hls
  show H1[n_a X + (n_b X + 1 + L.length)]? = some (vp_cell _ (N, .inl (M.1 (n_b X + 1 + L.length))))
  rw [vp_cell_i, show n_a X + (n_b X + 1 + L.length) = n_a X + n_b X + 1 + L.length by omega, e1, hdv]
  congr 2
  funext j
  rw [hm j]
theorem NB_newL (C : NX X cc own) {atype : ArrayType} {ty : FieldType} {t N : Nat} {i : Int32} (ht : (tyG (n_G X).2.1)[t]? = some ((n_G X).2.1 t, ty)) (hty : newarray.typeOf atype = ty) (hra : ∀ (U : State) (cA : ClassId), va_RA U cA ty → U.vm.findClass ("[" ++ ty.toString) = some cA) (hdv : defaultValue ty = .long 0) (harr : Cond.arrayClass ty ∈ wsL_law) (hn : ¬ i < 0) (hN : i.toNatClampNeg = N) (hbytes : N * componentBytes ty ≤ 536870912) (hm : ∀ j, M.2 (n_b X + 1 + L.length) j = 0) (hcells : k + 1 ≤ (n_R X).cells) (hslots : n + N ≤ (n_R X).slots) (hd : decode cc pc = .ok (.newarray atype, 2)) (kk : NB X (pc + 2) fs (L ++ [kL t N]) M (.ref (n_a X + n_b X + 1 + L.length) :: st) (k + 1) (n + N)) : NB X pc fs L M (.int i :: st) k n := by
  intro H locs ls hz ho hL hS hls
  obtain ⟨hexec, hb, hml, hown, hts, hK, hin2, hsz, -⟩ := C
  subst hty
  refine va_newaK hexec hb (hts _ harr) rfl hd rfl hn hN hbytes hcells hslots hz fun H1 cA e1 z1 o1 hAr hNm => ?_
  have hcA : cA = (n_G X).2.1 t := Option.some.inj (hNm.symm.trans (hra _ _ (hK.2 t _ ht).2))
  subst hcA
  refine kk H1 locs ls (by rw [z1, List.length_append]; rfl) (ho.kept (o1 _ (by omega))) (hpB_app (hpB_kept hL (fun q h1 h2 => o1 q (by omega))) (hpB_one ?_)) ⟨by rw [z1]; have := hS.1; omega, fun q h1 h2 => (o1 q (by omega)).trans (hS.2.1 q h1 h2), hS.2.2⟩ hls
  show H1[n_a X + (n_b X + 1 + L.length)]? = some (vp_cell _ (N, .inr (.inl (M.2 (n_b X + 1 + L.length)))))
  rw [vp_cell_l, show n_a X + (n_b X + 1 + L.length) = n_a X + n_b X + 1 + L.length by omega, e1, hdv]
  congr 2
  funext j
  rw [hm j]
end NROWS
