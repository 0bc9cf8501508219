/-! arrays of arrays, calls of constructors, the end of one -/
def mg (lo hi : Nat) (M u : mM) : mM := (fun j => if j < lo then M.1 j else if j < hi then u.1 j else fun _ => 0, fun j => if j < lo then M.2 j else if j < hi then u.2 j else fun _ => 0)
theorem mg_lo {lo hi j : Nat} {M u : mM} (h : j < lo) : (mg lo hi M u).1 j = M.1 j ∧ (mg lo hi M u).2 j = M.2 j := ⟨if_pos h, if_pos h⟩
theorem mg_mid {lo hi j : Nat} {M u : mM} (h1 : ¬ j < lo) (h2 : j < hi) : (mg lo hi M u).1 j = u.1 j ∧ (mg lo hi M u).2 j = u.2 j := ⟨(if_neg h1).trans (if_pos h2), (if_neg h1).trans (if_pos h2)⟩
theorem mg_hi {lo hi j : Nat} {M u : mM} (h1 : ¬ j < lo) (h2 : ¬ j < hi) : (mg lo hi M u).1 j = (fun _ => 0) ∧ (mg lo hi M u).2 j = (fun _ => 0) := ⟨(if_neg h1).trans (if_neg h2), (if_neg h1).trans (if_neg h2)⟩
theorem arrV_of {cell : Cell} {cI : ClassId} {N : Nat} {f : Nat → Value} (h1 : cell.cls = cI) (h2 : cell.vm = (arrV cI N f).vm) (h3 : cell.slots.size = N) (h4 : ∀ j, j < N → cell.slots[j]? = some (f j)) (h5 : cell.monitor = {} ∧ cell.hash = none) : cell = arrV cI N f := by
  have e : cell.slots = (arrV cI N f).slots := by
    refine Array.ext_getElem? (fun i => ?_)
    by_cases hi : i < N
    · rw [arrV_read cI f hi]
      exact h4 i hi
    · rw [Array.getElem?_eq_none (by omega), Array.getElem?_eq_none (by rw [arrV_size]; omega)]
  cases cell
  simp only [arrV] at *
  simp [h1, h2, e, h5.1, h5.2]
theorem outerC_mon (c : ClassId) (N h0 : Nat) : ∀ i, (Jvm.Free.Multi.outerC c N h0 i).monitor = {} ∧ (Jvm.Free.Multi.outerC c N h0 i).hash = none
  | 0 => ⟨rfl, rfl⟩
  | i + 1 => by
    obtain ⟨a, b⟩ := outerC_mon c N h0 i
    exact ⟨by simp [Jvm.Free.Multi.outerC, Cell.setSlot, a], by simp [Jvm.Free.Multi.outerC, Cell.setSlot, b]⟩
section NROWS2
variable {X : nX} {cc : ByteArray} {own : String} {pc : Nat} {fs : List Value} {L : List kK} {M : mM} {st : List Value} {k n : Nat}
theorem NB_multi (C : NX X cc own) {idx : Nat} {ty : FieldType} {tR t N K : Nat} {i j : Int32} {Cs : String} (zi : kK) (hC : "[" ++ (FieldType.array ty).toString = Cs) (hcl : Cond.classLink own idx Cs ∈ wsL_law) (hover : (Cond.arrayOver (.array ty)).before #[] (n_S X) = true) (harr : Cond.arrayClass ty ∈ wsL_law)
    (hR : (tyG (n_G X).2.1)[tR]? = some ((n_G X).2.1 tR, .array ty)) (ht : (tyG (n_G X).2.1)[t]? = some ((n_G X).2.1 t, ty)) (hra : ∀ (U : State) (cA : ClassId), va_RA U cA ty → U.vm.findClass (FieldType.array ty).toString = some cA)
    (hn : ¬ i < 0) (hk : ¬ j < 0) (hN : i.toNatClampNeg = N) (hK2 : j.toNatClampNeg = K) (hb1 : N * 4 ≤ 536870912) (hb2 : K * componentBytes ty ≤ 536870912) (hb3 : K ≤ 536870912) (hdf : fits ty (defaultValue ty) = true) (hdd : (defaultValue ty).isDefault = true)
    (hz : ∀ (q : Nat) (H1 : Heap), q < N → H1[n_a X + (n_b X + 1 + L.length + 1 + q)]? = some (arrV ((n_G X).2.1 t) K (fun _ => defaultValue ty)) → va_at (n_G X).1 vwCl (eA (n_G X) (n_a X) M (n_b X + 1 + L.length + 1 + q) zi) H1)
    (hcells : k + (1 + N) ≤ (n_R X).cells) (hslots : n + (N + N * K) ≤ (n_R X).slots) (hd : decode cc pc = .ok (.multianewarray idx 2, 4))
    (kk : NB X (pc + 4) fs (L ++ kR tR N (fun q => n_b X + 1 + L.length + 1 + q) :: List.replicate N zi) M (.ref (n_a X + n_b X + 1 + L.length) :: st) (k + 1 + N) (n + N + N * K)) : NB X pc fs L M (.int j :: .int i :: st) k n := by
  intro H locs ls hsz ho hL hS hls
  obtain ⟨hexec, hb, hml, hown, hts, hK, hin2, hs0, -⟩ := C
  subst hC
  subst hN
  subst hK2
  intro T hT Xs
  have hov : (Cond.arrayOver (.array ty)).before (n_A X) (n_S X) = true := arrayOver_alikeB (Vm.Alike.refl _) hover
  obtain ⟨vm₁, cA, comp, hW, hfA, hfC, hO, hI, X1, step⟩ := Xs.multianewarray2F hexec hown (hts _ hcl) hov (hts _ harr) (g := F0 (n_M X) pc ls (.int j :: .int i :: st)) rfl (by rw [hb]; exact hd) (n := i) (k := j) (rest := st) rfl hn hk hb1 hb2 hb3 hdf hdd hcells hslots
  have hcA : cA = (n_G X).2.1 tR := Option.some.inj (hfA.symm.trans (hK.2 tR _ hR).2)
  have hco : comp = (n_G X).2.1 t := Option.some.inj (hfC.symm.trans (hra _ _ (hK.2 t _ ht).2))
  subst hcA
  subst hco
  have hTs : (T.setVm vm₁).heap = H := hT
  have hsT : (T.setVm vm₁).heap.size = n_a X + n_b X + 1 + L.length := by rw [hTs]; exact hsz
  have hsT2 : T.heap.size = n_a X + n_b X + 1 + L.length := hsT
  obtain ⟨f1, f2, f3, f4⟩ := Jvm.Free.Multi.fill_facts (T.setVm vm₁) ((n_G X).2.1 tR) ((n_G X).2.1 t) i.toNatClampNeg j.toNatClampNeg (defaultValue ty) i.toNatClampNeg
  have fo := fun (a : Addr) (ha : a < (T.setVm vm₁).heap.size) => Jvm.Free.Multi.fill_old (T.setVm vm₁) ((n_G X).2.1 tR) ((n_G X).2.1 t) i.toNatClampNeg j.toNatClampNeg (defaultValue ty) (a := a) ha i.toNatClampNeg
  have fi := fun (q : Nat) (hq : q < i.toNatClampNeg) => Jvm.Free.Multi.fill_inner (T.setVm vm₁) ((n_G X).2.1 tR) ((n_G X).2.1 t) i.toNatClampNeg j.toNatClampNeg (defaultValue ty) i.toNatClampNeg q hq
  obtain ⟨o1, o2, o3⟩ := Jvm.Free.Multi.outerC_facts ((n_G X).2.1 tR) i.toNatClampNeg (T.setVm vm₁).heap.size i.toNatClampNeg
  have os := fun (q : Nat) (hq : q < i.toNatClampNeg) => Jvm.Free.Multi.outerC_slot ((n_G X).2.1 tR) i.toNatClampNeg (T.setVm vm₁).heap.size i.toNatClampNeg q hq
  have eo := arrV_of (f := fun q => .ref (n_a X + n_b X + 1 + L.length + 1 + q)) o1 o2 o3 (fun q hq => by rw [os q hq, if_pos hq, hsT]) (outerC_mon _ _ _ _)
  rw [eo] at f2
  rw [hTs] at fo
  rw [hsT] at f1 f2
  rw [hsz] at fo
  have fi2 : ∀ q, q < i.toNatClampNeg → (Jvm.Free.Multi.fill (T.setVm vm₁) ((n_G X).2.1 tR) ((n_G X).2.1 t) i.toNatClampNeg j.toNatClampNeg (defaultValue ty) i.toNatClampNeg).heap[n_a X + n_b X + 1 + L.length + 1 + q]? = some (arrV ((n_G X).2.1 t) j.toNatClampNeg (fun _ => defaultValue ty)) := fun q hq => by
    have h := fi q hq
    rw [hsT] at h
    rw [h, ← arrV_new]
    rfl
  rw [hsT2] at step
  clear eo os fi o1 o2 o3 hO hI hfA hfC
  generalize Jvm.Free.Multi.fill (T.setVm vm₁) ((n_G X).2.1 tR) ((n_G X).2.1 t) i.toNatClampNeg j.toNatClampNeg (defaultValue ty) i.toNatClampNeg = T1 at *
  have k1 : T1.heap[n_a X + n_b X]? = H[n_a X + n_b X]? := fo (n_a X + n_b X) (show n_a X + n_b X < n_a X + n_b X + 1 + L.length by omega)
  have k2 := hpB_kept hL (H1 := T1.heap) (fun q h1 h2 => fo q (by omega))
  have k3 : va_S (n_O X) (n_S X).heap T1.heap locs := ⟨by rw [f1]; have := hS.1; omega, fun q h1 h2 => (fo q (by rw [← hsz]; exact Nat.lt_of_lt_of_le h1 hS.1)).trans (hS.2.1 q h1 h2), hS.2.2⟩
  have k4 : hpB (n_G X) (n_a X) (n_b X + 1 + L.length) (kR tR i.toNatClampNeg (fun q => n_b X + 1 + L.length + 1 + q) :: List.replicate i.toNatClampNeg zi) M T1.heap := by
    intro q z hq
    cases q with
    | zero =>
      have hq : kR tR i.toNatClampNeg (fun q => n_b X + 1 + L.length + 1 + q) = z := Option.some.inj hq
      subst hq
      show T1.heap[n_a X + (n_b X + 1 + L.length + 0)]? = some (vp_cell _ (i.toNatClampNeg, .inr (.inr (.inr (.inr (fun j => some (n_a X + (n_b X + 1 + L.length + 1 + j))))))))
      rw [vp_cell_q, show n_a X + (n_b X + 1 + L.length + 0) = n_a X + n_b X + 1 + L.length by omega, f2]
      congr 2
      funext u
      exact congrArg Value.ref (show n_a X + n_b X + 1 + L.length + 1 + u = n_a X + (n_b X + 1 + L.length + 1 + u) by omega)
    | succ q =>
      have hq : (List.replicate i.toNatClampNeg zi)[q]? = some z := hq
      have hl : q < i.toNatClampNeg := by
        have := (List.getElem?_eq_some_iff.mp hq).1
        rw [List.length_replicate] at this
        exact this
      have hzi : z = zi := by
        rw [List.getElem?_replicate, if_pos hl] at hq
        exact (Option.some.inj hq).symm
      subst hzi
      have := hz q T1.heap hl (by rw [show n_a X + (n_b X + 1 + L.length + 1 + q) = n_a X + n_b X + 1 + L.length + 1 + q by omega]; exact fi2 q hl)
      rw [show n_b X + 1 + L.length + (q + 1) = n_b X + 1 + L.length + 1 + q by omega]
      exact this
  obtain ⟨t2, a1, b1⟩ := kk T1.heap locs ls (by rw [f1, List.length_append, List.length_cons, List.length_replicate]; omega) (ho.kept k1) (hpB_app k2 k4) k3 hls T1 rfl X1
  exact ⟨t2, step t2 a1, b1⟩
/-- a constructor's contract: from the new object's cell to all that it holds -/
def CN (l : Launch) (h c mc ms : Nat) (y : MethodName) (cc : ByteArray) (f0 : List Value) (Pm : Nat → mM → Prop) : Prop := ∀ (G : gU) (a b : Nat),
  Met l y (.code y cc 1 none :: wsL_law) ({ frames := h, cells := mc, slots := ms, locals := 37 * h }) (va_Pc [.ref (a + b)] (fun U => U.heap.size = a + b + 1 ∧ va_at G.1 vwCl (a + b, .inr (c, f0)) U.heap ∧ va_K G.1 vwCl (tyG G.2.1) U ∧ wY G.2.2 (fun q => a + b ≤ q) U U.heap ∧ wV2 U))
    (va_Qv (fun u : mM => Pm b u) (fun u t => t.heap.size = a + b + (lyC c b).length ∧ hpB G a b (lyC c b) u t.heap) (fun q => a + b ≤ q)) mc ms (fun q => a + b ≤ q)
def NE (X : nX) (mc ms : Nat) (Pm : Nat → mM → Prop) : Prop := n_Q X = MQ (n_B X) (va_Qv (fun u : mM => Pm (n_b X) u) (fun u t => t.heap.size = n_a X + n_b X + (lyC (n_k X) (n_b X)).length ∧ hpB (n_G X) (n_a X) (n_b X) (lyC (n_k X) (n_b X)) u t.heap) (n_O X)) (n_A X) (n_S X) mc ms (n_O X) ∧ (n_me X).sig.returnType = none ∧ (n_me X).locks = false
theorem CN_of {l : Launch} {h c mc ms : Nat} {y : MethodName} {cc : ByteArray} {f0 : List Value} {Pm : Nat → mM → Prop} (hy : plainName y.cls = true) (hi : y.name = "<init>")
    (body : ∀ X : nX, NX X cc y.cls → n_k X = c → n_L X = l → n_R X = { frames := h, cells := mc, slots := ms, locals := 37 * h } → NE X mc ms Pm → NB X 0 f0 [] (fun _ _ => 0, fun _ _ => 0) [] 0 0) : CN l h c mc ms y cc f0 Pm := by
  intro G a b
  refine Met.ofW (cc := cc) (maxL := 1) (ret := none) hy rfl ?_
  intro p e s m args below meth c0 s₁ B hml hv
  obtain ⟨rfl, hsz, ho, hK, hZ, hV⟩ := hv
  have hts := atoms_spec (ws := .code y cc 1 none :: wsL_law) B.pre
  have hown : s.vm.findClass y.cls = some m.cls := findClass_of_methodNamed B.named
  have hin : meth.name = "<init>" := (name_of_methodNamed B.named B.method).1.trans hi
  have hl := lv_entry ([.ref (a + b)]) (n := 1) (Nat.le_of_ble_eq_true rfl)
  rw [lg_entry_eq]
  generalize (lg_sl ([.ref (a + b)]) ++ List.replicate (1 - (lg_sl ([.ref (a + b)])).length) Slot.unset).toArray = ls at hl ⊢
  have hl : lv_has ls 1 [(0, .ref (a + b))] := hl
  exact body (p, l, e, { frames := h, cells := mc, slots := ms, locals := 37 * h }, s, m, [Value.ref (a + b)].toArray, below, meth, c0, _, G, a, b, c) ⟨B.exec, B.bytes, hml, hown, fun q hq => hts q (List.mem_cons_of_mem _ hq), hK, hin, hsz, hZ, hV⟩ rfl rfl rfl ⟨rfl, B.returns, B.notSynchronized⟩ s.heap [] ls hsz ho hpB_nil va_S.rf hl
theorem NB_objInit (C : NX X cc own) {idx : Nat} (hl : Cond.methodLink own idx objectInit ∈ wsL_law) (h2 : Cond.instanceMethod objectInit ∈ wsL_law) (h3 : Cond.code objectInit ⟨#[0xb1]⟩ 1 none ∈ wsL_law) (hfr : 1 ≤ (n_R X).frames) (hlo : 12 ≤ (n_R X).locals) (hd : decode cc pc = .ok (.invokespecial idx, 3)) (kk : NB X (pc + 3) fs L M [] k n) : NB X pc fs L M [.ref (n_a X + n_b X)] k n := by
  intro H locs ls hz ho hL hS hls
  obtain ⟨hexec, hb, hml, hown, hts, hK, hin2, hsz, -⟩ := C
  refine W.objInit hexec hb hown (hts _ hl) (hts _ h2) (hts _ h3) rfl (by rw [hml]; exact hls.1) rfl hd hfr (by show 2 * 0 + 0 + 12 ≤ _; omega) ?_
  exact kk H locs ls hz ho hL hS hls
theorem NB_ret {mc ms : Nat} {Pm : Nat → mM → Prop} (C : NX X cc own) (E : NE X mc ms Pm) {ks : List kF} (hly : lyC (n_k X) (n_b X) = kO (n_k X) ks :: L) (hfs : wF (aT (n_a X)) (M.1 (n_b X)) (M.2 (n_b X)) 0 ks = fs) (hm : Pm (n_b X) M) (h1 : k ≤ mc) (h2 : n ≤ ms) (hd : decode cc pc = .ok (.return_, 1)) : NB X pc fs L M [] k n := by
  intro H locs ls hz ho hL hS hls
  obtain ⟨hQ, hr, hlk⟩ := E
  rw [hQ]
  refine W.widen h1 h2 ?_
  refine W.vret C.1 C.2.1 hr (fun t ht hW => ⟨⟨M, rfl, hm, ?_, ?_⟩, hS.F ht⟩) hS.2.2 hd hlk
  · rw [ht, hz, hly, List.length_cons]; omega
  · rw [ht, hly]
    intro q z hq
    cases q with
    | zero =>
      have hq : kO (n_k X) ks = z := Option.some.inj hq
      subst hq
      show va_at _ _ (n_a X + (n_b X + 0), .inr (n_k X, wF (aT (n_a X)) (M.1 (n_b X + 0)) (M.2 (n_b X + 0)) 0 ks)) H
      rw [Nat.add_zero, hfs]
      exact ho
    | succ q =>
      have := hL q z hq
      rw [show n_b X + (q + 1) = n_b X + 1 + q by omega]
      exact this
end NROWS2
