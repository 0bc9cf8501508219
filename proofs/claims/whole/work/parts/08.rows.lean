section VROWS
variable {X : wX} {cc : ByteArray} {own : String} {ret : Option FieldType} {pc : Nat} {lv : List (Nat × Value)} {st : List Value} {M : mM}

theorem V_iadd (C : CX X cc own ret) {x y : Int32} (hd : decode cc pc = .ok (.iadd, 1)) (k : V X (pc + 1) lv (.int (x + y) :: st) M) : V X pc lv (.int y :: .int x :: st) M := fun H L ls a b c => lv_iadd C.1 C.2.1 hd (k H L ls a b c)
theorem V_isub (C : CX X cc own ret) {x y : Int32} (hd : decode cc pc = .ok (.isub, 1)) (k : V X (pc + 1) lv (.int (x - y) :: st) M) : V X pc lv (.int y :: .int x :: st) M := fun H L ls a b c => lv_isub C.1 C.2.1 hd (k H L ls a b c)
theorem V_imul (C : CX X cc own ret) {x y : Int32} (hd : decode cc pc = .ok (.imul, 1)) (k : V X (pc + 1) lv (.int (x * y) :: st) M) : V X pc lv (.int y :: .int x :: st) M := fun H L ls a b c => lv_imul C.1 C.2.1 hd (k H L ls a b c)
theorem V_iand (C : CX X cc own ret) {x y : Int32} (hd : decode cc pc = .ok (.iand, 1)) (k : V X (pc + 1) lv (.int (x &&& y) :: st) M) : V X pc lv (.int y :: .int x :: st) M := fun H L ls a b c => lv_iand C.1 C.2.1 hd (k H L ls a b c)
theorem V_ior (C : CX X cc own ret) {x y : Int32} (hd : decode cc pc = .ok (.ior, 1)) (k : V X (pc + 1) lv (.int (x ||| y) :: st) M) : V X pc lv (.int y :: .int x :: st) M := fun H L ls a b c => lv_ior C.1 C.2.1 hd (k H L ls a b c)
theorem V_ixor (C : CX X cc own ret) {x y : Int32} (hd : decode cc pc = .ok (.ixor, 1)) (k : V X (pc + 1) lv (.int (x ^^^ y) :: st) M) : V X pc lv (.int y :: .int x :: st) M := fun H L ls a b c => lv_ixor C.1 C.2.1 hd (k H L ls a b c)
theorem V_ishl (C : CX X cc own ret) {x y : Int32} (hd : decode cc pc = .ok (.ishl, 1)) (k : V X (pc + 1) lv (.int (x <<< (y &&& 31)) :: st) M) : V X pc lv (.int y :: .int x :: st) M := fun H L ls a b c => lv_ishl C.1 C.2.1 hd (k H L ls a b c)
theorem V_ishr (C : CX X cc own ret) {x y : Int32} (hd : decode cc pc = .ok (.ishr, 1)) (k : V X (pc + 1) lv (.int (x >>> (y &&& 31)) :: st) M) : V X pc lv (.int y :: .int x :: st) M := fun H L ls a b c => lv_ishr C.1 C.2.1 hd (k H L ls a b c)
theorem V_iushr (C : CX X cc own ret) {x y : Int32} (hd : decode cc pc = .ok (.iushr, 1)) (k : V X (pc + 1) lv (.int ((x.toUInt32 >>> (y.toUInt32 &&& Int32.toUInt32 31)).toInt32) :: st) M) : V X pc lv (.int y :: .int x :: st) M := fun H L ls a b c => lv_iushr C.1 C.2.1 hd rfl (k H L ls a b c)
theorem V_idiv (C : CX X cc own ret) {x y : Int32} (hd : decode cc pc = .ok (.idiv, 1)) (hne : ¬ y = 0) (k : V X (pc + 1) lv (.int (x / y) :: st) M) : V X pc lv (.int y :: .int x :: st) M := fun H L ls a b c => lv_idiv C.1 C.2.1 hd hne (k H L ls a b c)
theorem V_irem (C : CX X cc own ret) {x y : Int32} (hd : decode cc pc = .ok (.irem, 1)) (hne : ¬ y = 0) (k : V X (pc + 1) lv (.int (x - x / y * y) :: st) M) : V X pc lv (.int y :: .int x :: st) M := fun H L ls a b c => lv_irem C.1 C.2.1 hd hne (k H L ls a b c)
theorem V_ineg (C : CX X cc own ret) {x : Int32} (hd : decode cc pc = .ok (.ineg, 1)) (k : V X (pc + 1) lv (.int (-x) :: st) M) : V X pc lv (.int x :: st) M := fun H L ls a b c => lv_ineg C.1 C.2.1 hd (k H L ls a b c)
theorem V_ladd (C : CX X cc own ret) {x y : Int64} (hd : decode cc pc = .ok (.ladd, 1)) (k : V X (pc + 1) lv (.long (x + y) :: st) M) : V X pc lv (.long y :: .long x :: st) M := fun H L ls a b c => lv_ladd C.1 C.2.1 hd (k H L ls a b c)
theorem V_lsub (C : CX X cc own ret) {x y : Int64} (hd : decode cc pc = .ok (.lsub, 1)) (k : V X (pc + 1) lv (.long (x - y) :: st) M) : V X pc lv (.long y :: .long x :: st) M := fun H L ls a b c => lv_lsub C.1 C.2.1 hd (k H L ls a b c)
theorem V_lmul (C : CX X cc own ret) {x y : Int64} (hd : decode cc pc = .ok (.lmul, 1)) (k : V X (pc + 1) lv (.long (x * y) :: st) M) : V X pc lv (.long y :: .long x :: st) M := fun H L ls a b c => lv_lmul C.1 C.2.1 hd (k H L ls a b c)
theorem V_land (C : CX X cc own ret) {x y : Int64} (hd : decode cc pc = .ok (.land, 1)) (k : V X (pc + 1) lv (.long (x &&& y) :: st) M) : V X pc lv (.long y :: .long x :: st) M := fun H L ls a b c => lv_land C.1 C.2.1 hd (k H L ls a b c)
theorem V_lor (C : CX X cc own ret) {x y : Int64} (hd : decode cc pc = .ok (.lor, 1)) (k : V X (pc + 1) lv (.long (x ||| y) :: st) M) : V X pc lv (.long y :: .long x :: st) M := fun H L ls a b c => lv_lor C.1 C.2.1 hd (k H L ls a b c)
theorem V_lxor (C : CX X cc own ret) {x y : Int64} (hd : decode cc pc = .ok (.lxor, 1)) (k : V X (pc + 1) lv (.long (x ^^^ y) :: st) M) : V X pc lv (.long y :: .long x :: st) M := fun H L ls a b c => lv_lxor C.1 C.2.1 hd (k H L ls a b c)
theorem V_lneg (C : CX X cc own ret) {x : Int64} (hd : decode cc pc = .ok (.lneg, 1)) (k : V X (pc + 1) lv (.long (-x) :: st) M) : V X pc lv (.long x :: st) M := fun H L ls a b c => lv_lneg C.1 C.2.1 hd (k H L ls a b c)
theorem V_lshl (C : CX X cc own ret) {x : Int64} {y : Int32} (hd : decode cc pc = .ok (.lshl, 1)) (k : V X (pc + 1) lv (.long (x <<< (y.toInt64 &&& 63)) :: st) M) : V X pc lv (.int y :: .long x :: st) M := fun H L ls a b c => lv_lshl C.1 C.2.1 hd rfl (k H L ls a b c)
theorem V_lshr (C : CX X cc own ret) {x : Int64} {y : Int32} (hd : decode cc pc = .ok (.lshr, 1)) (k : V X (pc + 1) lv (.long (x >>> (y.toInt64 &&& 63)) :: st) M) : V X pc lv (.int y :: .long x :: st) M := fun H L ls a b c => lv_lshr C.1 C.2.1 hd rfl (k H L ls a b c)
theorem V_lushr (C : CX X cc own ret) {x : Int64} {y : Int32} (hd : decode cc pc = .ok (.lushr, 1)) (k : V X (pc + 1) lv (.long ((x.toUInt64 >>> (y.toInt64.toUInt64 &&& Int64.toUInt64 63)).toInt64) :: st) M) : V X pc lv (.int y :: .long x :: st) M := fun H L ls a b c => lv_lushr C.1 C.2.1 hd rfl (k H L ls a b c)
theorem V_lcmp (C : CX X cc own ret) {x y : Int64} (hd : decode cc pc = .ok (.lcmp, 1)) (k : V X (pc + 1) lv (.int (lg_cmp x y) :: st) M) : V X pc lv (.long y :: .long x :: st) M := fun H L ls a b c => W.lcmp C.1 C.2.1 hd (k H L ls a b c)
theorem V_i2l (C : CX X cc own ret) {x : Int32} (hd : decode cc pc = .ok (.i2l, 1)) (k : V X (pc + 1) lv (.long x.toInt64 :: st) M) : V X pc lv (.int x :: st) M := fun H L ls a b c => lv_i2l C.1 C.2.1 hd rfl (k H L ls a b c)
theorem V_l2i (C : CX X cc own ret) {x : Int64} (hd : decode cc pc = .ok (.l2i, 1)) (k : V X (pc + 1) lv (.int x.toInt32 :: st) M) : V X pc lv (.long x :: st) M := fun H L ls a b c => lv_l2i C.1 C.2.1 hd rfl (k H L ls a b c)
theorem V_i2b (C : CX X cc own ret) {x : Int32} (hd : decode cc pc = .ok (.i2b, 1)) (k : V X (pc + 1) lv (.int x.toInt8.toInt32 :: st) M) : V X pc lv (.int x :: st) M := fun H L ls a b c => lv_i2b C.1 C.2.1 hd rfl (k H L ls a b c)
theorem V_iconst (C : CX X cc own ret) {n : Int} (v : Int32) (hd : decode cc pc = .ok (.iconst n, 1)) (hv : Int32.ofInt n = v) (k : V X (pc + 1) lv (.int v :: st) M) : V X pc lv st M := fun H L ls a b c => lv_iconst C.1 C.2.1 hd hv (k H L ls a b c)
theorem V_bipush (C : CX X cc own ret) {n : Int} (v : Int32) (hd : decode cc pc = .ok (.bipush n, 2)) (hv : (Int8.ofInt n).toInt32 = v) (k : V X (pc + 2) lv (.int v :: st) M) : V X pc lv st M := fun H L ls a b c => lv_bipush C.1 C.2.1 hd hv (k H L ls a b c)
theorem V_sipush (C : CX X cc own ret) {n : Int} (v : Int32) (hd : decode cc pc = .ok (.sipush n, 3)) (hv : (Int16.ofInt n).toInt32 = v) (k : V X (pc + 3) lv (.int v :: st) M) : V X pc lv st M := fun H L ls a b c => lv_sipush C.1 C.2.1 hd hv (k H L ls a b c)
theorem V_lconst (C : CX X cc own ret) {n : Fin 2} (v : Int64) (hd : decode cc pc = .ok (.lconst n, 1)) (hv : Int64.ofNat (n : Nat) = v) (k : V X (pc + 1) lv (.long v :: st) M) : V X pc lv st M := fun H L ls a b c => lv_lconst C.1 C.2.1 hd hv (k H L ls a b c)
theorem V_ldc (C : CX X cc own ret) {i : Nat} {v : Int32} (hc : Cond.constant own i v ∈ wsL_law) (hd : decode cc pc = .ok (.ldc i, 2)) (k : V X (pc + 2) lv (.int v :: st) M) : V X pc lv st M := fun H L ls a b c => lv_ldc C.1 C.2.1 C.2.2.2.2.1 (C.2.2.2.2.2.1 _ hc) hd (k H L ls a b c)
theorem V_ldcw (C : CX X cc own ret) {i : Nat} {v : Int32} (hc : Cond.constant own i v ∈ wsL_law) (hd : decode cc pc = .ok (.ldc_w i, 3)) (k : V X (pc + 3) lv (.int v :: st) M) : V X pc lv st M := fun H L ls a b c => lv_ldcw C.1 C.2.1 C.2.2.2.2.1 (C.2.2.2.2.2.1 _ hc) hd (k H L ls a b c)
theorem V_ldc2 (C : CX X cc own ret) {i : Nat} {v : Int64} (hc : Cond.constantLong own i v ∈ wsL_law) (hd : decode cc pc = .ok (.ldc2_w i, 3)) (k : V X (pc + 3) lv (.long v :: st) M) : V X pc lv st M := fun H L ls a b c => lv_ldc2 C.1 C.2.1 C.2.2.2.2.1 (C.2.2.2.2.2.1 _ hc) hd (k H L ls a b c)
theorem V_iload_n (C : CX X cc own ret) {i : Fin 4} {x : Int32} (j : Nat) (hd : decode cc pc = .ok (.iload_n i, 1)) (hk : lv[j]? = some ((i : Nat), .int x)) (k : V X (pc + 1) lv (.int x :: st) M) : V X pc lv st M := fun H L ls a b c => lv_iload_n C.1 C.2.1 hd rfl (lv_at c j hk) (k H L ls a b c)
theorem V_iload (C : CX X cc own ret) {i : Nat} {x : Int32} (j : Nat) (hd : decode cc pc = .ok (.iload i, 2)) (hk : lv[j]? = some (i, .int x)) (k : V X (pc + 2) lv (.int x :: st) M) : V X pc lv st M := fun H L ls a b c => lv_iload C.1 C.2.1 hd (lv_at c j hk) (k H L ls a b c)
theorem V_lload_n (C : CX X cc own ret) {i : Fin 4} {x : Int64} (j : Nat) (hd : decode cc pc = .ok (.lload_n i, 1)) (hk : lv[j]? = some ((i : Nat), .long x)) (k : V X (pc + 1) lv (.long x :: st) M) : V X pc lv st M := fun H L ls a b c => lv_lload_n C.1 C.2.1 hd rfl (lv_at c j hk) (k H L ls a b c)
theorem V_lload (C : CX X cc own ret) {i : Nat} {x : Int64} (j : Nat) (hd : decode cc pc = .ok (.lload i, 2)) (hk : lv[j]? = some (i, .long x)) (k : V X (pc + 2) lv (.long x :: st) M) : V X pc lv st M := fun H L ls a b c => lv_lload C.1 C.2.1 hd (lv_at c j hk) (k H L ls a b c)
theorem V_aload_n (C : CX X cc own ret) {i : Fin 4} {x : Nat} (j : Nat) (hd : decode cc pc = .ok (.aload_n i, 1)) (hk : lv[j]? = some ((i : Nat), .ref x)) (k : V X (pc + 1) lv (.ref x :: st) M) : V X pc lv st M := fun H L ls a b c => lv_aload_n C.1 C.2.1 hd rfl (lv_at c j hk) (k H L ls a b c)
theorem V_aload (C : CX X cc own ret) {i : Nat} {x : Nat} (j : Nat) (hd : decode cc pc = .ok (.aload i, 2)) (hk : lv[j]? = some (i, .ref x)) (k : V X (pc + 2) lv (.ref x :: st) M) : V X pc lv st M := fun H L ls a b c => lv_aload C.1 C.2.1 hd (lv_at c j hk) (k H L ls a b c)
theorem V_istore_n (C : CX X cc own ret) {i : Fin 4} {x : Int32} {lv' : List (Nat × Value)} (hn : (i : Nat) < xN X) (hd : decode cc pc = .ok (.istore_n i, 1)) (hl : ((i : Nat), Value.int x) :: lv.filter (fun q => !(q.1 == (i : Nat)) && !(q.1 + 1 == (i : Nat) && q.2.category == 2)) = lv') (k : V X (pc + 1) lv' st M) : V X pc lv (.int x :: st) M := fun H L ls a b c => lv_istore_n C.1 C.2.1 hd rfl c hn hl (fun ls2 c2 => k H L ls2 a b c2)
theorem V_istore (C : CX X cc own ret) {i : Nat} {x : Int32} {lv' : List (Nat × Value)} (hn : i < xN X) (hd : decode cc pc = .ok (.istore i, 2)) (hl : (i, Value.int x) :: lv.filter (fun q => !(q.1 == i) && !(q.1 + 1 == i && q.2.category == 2)) = lv') (k : V X (pc + 2) lv' st M) : V X pc lv (.int x :: st) M := fun H L ls a b c => lv_istore C.1 C.2.1 hd c hn hl (fun ls2 c2 => k H L ls2 a b c2)
theorem V_astore_n (C : CX X cc own ret) {i : Fin 4} {x : Nat} {lv' : List (Nat × Value)} (hn : (i : Nat) < xN X) (hd : decode cc pc = .ok (.astore_n i, 1)) (hl : ((i : Nat), Value.ref x) :: lv.filter (fun q => !(q.1 == (i : Nat)) && !(q.1 + 1 == (i : Nat) && q.2.category == 2)) = lv') (k : V X (pc + 1) lv' st M) : V X pc lv (.ref x :: st) M := fun H L ls a b c => lv_astore_n C.1 C.2.1 hd rfl c hn hl (fun ls2 c2 => k H L ls2 a b c2)
theorem V_astore (C : CX X cc own ret) {i : Nat} {x : Nat} {lv' : List (Nat × Value)} (hn : i < xN X) (hd : decode cc pc = .ok (.astore i, 2)) (hl : (i, Value.ref x) :: lv.filter (fun q => !(q.1 == i) && !(q.1 + 1 == i && q.2.category == 2)) = lv') (k : V X (pc + 2) lv' st M) : V X pc lv (.ref x :: st) M := fun H L ls a b c => lv_astore C.1 C.2.1 hd c hn hl (fun ls2 c2 => k H L ls2 a b c2)
theorem V_lstore_n (C : CX X cc own ret) {i : Fin 4} {x : Int64} {lv' : List (Nat × Value)} (hn : (i : Nat) + 1 < xN X) (hd : decode cc pc = .ok (.lstore_n i, 1)) (hl : ((i : Nat), Value.long x) :: lv.filter (fun q => !(q.1 == (i : Nat)) && (!(q.1 == (i : Nat) + 1) && !(q.1 + 1 == (i : Nat) && q.2.category == 2))) = lv') (k : V X (pc + 1) lv' st M) : V X pc lv (.long x :: st) M := fun H L ls a b c => lv_lstore_n C.1 C.2.1 hd rfl c hn hl (fun ls2 c2 => k H L ls2 a b c2)
theorem V_lstore (C : CX X cc own ret) {i : Nat} {x : Int64} {lv' : List (Nat × Value)} (hn : i + 1 < xN X) (hd : decode cc pc = .ok (.lstore i, 2)) (hl : (i, Value.long x) :: lv.filter (fun q => !(q.1 == i) && (!(q.1 == i + 1) && !(q.1 + 1 == i && q.2.category == 2))) = lv') (k : V X (pc + 2) lv' st M) : V X pc lv (.long x :: st) M := fun H L ls a b c => lv_lstore C.1 C.2.1 hd c hn hl (fun ls2 c2 => k H L ls2 a b c2)
theorem V_iinc (C : CX X cc own ret) {i : Nat} {n : Int} {x v : Int32} {lv' : List (Nat × Value)} (j : Nat) (hn : i < xN X) (hd : decode cc pc = .ok (.iinc i n, 3)) (hk : lv[j]? = some (i, .int x)) (hv : x + Int32.ofInt n = v) (hl : (i, Value.int v) :: lv.filter (fun q => !(q.1 == i) && !(q.1 + 1 == i && q.2.category == 2)) = lv') (k : V X (pc + 3) lv' st M) : V X pc lv st M := fun H L ls a b c => lv_iinc C.1 C.2.1 hd c hk hv hn hl (fun ls2 c2 => k H L ls2 a b c2)
theorem V_sub {lv' : List (Nat × Value)} (ks : List Nat) (hl : lv_pick lv ks = lv') (k : V X pc lv' st M) : V X pc lv st M := fun H L ls a b c => k H L ls a b (lv_sub c ks hl)
theorem V_goto (C : CX X cc own ret) {off : Int} {tgt : Nat} (hd : decode cc pc = .ok (.goto off, 3)) (ht : (pc : Int) + off = (tgt : Int)) (k : V X tgt lv st M) : V X pc lv st M := fun H L ls a b c => lv_goto C.1 C.2.1 hd ht (k H L ls a b c)
theorem V_dup (C : CX X cc own ret) {v : Value} (hd : decode cc pc = .ok (.dup, 1)) (hc : v.category = 1) (k : V X (pc + 1) lv (v :: v :: st) M) : V X pc lv (v :: st) M := fun H L ls a b c => lv_dup C.1 C.2.1 hd hc (k H L ls a b c)
theorem V_dup2_1 (C : CX X cc own ret) {v u : Value} (hd : decode cc pc = .ok (.dup2, 1)) (hc : v.category = 1) (hc2 : u.category = 1) (k : V X (pc + 1) lv (v :: u :: v :: u :: st) M) : V X pc lv (v :: u :: st) M := fun H L ls a b c => lv_dup2_11 C.1 C.2.1 hd hc hc2 (k H L ls a b c)
theorem V_dup2_2 (C : CX X cc own ret) {v : Value} (hd : decode cc pc = .ok (.dup2, 1)) (hc : v.category = 2) (k : V X (pc + 1) lv (v :: v :: st) M) : V X pc lv (v :: st) M := fun H L ls a b c => lv_dup2_2 C.1 C.2.1 hd hc (k H L ls a b c)
theorem V_dup_x1 (C : CX X cc own ret) {v u : Value} (hd : decode cc pc = .ok (.dup_x1, 1)) (hc : v.category = 1) (hc2 : u.category = 1) (k : V X (pc + 1) lv (v :: u :: v :: st) M) : V X pc lv (v :: u :: st) M := fun H L ls a b c => lv_dup_x1 C.1 C.2.1 hd hc hc2 (k H L ls a b c)
theorem V_pop (C : CX X cc own ret) {v : Value} (hd : decode cc pc = .ok (.pop, 1)) (hc : v.category = 1) (k : V X (pc + 1) lv st M) : V X pc lv (v :: st) M := fun H L ls a b c => lv_pop C.1 C.2.1 hd hc (k H L ls a b c)
theorem V_tsw (C : CX X cc own ret) {dflt lo hi : Int} {offs : Array Int} {len : Nat} {x : Int32} (hd : decode cc pc = .ok (.tableswitch dflt lo hi offs, len)) {tgt : Nat} (off : Int) (h1 : ¬ x.toInt < lo) (h2 : ¬ hi < x.toInt) (ho : offs[(x.toInt - lo).toNat]? = some off) (ht : (pc : Int) + off = (tgt : Int)) (k : V X tgt lv st M) : V X pc lv (.int x :: st) M := fun H L ls a b c => lv_tableIn C.1 C.2.1 hd h1 h2 ho ht (k H L ls a b c)
theorem V_tswOut (C : CX X cc own ret) {dflt lo hi : Int} {offs : Array Int} {len : Nat} {x : Int32} {tgt : Nat} (hd : decode cc pc = .ok (.tableswitch dflt lo hi offs, len)) (h : x.toInt < lo ∨ hi < x.toInt) (ht : (pc : Int) + dflt = (tgt : Int)) (k : V X tgt lv st M) : V X pc lv (.int x :: st) M := fun H L ls a b c => lv_tableOut C.1 C.2.1 hd h ht (k H L ls a b c)
/-! fields: the field link, the class's tables, by their place -/
def FL (own : String) (idx ci j : Nat) : Prop := ∃ (C : String) (T : u_T) (N : Nat) (ty : Nat → FieldType), vwCl[ci]? = some (C, T, N) ∧ (∀ q ∈ u_ws C T N, q ∈ wsL_law) ∧ (∀ k, k < N → parseFieldDescriptor (T k).2.2.1 = some (ty k)) ∧ (∀ a, a < N → ∀ b, b < N → a ≠ b → (T a).2.1 ≠ (T b).2.1) ∧ j < N ∧ Cond.fieldLink own idx (T j).1 (T j).2.1 (T j).2.2.1 ∈ wsL_law
/-- .. of a field that isn't final, of this type -/
def FW (own : String) (idx ci j : Nat) (t : FieldType) : Prop := ∃ (C : String) (T : u_T) (N : Nat) (ty : Nat → FieldType), vwCl[ci]? = some (C, T, N) ∧ (∀ q ∈ u_ws C T N, q ∈ wsL_law) ∧ (∀ k, k < N → parseFieldDescriptor (T k).2.2.1 = some (ty k)) ∧ (∀ a, a < N → ∀ b, b < N → a ≠ b → (T a).2.1 ≠ (T b).2.1) ∧ j < N ∧ Cond.fieldLink own idx (T j).1 (T j).2.1 (T j).2.2.1 ∈ wsL_law ∧ (T j).2.2.2 = false ∧ parseFieldDescriptor (T j).2.2.1 = some t
/-- cell k is an object of class ci whose field j is x -/
def OF (w : wU) (k ci j : Nat) (x : kF) : Prop := k < uN w ∧ ∃ fs : List kF, uK w k = kO ci fs ∧ fs[j]? = some x
def AK (w : wU) (k : Nat) (z : kK) : Prop := k < uN w ∧ uK w k = z
theorem V_get (C : CX X cc own ret) {idx ci j k : Nat} {x : kF} (F : FL own idx ci j) (o : OF (xW X) k ci j x) (hd : decode cc pc = .ok (.getfield idx, 3)) (kk : V X (pc + 3) lv (wV (uA (xW X)) (M.1 k) (M.2 k) j x :: st) M) : V X pc lv (vR X k :: st) M := by
  intro H L ls a b c
  obtain ⟨Cn, T, N, ty, hc, hin, hty, hnm, hj, hlk⟩ := F
  obtain ⟨hk, fs, hz, hf⟩ := o
  exact va_get C.1 C.2.1 C.2.2.2.2.2.1 hin C.2.2.2.2.1 C.2.2.2.2.2.2.2.1 a k (wL_at hk hz) hc j hj (C.2.2.2.2.2.1 _ hlk) (fun _ h => h) (wF_at hf) hd (kk H L ls a b c)
theorem V_getI (C : CX X cc own ret) {idx ci j k : Nat} (F : FL own idx ci j) (o : OF (xW X) k ci j none) (hd : decode cc pc = .ok (.getfield idx, 3)) (kk : V X (pc + 3) lv (.int (M.1 k j) :: st) M) : V X pc lv (vR X k :: st) M := V_get C F o hd kk
theorem V_getL (C : CX X cc own ret) {idx ci j k : Nat} (F : FL own idx ci j) (o : OF (xW X) k ci j (some none)) (hd : decode cc pc = .ok (.getfield idx, 3)) (kk : V X (pc + 3) lv (.long (M.2 k j) :: st) M) : V X pc lv (vR X k :: st) M := V_get C F o hd kk
theorem V_getR (C : CX X cc own ret) {idx ci j k q : Nat} (F : FL own idx ci j) (o : OF (xW X) k ci j (some (some q))) (hd : decode cc pc = .ok (.getfield idx, 3)) (kk : V X (pc + 3) lv (vR X q :: st) M) : V X pc lv (vR X k :: st) M := V_get C F o hd kk
theorem V_putI (C : CX X cc own ret) {idx ci j k : Nat} {t : FieldType} {x : Int32} (F : FW own idx ci j t) (o : OF (xW X) k ci j none) (hn : narrow t (.int x) = .int x) (hfit : fits t (.int x) = true) (hd : decode cc pc = .ok (.putfield idx, 3)) (kk : V X (pc + 3) lv st (mI M k (upd (M.1 k) j x))) : V X pc lv (.int x :: vR X k :: st) M := by
  intro H L ls a b c
  obtain ⟨Cn, T, N, ty, hc, hin, hty, hnm, hj, hlk, hfin, hp⟩ := F
  obtain ⟨hk, fs, hz, hf⟩ := o
  refine va_put C.1 C.2.1 C.2.2.2.2.2.1 hin ty hty hnm C.2.2.2.2.1 C.2.2.2.2.2.2.2.1 a (wL_D C.2.2.2.2.2.2.2.2.1 M) b k (wL_at hk hz) hc j hj (C.2.2.2.2.2.1 _ hlk) (fun _ h => h) hfin hp hn hfit (by rw [wF_len]; exact (List.getElem?_eq_some_iff.mp hf).1) hd (fun H1 L1 a1 _ b1 => kk H1 L1 ls ?_ b1 c)
  rw [wF_setI hf] at a1
  have e := wL_set (w := xW X) (M := M) (M1 := mI M k (upd (M.1 k) j x)) hk (fun q h => mI_n h) (fun q _ => rfl)
  rw [mI_s, mI_l, hz] at e
  show va_P _ _ (wL _ _) _
  rw [← e]
  exact a1
theorem V_putL (C : CX X cc own ret) {idx ci j k : Nat} {x : Int64} (F : FW own idx ci j .long) (o : OF (xW X) k ci j (some none)) (hd : decode cc pc = .ok (.putfield idx, 3)) (kk : V X (pc + 3) lv st (mL M k (vp_updL (M.2 k) j x))) : V X pc lv (.long x :: vR X k :: st) M := by
  intro H L ls a b c
  obtain ⟨Cn, T, N, ty, hc, hin, hty, hnm, hj, hlk, hfin, hp⟩ := F
  obtain ⟨hk, fs, hz, hf⟩ := o
  refine va_put C.1 C.2.1 C.2.2.2.2.2.1 hin ty hty hnm C.2.2.2.2.1 C.2.2.2.2.2.2.2.1 a (wL_D C.2.2.2.2.2.2.2.2.1 M) b k (wL_at hk hz) hc j hj (C.2.2.2.2.2.1 _ hlk) (fun _ h => h) hfin hp rfl rfl (by rw [wF_len]; exact (List.getElem?_eq_some_iff.mp hf).1) hd (fun H1 L1 a1 _ b1 => kk H1 L1 ls ?_ b1 c)
  rw [wF_setL hf] at a1
  have e := wL_set (w := xW X) (M := M) (M1 := mL M k (vp_updL (M.2 k) j x)) hk (fun q _ => rfl) (fun q h => mL_n h)
  rw [mL_s, mL_i, hz] at e
  show va_P _ _ (wL _ _) _
  rw [← e]
  exact a1
/-! arrays -/
theorem V_iald (C : CX X cc own ret) {k n : Nat} {i : Int32} (o : AK (xW X) k (kI 0 n)) (hin : vp_in i n) (hd : decode cc pc = .ok (.iaload, 1)) (kk : V X (pc + 1) lv (.int (M.1 k i.toNatClampNeg) :: st) M) : V X pc lv (.int i :: vR X k :: st) M := fun H L ls a b c => va_iald C.1 C.2.1 C.2.2.2.2.2.2.2.1 a k 0 (wL_at o.1 o.2) rfl hin hd (kk H L ls a b c)
theorem V_bald (C : CX X cc own ret) {k n : Nat} {i : Int32} (o : AK (xW X) k (kI 2 n)) (hin : vp_in i n) (hd : decode cc pc = .ok (.baload, 1)) (kk : V X (pc + 1) lv (.int (M.1 k i.toNatClampNeg) :: st) M) : V X pc lv (.int i :: vR X k :: st) M := fun H L ls a b c => va_bald C.1 C.2.1 C.2.2.2.2.2.2.2.1 a k 2 (wL_at o.1 o.2) rfl hin hd (kk H L ls a b c)
theorem V_zald (C : CX X cc own ret) {k n : Nat} {i : Int32} (o : AK (xW X) k (kI 3 n)) (hin : vp_in i n) (hd : decode cc pc = .ok (.baload, 1)) (kk : V X (pc + 1) lv (.int (M.1 k i.toNatClampNeg) :: st) M) : V X pc lv (.int i :: vR X k :: st) M := fun H L ls a b c => va_zald C.1 C.2.1 C.2.2.2.2.2.2.2.1 a k 3 (wL_at o.1 o.2) rfl hin hd (kk H L ls a b c)
theorem V_lald (C : CX X cc own ret) {k n : Nat} {i : Int32} (o : AK (xW X) k (kL 1 n)) (hin : vp_in i n) (hd : decode cc pc = .ok (.laload, 1)) (kk : V X (pc + 1) lv (.long (M.2 k i.toNatClampNeg) :: st) M) : V X pc lv (.int i :: vR X k :: st) M := fun H L ls a b c => va_lald C.1 C.2.1 C.2.2.2.2.2.2.2.1 a k 1 (wL_at o.1 o.2) rfl hin hd (kk H L ls a b c)
theorem V_iast (C : CX X cc own ret) {k n : Nat} {i x : Int32} (o : AK (xW X) k (kI 0 n)) (hin : vp_in i n) (hd : decode cc pc = .ok (.iastore, 1)) (kk : V X (pc + 1) lv st (mI M k (upd (M.1 k) i.toNatClampNeg x))) : V X pc lv (.int x :: .int i :: vR X k :: st) M := by
  intro H L ls a b c
  obtain ⟨hk, hz⟩ := o
  refine va_iast C.1 C.2.1 C.2.2.2.2.2.2.2.1 a (wL_D C.2.2.2.2.2.2.2.2.1 M) b k 0 (wL_at hk hz) rfl hin hd (fun H1 L1 a1 _ b1 => kk H1 L1 ls ?_ b1 c)
  have e := wL_set (w := xW X) (M := M) (M1 := mI M k (upd (M.1 k) i.toNatClampNeg x)) hk (fun q h => mI_n h) (fun q _ => rfl)
  rw [mI_s, mI_l, hz] at e
  show va_P _ _ (wL _ _) _
  rw [← e]
  exact a1
theorem V_bast (C : CX X cc own ret) {k n : Nat} {i x : Int32} (o : AK (xW X) k (kI 2 n)) (hin : vp_in i n) (hd : decode cc pc = .ok (.bastore, 1)) (kk : V X (pc + 1) lv st (mI M k (upd (M.1 k) i.toNatClampNeg (vp_nar .byte x)))) : V X pc lv (.int x :: .int i :: vR X k :: st) M := by
  intro H L ls a b c
  obtain ⟨hk, hz⟩ := o
  refine va_bast C.1 C.2.1 C.2.2.2.2.2.2.2.1 a (wL_D C.2.2.2.2.2.2.2.2.1 M) b k 2 (wL_at hk hz) rfl hin hd (fun H1 L1 a1 _ b1 => kk H1 L1 ls ?_ b1 c)
  have e := wL_set (w := xW X) (M := M) (M1 := mI M k (upd (M.1 k) i.toNatClampNeg (vp_nar .byte x))) hk (fun q h => mI_n h) (fun q _ => rfl)
  rw [mI_s, mI_l, hz] at e
  show va_P _ _ (wL _ _) _
  rw [← e]
  exact a1
theorem V_zast (C : CX X cc own ret) {k n : Nat} {i x : Int32} (o : AK (xW X) k (kI 3 n)) (hin : vp_in i n) (hd : decode cc pc = .ok (.bastore, 1)) (kk : V X (pc + 1) lv st (mI M k (upd (M.1 k) i.toNatClampNeg (vp_nar .boolean x)))) : V X pc lv (.int x :: .int i :: vR X k :: st) M := by
  intro H L ls a b c
  obtain ⟨hk, hz⟩ := o
  refine va_zast C.1 C.2.1 C.2.2.2.2.2.2.2.1 a (wL_D C.2.2.2.2.2.2.2.2.1 M) b k 3 (wL_at hk hz) rfl hin hd (fun H1 L1 a1 _ b1 => kk H1 L1 ls ?_ b1 c)
  have e := wL_set (w := xW X) (M := M) (M1 := mI M k (upd (M.1 k) i.toNatClampNeg (vp_nar .boolean x))) hk (fun q h => mI_n h) (fun q _ => rfl)
  rw [mI_s, mI_l, hz] at e
  show va_P _ _ (wL _ _) _
  rw [← e]
  exact a1
theorem V_last (C : CX X cc own ret) {k n : Nat} {i : Int32} {x : Int64} (o : AK (xW X) k (kL 1 n)) (hin : vp_in i n) (hd : decode cc pc = .ok (.lastore, 1)) (kk : V X (pc + 1) lv st (mL M k (vp_updL (M.2 k) i.toNatClampNeg x))) : V X pc lv (.long x :: .int i :: vR X k :: st) M := by
  intro H L ls a b c
  obtain ⟨hk, hz⟩ := o
  refine va_last C.1 C.2.1 C.2.2.2.2.2.2.2.1 a (wL_D C.2.2.2.2.2.2.2.2.1 M) b k 1 (wL_at hk hz) rfl hin hd (fun H1 L1 a1 _ b1 => kk H1 L1 ls ?_ b1 c)
  have e := wL_set (w := xW X) (M := M) (M1 := mL M k (vp_updL (M.2 k) i.toNatClampNeg x)) hk (fun q _ => rfl) (fun q h => mL_n h)
  rw [mL_s, mL_i, hz] at e
  show va_P _ _ (wL _ _) _
  rw [← e]
  exact a1
theorem V_aaldA (C : CX X cc own ret) {k t n : Nat} {f : Nat → Nat} {ty : FieldType} {i : Int32} (ht : (wT (xW X))[t]? = some (uC (xW X) t, ty)) (hr : ty.isReference = true) (o : AK (xW X) k (kR t n f)) (hin : vp_in i n) (hd : decode cc pc = .ok (.aaload, 1)) (kk : V X (pc + 1) lv (vR X (f i.toNatClampNeg) :: st) M) : V X pc lv (.int i :: vR X k :: st) M := by
  intro H L ls a b c
  have hlt : i.toNatClampNeg < n := Nat.not_le.mp fun q => hin (Or.inr q)
  exact W.aald (v := va_rf (some (uA (xW X) (f i.toNatClampNeg)))) (ty := ty) C.1 C.2.1 (a k _ (wL_at o.1 o.2)) ((C.2.2.2.2.2.2.2.1.2 t _ ht).1 n (fun j => va_rf (some (uA (xW X) (f j))))) hr (fun q => by cases q) (by show ¬ (i < 0 ∨ (arrV _ _ _).slots.size ≤ _); rw [arrV_size]; exact hin) (by show (arrV _ _ _).slots[_]? = _; rw [arrV_read _ _ hlt]) rfl rfl hd (kk H L ls a b c)
theorem V_aald4 (C : CX X cc own ret) {k n : Nat} {f : Nat → Nat} {i : Int32} (o : AK (xW X) k (kR 4 n f)) (hin : vp_in i n) (hd : decode cc pc = .ok (.aaload, 1)) (kk : V X (pc + 1) lv (vR X (f i.toNatClampNeg) :: st) M) : V X pc lv (.int i :: vR X k :: st) M := V_aaldA C rfl rfl o hin hd kk
theorem V_aald5 (C : CX X cc own ret) {k n : Nat} {f : Nat → Nat} {i : Int32} (o : AK (xW X) k (kR 5 n f)) (hin : vp_in i n) (hd : decode cc pc = .ok (.aaload, 1)) (kk : V X (pc + 1) lv (vR X (f i.toNatClampNeg) :: st) M) : V X pc lv (.int i :: vR X k :: st) M := V_aaldA C rfl rfl o hin hd kk
theorem V_aald6 (C : CX X cc own ret) {k n : Nat} {f : Nat → Nat} {i : Int32} (o : AK (xW X) k (kR 6 n f)) (hin : vp_in i n) (hd : decode cc pc = .ok (.aaload, 1)) (kk : V X (pc + 1) lv (vR X (f i.toNatClampNeg) :: st) M) : V X pc lv (.int i :: vR X k :: st) M := V_aaldA C rfl rfl o hin hd kk
theorem V_alenI (C : CX X cc own ret) {k n : Nat} (o : AK (xW X) k (kI 0 n)) (v : Int32) (hv : Int32.ofNat n = v) (hd : decode cc pc = .ok (.arraylength, 1)) (kk : V X (pc + 1) lv (.int v :: st) M) : V X pc lv (vR X k :: st) M := fun H L ls a b c => va_alen C.1 C.2.1 C.2.2.2.2.2.2.2.1 a k 0 (wL_at o.1 o.2) rfl hv hd (kk H L ls a b c)
/-! static arrays -/
theorem V_gets (C : CX X cc own ret) {idx : Nat} (i : Nat) (hi : i < 4) (hl : Cond.fieldLink own idx (zC i) (zN i) "[I" ∈ wsL_law) (hd : decode cc pc = .ok (.getstatic idx, 3)) (kk : V X (pc + 3) lv (.ref (uS (xW X) i) :: st) M) : V X pc lv st M := fun H L ls a b c => va_gets C.1 C.2.1 (C.2.2.2.2.2.2.2.2.2.1 i hi).1 b C.2.2.2.2.1 (C.2.2.2.2.2.1 _ hl) (fun _ h => h) hd (kk H L ls a b c)
theorem V_sald (C : CX X cc own ret) {i : Nat} {j : Int32} (hi : i < 4) (hin : vp_in j (zL i).length) (hd : decode cc pc = .ok (.iaload, 1)) (kk : V X (pc + 1) lv (.int (zF i j.toNatClampNeg) :: st) M) : V X pc lv (.int j :: .ref (uS (xW X) i) :: st) M := fun H L ls a b c => va_ti C.1 C.2.1 (C.2.2.2.2.2.2.2.2.2.1 i hi).2 b hin rfl hd (kk H L ls a b c)
theorem V_slen (C : CX X cc own ret) {i : Nat} (hi : i < 4) (v : Int32) (hv : Int32.ofNat (zL i).length = v) (hd : decode cc pc = .ok (.arraylength, 1)) (kk : V X (pc + 1) lv (.int v :: st) M) : V X pc lv (.ref (uS (xW X) i) :: st) M := fun H L ls a b c => va_tlen C.1 C.2.1 (C.2.2.2.2.2.2.2.2.2.1 i hi).2 b hv hd (kk H L ls a b c)
/-! ends -/
theorem wQ_end (C : CX X cc own ret) {H : Heap} {L : List Loc} (a : wW (xW X) M H) (b : va_S (wA (xW X)) (xS X).heap H L) {v : Option Value} (hq : xPo X v M) : ∀ t : State, t.heap = H → (xS X).WarmedH t.vm → wQ (xW X) (xPo X) (xA X) (xS X) (.returned v) t := by
  intro t ht hW
  subst ht
  exact ⟨⟨v, M, rfl, hq, a, C.2.2.2.2.2.2.2.1.moved hW.alike, C.2.2.2.2.2.2.2.2.warm hW b⟩, b.F rfl⟩
theorem V_iret (C : CX X cc own (some .int)) {v : Int32} (hd : decode cc pc = .ok (.ireturn, 1)) (hq : xPo X (some (.int v)) M) : V X pc lv [.int v] M := fun _ _ _ a b _ => W.iret C.1 C.2.1 C.2.2.2.1 (wQ_end C a b hq) b.2.2 hd C.2.2.2.2.2.2.1
theorem V_zret (C : CX X cc own ret) {ty : FieldType} {v : Int32} (hr : ret = some ty) (hn : narrow ty (.int v) = .int v) (hd : decode cc pc = .ok (.ireturn, 1)) (hq : xPo X (some (.int v)) M) : V X pc lv [.int v] M := by
  subst hr
  exact fun _ _ _ a b _ => W.zret C.1 C.2.1 C.2.2.2.1 hn (wQ_end C a b hq) b.2.2 hd C.2.2.2.2.2.2.1
theorem V_lret (C : CX X cc own (some .long)) {v : Int64} (hd : decode cc pc = .ok (.lreturn, 1)) (hq : xPo X (some (.long v)) M) : V X pc lv [.long v] M := fun _ _ _ a b _ => W.lret C.1 C.2.1 C.2.2.2.1 (wQ_end C a b hq) b.2.2 hd C.2.2.2.2.2.2.1
theorem V_vret (C : CX X cc own none) (hd : decode cc pc = .ok (.return_, 1)) (hq : xPo X none M) : V X pc lv [] M := fun _ _ _ a b _ => W.vret C.1 C.2.1 C.2.2.2.1 (wQ_end C a b hq) b.2.2 hd C.2.2.2.2.2.2.1
end VROWS
