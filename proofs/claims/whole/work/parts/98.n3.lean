/-! the classes and array classes at the entry -/
theorem arr_of {args : Array Value} {s : State} {ty : FieldType} (h : (Cond.arrayClass ty).before args s = true) : ∃ cA : ClassId, ArrOfT s cA ty ∧ s.vm.findClass ("[" ++ ty.toString) = some cA := by
  obtain ⟨c, k, comp, h1, h2, h3⟩ := Cond.arrayClass_spec h
  exact ⟨c, fun n z => ⟨fun k h => (by cases h), k, h2, comp, h3⟩, h1⟩
theorem has_K {args : Array Value} {s : State} (hts : ∀ q ∈ wsL_law, q.before args s = true) (h4 : (Cond.arrayOver (.object "PaintedGods$Statue")).before args s = true) (h5 : (Cond.arrayOver (.array .int)).before args s = true) (h6 : (Cond.arrayOver (.array .long)).before args s = true) : ∃ (D : va_G) (C : Nat → ClassId), va_K D vwCl (tyG C) s := by
  obtain ⟨c0, i0, k0⟩ := u_known hts inlX0 (hts _ (inR2 (List.mem_of_getElem? (i := 10) rfl)))
  obtain ⟨c1, i1, k1⟩ := u_known hts inlX1 (hts _ (inR2 (List.mem_of_getElem? (i := 6) rfl)))
  obtain ⟨c2, i2, k2⟩ := u_known hts inlX2 (hts _ (inR1 (List.mem_of_getElem? (i := 14) rfl)))
  obtain ⟨c3, i3, k3⟩ := u_known hts inlX3 (hts _ (inR1 (List.mem_of_getElem? (i := 22) rfl)))
  obtain ⟨c4, i4, k4⟩ := u_known hts inlX4 (hts _ (inR2 (List.mem_of_getElem? (i := 2) rfl)))
  obtain ⟨c5, i5, k5⟩ := u_known hts inlX5 (hts _ (inR2 (List.mem_of_getElem? (i := 14) rfl)))
  obtain ⟨c6, i6, k6⟩ := u_known hts inlX6 (hts _ (inR1 (List.mem_of_getElem? (i := 1) rfl)))
  obtain ⟨c7, i7, k7⟩ := u_known hts inlX7 (hts _ (inR1 (List.mem_of_getElem? (i := 4) rfl)))
  obtain ⟨a0, p0, q0⟩ := arr_of (hts _ (inR2 (List.mem_of_getElem? (i := 19) rfl)) : (Cond.arrayClass .int).before args s = true)
  obtain ⟨a1, p1, q1⟩ := arr_of (hts _ (inR4 (List.mem_of_getElem? (i := 23) rfl)) : (Cond.arrayClass .long).before args s = true)
  obtain ⟨a2, p2, q2⟩ := arr_of (hts _ (inR4 (List.mem_of_getElem? (i := 2) rfl)) : (Cond.arrayClass .byte).before args s = true)
  obtain ⟨a3, p3, q3⟩ := arr_of (hts _ (inR1 (List.mem_of_getElem? (i := 19) rfl)) : (Cond.arrayClass .boolean).before args s = true)
  obtain ⟨b4, a4, kk4, u1, u2, u3, u4, u5⟩ := Cond.arrayOver_spec h4
  obtain ⟨b5, a5, kk5, v1, v2, v3, v4⟩ := Cond.arrayOver_specA h5
  obtain ⟨b6, a6, kk6, w1, w2, w3, w4⟩ := Cond.arrayOver_specA h6
  refine ⟨(fun c => match c with | 0 => c0 | 1 => c1 | 2 => c2 | 3 => c3 | 4 => c4 | 5 => c5 | 6 => c6 | _ => c7, fun c => match c with | 0 => i0 | 1 => i1 | 2 => i2 | 3 => i3 | 4 => i4 | 5 => i5 | 6 => i6 | _ => i7), (fun t => match t with | 0 => a0 | 1 => a1 | 2 => a2 | 3 => a3 | 4 => a4 | 5 => a5 | _ => a6), fun c q hq => ?_, fun k q hq => ?_⟩
  · match c, hq with
    | 0, hq => cases hq; exact k0
    | 1, hq => cases hq; exact k1
    | 2, hq => cases hq; exact k2
    | 3, hq => cases hq; exact k3
    | 4, hq => cases hq; exact k4
    | 5, hq => cases hq; exact k5
    | 6, hq => cases hq; exact k6
    | 7, hq => cases hq; exact k7
  · match k, hq with
    | 0, hq => cases hq; exact ⟨p0, q0⟩
    | 1, hq => cases hq; exact ⟨p1, q1⟩
    | 2, hq => cases hq; exact ⟨p2, q2⟩
    | 3, hq => cases hq; exact ⟨p3, q3⟩
    | 4, hq => cases hq; exact ⟨fun n z => ⟨fun k h => (by cases h), kk4, u3, b4, u4⟩, kk4, b4, u3, u4, u1, u5⟩
    | 5, hq => cases hq; exact ⟨fun n z => ⟨fun k h => (by cases h), kk5, v2, b5, v3⟩, v4⟩
    | 6, hq => cases hq; exact ⟨fun n z => ⟨fun k h => (by cases h), kk6, w2, b6, w3⟩, w4⟩
