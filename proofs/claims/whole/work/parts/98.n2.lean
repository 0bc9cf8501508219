/-! the walk from the entry, out of what holds there -/
theorem law_from {p : Program} {e : Env} {s : State} {m : MethodId} {below : List Frame} {meth : Method} {c : Code} (l : Launch) {b L : Nat} {xs : Nat → Int32} (hL : L ≤ 320) (C0 : lw_At p s m meth c b L xs) (G : gU) (hK : va_K G.1 vwCl (tyG G.2.1) s) (hZ : wY G.2.2 (fun q => s.heap.size ≤ q) s s.heap) (hV : wV2 s) : W p l e room_1 s m #[Value.ref b] below meth c s.heap [] 0 0 (lw_Z below #[Value.ref b] s) (entryFrame m ([Value.ref b] : List Value).toArray 4) := by
  obtain ⟨hx, hb, hr, hml, hown, hts, hX, hbl, hlk, hgv⟩ := C0
  have hl := lv_entry ([.ref b]) (n := 4) (Nat.le_of_ble_eq_true rfl)
  rw [lg_entry_eq]
  generalize (lg_sl ([.ref b]) ++ List.replicate (4 - (lg_sl ([.ref b])).length) Slot.unset).toArray = ls at hl ⊢
  have hl : lv_has ls 4 [(0, .ref b)] := hl
  have C : CL (p, l, e, s, m, below, meth, c, b, L, xs, G, lw_Z below #[Value.ref b] s) := ⟨hx, hb, hml, hown, fun q hq => hts q (wsL_law_in q hq), hK, hZ, hX, hbl⟩
  refine law_all (X := (p, l, e, s, m, below, meth, c, b, L, xs, G, lw_Z below #[Value.ref b] s)) C hV hL (fun lv M => ?_) s.heap [] ls rfl hpB_nil va_S.rf hl
  refine VL_iconst C 1 dL_law_1054 (by decide) ?_
  intro H locs ls2 _ hS _
  refine va_forget (fun q hq => hS.2.2 q hq) (W.widen (k := 600000) (n := 7302250) (Nat.le_of_ble_eq_true rfl) (Nat.le_of_ble_eq_true rfl) ?_)
  exact lw_ret hx hb hr hlk dL_law_1055
