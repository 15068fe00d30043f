/-! the law from its entry to its loop -/
theorem ws_start {p : Program} {e : Env} {s : State} {m : MethodId} {below : List Frame} {meth : Method} {c : Code} (l : Launch) {b L : Nat} {xs : Nat → Int32} (hL : L ≤ 3584) (C0 : lw_At p s m meth c b L xs) : W p l e room_1 s m #[Value.ref b] below meth c s.heap [] 0 0 (lw_Z below #[Value.ref b] s) (entryFrame m ([Value.ref b] : List Value).toArray 4) := by
  obtain ⟨hx, hb, hr, hml, hown, hts, hX, hbl, hlocks, hgv⟩ := id C0
  have hA : ∀ q : Nat, s.heap.size ≤ q → (fun q : Nat => s.heap.size ≤ q) q := fun _ h => h
  have htG : ∀ w ∈ tbG, w.before #[Value.ref b] s = true := fun w hw => hts w (List.mem_filter.mp hw).1
  obtain ⟨dC, dI, cA, hKB, hKT⟩ := kb_of hts
  have hS : va_S (fun q : Nat => s.heap.size ≤ q) s.heap s.heap [] := va_S.rf
  have hP : va_P (dC, dI) vwCl [] s.heap := fun k q h => by simp at h
  have hD : va_D (fun q : Nat => s.heap.size ≤ q) [] := ⟨fun i j p q h => by simp at h, fun k q h => by simp at h⟩
  have hl := lv_entry ([.ref b]) (n := 4) (Nat.le_of_ble_eq_true rfl)
  rw [lg_entry_eq]
  generalize (lg_sl ([.ref b]) ++ List.replicate (4 - (lg_sl ([.ref b])).length) Slot.unset).toArray = ls at hl ⊢
  have hl : lv_has ls 4 [(0, .ref b)] := hl
  refine va_new (ci := 7) (fs := [.null, .null, .null, .null, .null, .null]) (C := RX7) (T := TX7) (N := 6) hx hb htG kc_7.2.1 tyX7 tyX7_ok hown (hts (.classLink R_law 7 RX7) (List.mem_of_getElem? (i := 63) (by decide +kernel))) (hts (.instantiable RX7 6) (List.mem_of_getElem? (i := 64) (by decide +kernel))) (hts (.initialized RX7) (List.mem_of_getElem? (i := 52) (by decide +kernel))) hKB.1 hP hD hS hA rfl (fun j hj => by rcases (show j = 0 ∨ j = 1 ∨ j = 2 ∨ j = 3 ∨ j = 4 ∨ j = 5 by omega) with rfl | rfl | rfl | rfl | rfl | rfl <;> rfl) (Nat.le_of_ble_eq_true rfl) (Nat.le_of_ble_eq_true rfl) dL_law_0 (fun q0 H hP hD hS => ?_)
  have hP : va_P (dC, dI) vwCl (wsB (fun _ => q0) cA [0] (fun _ => ((fun _ => 0), .inr (.inr (7, [some none, some none, some none, some none, some none, some none]))))) H := hP
  have hD : va_D (fun q : Nat => s.heap.size ≤ q) (wsB (fun _ => q0) cA [0] (fun _ => ((fun _ => 0), .inr (.inr (7, [some none, some none, some none, some none, some none, some none]))))) := hD
  have hB0 : okB [0] (fun _ => ((fun _ => 0), .inr (.inr (7, [some none, some none, some none, some none, some none, some none])))) := fun k hk r hr => by
    have hr : some (some r) ∈ [some none, some none, some none, some none, some none, some none] := hr
    simp at hr
  refine lv_dup hx hb dL_law_3 rfl ?_
  have mt := metB (G := (dC, dI, cA)) okX7_init rfl (cb_X7 l (dC, dI, cA) (E := fun _ => ((fun _ => 0), .inr (.inr (7, [some none, some none, some none, some none, some none, some none])))) rfl) (okL_R okL_nil) (fun r hr => by rcases List.mem_cons.mp hr with q | q; cases q; exact List.mem_cons_self; cases q) hB0 (Nat.le_of_ble_eq_true rfl) (fun _ => q0) H.size
  sorry
