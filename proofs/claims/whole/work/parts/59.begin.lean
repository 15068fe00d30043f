theorem ws_start {p : Program} {e : Env} {s : State} {m : MethodId} {below : List Frame} {meth : Method} {c : Code} (l : Launch) {b L : Nat} {xs : Nat → Int32} (hL : L ≤ 3584) (C0 : lw_At p s m meth c b L xs) : W p l e room_1 s m #[Value.ref b] below meth c s.heap [] 0 0 (lw_Z below #[Value.ref b] s) (entryFrame m ([Value.ref b] : List Value).toArray 4) := by
  obtain ⟨hx, hb, hr, hml, hown, hts, hX, hbl, hlocks, hgv⟩ := id C0
  have hA : ∀ q : Nat, s.heap.size ≤ q → (fun q : Nat => s.heap.size ≤ q) q := fun _ h => h
  have htG : ∀ w ∈ tbG, w.before #[Value.ref b] s = true := fun w hw => hts w (List.mem_filter.mp hw).1
  obtain ⟨dC, dI, cA, hKB, hKT⟩ := kb_of hts
  have hS : va_S (fun q : Nat => s.heap.size ≤ q) s.heap s.heap [] := va_S.rf
  have hP : va_P (dC, dI) vwCl [] s.heap := fun k q h => by simp at h
  have hD : va_D (fun q : Nat => s.heap.size ≤ q) [] := ⟨fun i j p q h => by simp at h, fun k q h => by simp at h⟩
  have hl := lv_entry ([.ref b]) (n := 4) (Nat.le_of_ble_eq_true rfl)
  rw [lg_entry_eq]
  generalize (lg_sl ([.ref b]) ++ List.replicate (4 - (lg_sl ([.ref b])).length) Slot.unset).toArray = ls at hl ⊢
  have hl : lv_has ls 4 [(0, .ref b)] := hl
  refine va_new (ci := 7) (fs := [.null, .null, .null, .null, .null, .null]) (C := RX7) (T := TX7) (N := 6) hx hb htG kc_7.2.1 tyX7 tyX7_ok hown (hts (.classLink R_law 7 RX7) (List.mem_of_getElem? (i := 63) (by decide +kernel))) (hts (.instantiable RX7 6) (List.mem_of_getElem? (i := 64) (by decide +kernel))) (hts (.initialized RX7) (List.mem_of_getElem? (i := 52) (by decide +kernel))) hKB.1 hP hD hS hA rfl (fun j hj => by rcases (show j = 0 ∨ j = 1 ∨ j = 2 ∨ j = 3 ∨ j = 4 ∨ j = 5 by omega) with rfl | rfl | rfl | rfl | rfl | rfl <;> rfl) (Nat.le_of_ble_eq_true rfl) (Nat.le_of_ble_eq_true rfl) dL_law_0 (fun q0 H hP hD hS => ?_)
  have hP : va_P (dC, dI) vwCl (wsB (fun _ => q0) cA [0] (fun _ => ((fun _ => 0), .inr (.inr (7, [some none, some none, some none, some none, some none, some none]))))) H := hP
  have hD : va_D (fun q : Nat => s.heap.size ≤ q) (wsB (fun _ => q0) cA [0] (fun _ => ((fun _ => 0), .inr (.inr (7, [some none, some none, some none, some none, some none, some none]))))) := hD
  have hB0 : okB [0] (fun _ => ((fun _ => 0), .inr (.inr (7, [some none, some none, some none, some none, some none, some none])))) := fun k hk r hr => by
    have hr : some (some r) ∈ [some none, some none, some none, some none, some none, some none] := hr
    simp at hr
  refine lv_dup hx hb dL_law_3 rfl ?_
  have mt := metB (G := (dC, dI, cA)) okX7_init rfl (cb_X7 l (dC, dI, cA) (E := fun _ => ((fun _ => 0), .inr (.inr (7, [some none, some none, some none, some none, some none, some none])))) rfl) (okL_R okL_nil) (fun r hr => by rcases List.mem_cons.mp hr with q | q; cases q; exact List.mem_cons_self; cases q) hB0 (Nat.le_of_ble_eq_true rfl) (fun _ => q0) H.size
  have cw : CallB room_1 s #[Value.ref b] R_law 9 mX7_init.1 mX7_init.2.1 mX7_init.2.2.1 none (wsM mX7_init) (RB mX7_init 209 3086) 209 3086 0 ∧ mX7_init.1.name = "<init>" ∧ (Cond.instanceMethod mX7_init.1).before #[Value.ref b] s = true :=
    ⟨⟨rfl, rfl, Nat.le_of_ble_eq_true rfl, Nat.le_of_ble_eq_true rfl, pay_in htG (wsM_good okX7_init), List.mem_cons_self, htG _ okX7_init.2.2.2.1, htG _ okX7_init.2.2.2.2, okX7_init.2.1, fun sig h => by
      have h2 := okX7_init.2.2.1
      rw [h] at h2
      exact (Option.some.inj h2).symm, hts (.methodLink R_law 9 mX7_init.1) (List.mem_of_getElem? (i := 65) (by decide +kernel))⟩, rfl, htG _ ivX7_init⟩
  have FC : ∀ q, va_A (wsB (fun _ => q0) cA [0] (fun _ => ((fun _ => 0), .inr (.inr (7, [some none, some none, some none, some none, some none, some none]))))) H.size q → s.heap.size ≤ q := by
    rintro q (⟨k, x, h⟩ | h)
    · exact hD.2 k (q, x) h
    · exact Nat.le_trans hS.1 h
  refine va_callv (va_runI (As := []) (rest := [.ref q0]) (b := q0) ⟨hx, hb, hml, hown, htG⟩ mt cw ⟨PcB_blind, fun U hU hW => ⟨rfl, by rw [hU], by rw [hU]; exact hP, KB_m hW.alike (fun z => va_Nw.warmM hW z) hKB, ⟨hD.1, fun _ _ _ => trivial⟩⟩⟩ rfl rfl hl.1 rfl (lv_room (Nat.le_of_ble_eq_true rfl)) dL_law_4 ⟨Nat.le_of_ble_eq_true rfl, Nat.le_of_ble_eq_true rfl⟩) hS (fun q _ h => FC q h) FC (fun u t H1 locs1 ht hvm hp hB2 hz1 hk1 hS => ?_)
  obtain ⟨ad1, cs1, E1⟩ := u
  obtain ⟨a1, ⟨j1, fin1, p74, p85, p96, p107, ph⟩, ok1, sub1⟩ := hp
  obtain ⟨hP1, hD1⟩ := hB2
  rw [ht] at hP1
  have hD2 : va_D (fun q : Nat => s.heap.size ≤ q) (wsB ad1 cA cs1 E1) := ⟨hD1.1, fun k q hk => FC _ (hD1.2 k q hk)⟩
  have e0 : ad1 0 = q0 := a1 0 List.mem_cons_self
  refine lv_astore_n (lv' := [(1, .ref q0), (0, .ref b)]) hx hb dL_law_7 rfl hl (by decide) rfl (fun ls hl => ?_)
  have n56 : 56 ∉ cs1 := fun h => by
    have := (j1 56).mp h
    omega
  refine va_new (ci := 8) (fs := bF ad1 (fun _ => 0) 0 [none, none, some none, some none, some none, some none, some none, none, some none, some none, some none, some none, some none, some none, some none, none, some none, some none, some none, none, none, none, none, some none, some none, none, none, none]) (C := RX8) (T := TX8) (N := 28) hx hb htG kc_8.2.1 tyX8 tyX8_ok hown (hts (.classLink R_law 10 RX8) (List.mem_of_getElem? (i := 688) (by decide +kernel))) (hts (.instantiable RX8 28) (List.mem_of_getElem? (i := 689) (by decide +kernel))) (hts (.initialized RX8) (List.mem_of_getElem? (i := 60) (by decide +kernel))) hKB.1 hP1 hD2 hS hA rfl (fun j hj => by rcases (show j = 0 ∨ j = 1 ∨ j = 2 ∨ j = 3 ∨ j = 4 ∨ j = 5 ∨ j = 6 ∨ j = 7 ∨ j = 8 ∨ j = 9 ∨ j = 10 ∨ j = 11 ∨ j = 12 ∨ j = 13 ∨ j = 14 ∨ j = 15 ∨ j = 16 ∨ j = 17 ∨ j = 18 ∨ j = 19 ∨ j = 20 ∨ j = 21 ∨ j = 22 ∨ j = 23 ∨ j = 24 ∨ j = 25 ∨ j = 26 ∨ j = 27 by omega) with rfl | rfl | rfl | rfl | rfl | rfl | rfl | rfl | rfl | rfl | rfl | rfl | rfl | rfl | rfl | rfl | rfl | rfl | rfl | rfl | rfl | rfl | rfl | rfl | rfl | rfl | rfl | rfl <;> rfl) (Nat.le_of_ble_eq_true rfl) (Nat.le_of_ble_eq_true rfl) dL_law_8 (fun q1 H2 hP2 hD3 hS => ?_)
  have nr : ∀ r, ¬ bR ((((fun _ => 0), .inr (.inr (8, [none, none, some none, some none, some none, some none, some none, none, some none, some none, some none, some none, some none, some none, some none, none, some none, some none, some none, none, none, none, none, some none, some none, none, none, none]))) : BE)).2 r := fun r hr => by
    have hr : some (some r) ∈ ([none, none, some none, some none, some none, some none, some none, none, some none, some none, some none, some none, some none, some none, some none, none, some none, some none, some none, none, none, none, none, some none, some none, none, none, none] : List (Option (Option Nat))) := hr
    simp at hr
  have hP2 : va_P (dC, dI) vwCl (wsB ad1 cA cs1 E1 ++ [(q1, bE ad1 cA ((fun _ => 0), .inr (.inr (8, [none, none, some none, some none, some none, some none, some none, none, some none, some none, some none, some none, some none, some none, some none, none, some none, some none, some none, none, none, none, none, some none, some none, none, none, none]))))]) H2 := hP2
  have hD3 : va_D (fun q : Nat => s.heap.size ≤ q) (wsB ad1 cA cs1 E1 ++ [(q1, bE ad1 cA ((fun _ => 0), .inr (.inr (8, [none, none, some none, some none, some none, some none, some none, none, some none, some none, some none, some none, some none, some none, some none, none, some none, some none, some none, none, none, none, none, some none, some none, none, none, none]))))]) := hD3
  rw [wsB_new ok1 n56 nr] at hP2 hD3
  have ok2 := okB_new ok1 (k := 56) nr
  refine lv_dup hx hb dL_law_11 rfl ?_
  have m56 : ∀ j, j ∈ cs1 ++ [56] ↔ j ≤ 56 ∨ (74 ≤ j ∧ j ≤ 227) := fun j => by rw [List.mem_append, j1 j, List.mem_singleton]; omega
  have mt2 := metB (G := (dC, dI, cA)) okX8_init rfl (cb_X8 l (dC, dI, cA) uB_eq (fun j hj => by have := (m56 j).mp hj; omega)) (okL_R okL_nil) (fun r hr => by rcases List.mem_cons.mp hr with q | q; cases q; exact (m56 56).mpr (by omega); cases q) ok2 (Nat.le_of_ble_eq_true rfl) (uB ad1 56 q1) H2.size
  have cw2 : CallB room_1 s #[Value.ref b] R_law 12 mX8_init.1 mX8_init.2.1 mX8_init.2.2.1 none (wsM mX8_init) (RB mX8_init 17 1418) 17 1418 0 ∧ mX8_init.1.name = "<init>" ∧ (Cond.instanceMethod mX8_init.1).before #[Value.ref b] s = true :=
    ⟨⟨rfl, rfl, Nat.le_of_ble_eq_true rfl, Nat.le_of_ble_eq_true rfl, pay_in htG (wsM_good okX8_init), List.mem_cons_self, htG _ okX8_init.2.2.2.1, htG _ okX8_init.2.2.2.2, okX8_init.2.1, fun sig h => by
      have h2 := okX8_init.2.2.1
      rw [h] at h2
      exact (Option.some.inj h2).symm, hts (.methodLink R_law 12 mX8_init.1) (List.mem_of_getElem? (i := 690) (by decide +kernel))⟩, rfl, htG _ ivX8_init⟩
  have FC2 : ∀ q, va_A (wsB (uB ad1 56 q1) cA (cs1 ++ [56]) (uB E1 56 ((fun _ => 0), .inr (.inr (8, [none, none, some none, some none, some none, some none, some none, none, some none, some none, some none, some none, some none, some none, some none, none, some none, some none, some none, none, none, none, none, some none, some none, none, none, none]))))) H2.size q → s.heap.size ≤ q := by
    rintro q (⟨k, x, h⟩ | h)
    · exact hD3.2 k (q, x) h
    · exact Nat.le_trans hS.1 h
  refine va_callv (va_runI (As := []) (rest := [.ref q1]) (b := q1) ⟨hx, hb, hml, hown, htG⟩ mt2 cw2 ⟨PcB_blind, fun U hU hW => ⟨rfl, by rw [hU], by rw [hU]; exact hP2, KB_m hW.alike (fun z => va_Nw.warmM hW z) hKB, ⟨hD3.1, fun _ _ _ => trivial⟩⟩⟩ rfl rfl hl.1 rfl (lv_room (Nat.le_of_ble_eq_true rfl)) dL_law_12 ⟨Nat.le_of_ble_eq_true rfl, Nat.le_of_ble_eq_true rfl⟩) hS (fun q _ h => FC2 q h) FC2 (fun u t H3 locs3 ht hvm hp hB2 hz1 hk1 hS => ?_)
  obtain ⟨ad2, cs2, E2⟩ := u
  obtain ⟨a2, ⟨j2, fr2, fin2⟩, ok3, sub2⟩ := hp
  obtain ⟨hP3, hD4⟩ := hB2
  rw [ht] at hP3
  have hD5 : va_D (fun q : Nat => s.heap.size ≤ q) (wsB ad2 cA cs2 E2) := ⟨hD4.1, fun k q hk => FC2 _ (hD4.2 k q hk)⟩
  refine lv_astore_n (lv' := [(2, .ref q1), (1, .ref q0), (0, .ref b)]) hx hb dL_law_15 rfl hl (by decide) rfl (fun ls hl => ?_)
  have hc : ∀ j, j ∈ cs2 ↔ j < 228 := fun j => by rw [j2 j, m56 j]; omega
  have pk : ∀ j, (j < 56 ∨ 73 < j) → E2 j = E1 j := fun j hj => (fr2 j hj).trans (uB_ne (by omega))
  have hF : ∀ j, j < 228 → FIN E2 j := by
    intro j hj
    by_cases c0 : j ≤ 55
    · unfold FIN
      rw [pk j (by omega)]
      exact fin1 j c0
    · by_cases c1 : j ≤ 73
      · exact fin2 j (by omega) c1
      · have tr : ∀ i, i < 14 → PLE E1 (74 + 11 * i) → 74 + 11 * i ≤ j → j ≤ 74 + 11 * i + 10 → FIN E2 j := fun i hi hp x y => ple_fin hi (ple_t hp (fun j a _ => pk j (by omega))) x y
        by_cases d0 : j ≤ 84
        · exact tr 0 (by omega) p74 (by omega) (by omega)
        · by_cases d1 : j ≤ 95
          · exact tr 1 (by omega) p85 (by omega) (by omega)
          · by_cases d2 : j ≤ 106
            · exact tr 2 (by omega) p96 (by omega) (by omega)
            · by_cases d3 : j ≤ 117
              · exact tr 3 (by omega) p107 (by omega) (by omega)
              · have hw := ph ((j - 118) / 11) (by omega)
                exact tr (4 + (j - 118) / 11) (by omega) (by rw [show 74 + 11 * (4 + (j - 118) / 11) = 118 + 11 * ((j - 118) / 11) by omega]; exact hw) (by omega) (by omega)
  obtain ⟨hPw, hDw⟩ := world_of (b := b) ok3 hc hF hP3 hD5
  have g0 : uB ad2 228 b 0 = q0 := (uB_ne (by decide)).trans ((a2 0 ((m56 0).mpr (by omega))).trans ((uB_ne (by decide)).trans e0))
  have g1 : uB ad2 228 b 56 = q1 := (uB_ne (by decide)).trans ((a2 56 ((m56 56).mpr (by omega))).trans uB_eq)
  have K : MWF l (dC, dI, uB ad2 228 b, cA) mL (FL b L xs) 16 [(2, vR 56), (1, vR 0), (0, vR 228)] [] sI := by
    refine r_iconst dL_law_16 (by decide) ?_
    refine r_istore_n (ls' := lwS 0) dL_law_17 rfl (by decide) rfl ?_
    exact lw_head (show uB ad2 228 b 228 = b from uB_eq) hL (L + 8) 0 S0 sI (by omega) (by omega) (by omega) V_0 C_0 M_0
  have okI : okS sI := fun k i => by
    unfold sI
    (repeat' split) <;> simp only [zF, rtF, voI] <;> (repeat' split) <;> omega
  have hlw : lv_has ls 4 ([(2, vR 56), (1, vR 0), (0, vR 228)].map (cvp (uB ad2 228 b))) := by
    show lv_has ls 4 [(2, .ref (uB ad2 228 b 56)), (1, .ref (uB ad2 228 b 0)), (0, .ref (uB ad2 228 b 228))]
    rw [g0, g1, uB_eq]
    exact hl
  exact K okI (okL_R (okL_R (okL_R okL_nil))) okL_nil p e room_1 s m _ below meth c (fun q : Nat => s.heap.size ≤ q) s.heap _ _ _ ⟨rfl, hr, hlocks, rfl, rfl, rfl, hX, hbl, rfl, by decide, by decide⟩ ⟨hx, hb, hml, hown, htG, hKT, wsC_D _ hDw, Nat.le_refl _, Nat.le_refl _, by decide, by decide⟩ H3 _ ls hPw hS hlw
