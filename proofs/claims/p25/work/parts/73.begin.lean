theorem ws_start {p : Program} {e : Env} {s : State} {m : MethodId} {below : List Frame} {meth : Method} {c : Code} (l : Launch) {b L : Nat} {xs : Nat → Int32} (hL : L ≤ 260) (C0 : lw_At p s m meth c b L xs) : W p l e room_1 s m #[Value.ref b] below meth c s.heap [] 0 0 (lw_Z below #[Value.ref b] s) (entryFrame m ([Value.ref b] : List Value).toArray 18) := by
  obtain ⟨hx, hb, hr, hml, hown, hts, hX, hbl, hlocks, hgv⟩ := id C0
  have hA : ∀ q : Nat, s.heap.size ≤ q → (fun q : Nat => s.heap.size ≤ q) q := fun _ h => h
  have htG : ∀ w ∈ tbG, w.before #[Value.ref b] s = true := fun w hw => hts w (List.mem_filter.mp hw).1
  obtain ⟨dC, dI, cA, hKB, hKT⟩ := kb_of hts
  have hS : va_S (fun q : Nat => s.heap.size ≤ q) s.heap s.heap [] := va_S.rf
  have hP : va_P (dC, dI) vwCl [] s.heap := fun k q h => by simp at h
  have hD : va_D (fun q : Nat => s.heap.size ≤ q) [] := ⟨fun i j p q h => by simp at h, fun k q h => by simp at h⟩
  have hl := lv_entry ([.ref b]) (n := 18) (Nat.le_of_ble_eq_true rfl)
  rw [lg_entry_eq]
  generalize (lg_sl ([.ref b]) ++ List.replicate (18 - (lg_sl ([.ref b])).length) Slot.unset).toArray = ls at hl ⊢
  have hl : lv_has ls 18 [(0, .ref b)] := hl
  refine va_new (ci := 7) (fs := [.null, .null, .null, .null, .null, .null]) (C := RX7) (T := TX7) (N := 6) hx hb htG kc_7.2.1 tyX7 tyX7_ok hown (hts (.classLink R_law 16 RX7) (List.mem_of_getElem? (i := 31) (by decide +kernel))) (hts (.instantiable RX7 6) (List.mem_of_getElem? (i := 32) (by decide +kernel))) (hts (.initialized RX7) (List.mem_of_getElem? (i := 21) (by decide +kernel))) hKB.1 hP hD hS hA rfl (fun j hj => by rcases (show j = 0 ∨ j = 1 ∨ j = 2 ∨ j = 3 ∨ j = 4 ∨ j = 5 by omega) with rfl | rfl | rfl | rfl | rfl | rfl <;> rfl) (Nat.le_of_ble_eq_true rfl) (Nat.le_of_ble_eq_true rfl) dL_law_0 (fun q0 H hP hD hS => ?_)
  have hP : va_P (dC, dI) vwCl (wsB (fun _ => q0) cA [0] (fun _ => ((fun _ => 0), .inr (.inr (7, [some none, some none, some none, some none, some none, some none]))))) H := hP
  have hD : va_D (fun q : Nat => s.heap.size ≤ q) (wsB (fun _ => q0) cA [0] (fun _ => ((fun _ => 0), .inr (.inr (7, [some none, some none, some none, some none, some none, some none]))))) := hD
  have hB0 : okB [0] (fun _ => ((fun _ => 0), .inr (.inr (7, [some none, some none, some none, some none, some none, some none])))) := fun k hk r hr => by
    have hr : some (some r) ∈ [some none, some none, some none, some none, some none, some none] := hr
    simp at hr
  refine lv_dup hx hb dL_law_3 rfl ?_
  have mt := metB (G := (dC, dI, cA)) okX7_init rfl (cb_X7 l (dC, dI, cA) (E := fun _ => ((fun _ => 0), .inr (.inr (7, [some none, some none, some none, some none, some none, some none])))) rfl) (okL_R okL_nil) (fun r hr => by rcases List.mem_cons.mp hr with q | q; cases q; exact List.mem_cons_self; cases q) hB0 (Nat.le_of_ble_eq_true rfl) (fun _ => q0) H.size
  have cw : CallB room_1 s #[Value.ref b] R_law 114 mX7_init.1 mX7_init.2.1 mX7_init.2.2.1 none (wsM mX7_init) (RB mX7_init 209 3086) 209 3086 0 ∧ mX7_init.1.name = "<init>" ∧ (Cond.instanceMethod mX7_init.1).before #[Value.ref b] s = true :=
    ⟨⟨rfl, rfl, Nat.le_of_ble_eq_true rfl, Nat.le_of_ble_eq_true rfl, pay_in htG (wsM_good okX7_init), List.mem_cons_self, htG _ okX7_init.2.2.2.1, htG _ okX7_init.2.2.2.2, okX7_init.2.1, fun sig h => by
      have h2 := okX7_init.2.2.1
      rw [h] at h2
      exact (Option.some.inj h2).symm, hts (.methodLink R_law 114 mX7_init.1) (List.mem_of_getElem? (i := 33) (by decide +kernel))⟩, rfl, htG _ ivX7_init⟩
  have FC : ∀ q, va_A (wsB (fun _ => q0) cA [0] (fun _ => ((fun _ => 0), .inr (.inr (7, [some none, some none, some none, some none, some none, some none]))))) H.size q → s.heap.size ≤ q := by
    rintro q (⟨k, x, h⟩ | h)
    · exact hD.2 k (q, x) h
    · exact Nat.le_trans hS.1 h
  refine va_callv (va_runI (As := []) (rest := [.ref q0]) (b := q0) ⟨hx, hb, hml, hown, htG⟩ mt cw ⟨PcB_blind, fun U hU hW => ⟨rfl, by rw [hU], by rw [hU]; exact hP, KB_m hW.alike (fun z => va_Nw.warmM hW z) hKB, ⟨hD.1, fun _ _ _ => trivial⟩⟩⟩ rfl rfl hl.1 rfl (lv_room (Nat.le_of_ble_eq_true rfl)) dL_law_4 ⟨Nat.le_of_ble_eq_true rfl, Nat.le_of_ble_eq_true rfl⟩) hS (fun q _ h => FC q h) FC (fun u t H1 locs1 ht hvm hp hB2 hz1 hk1 hS => ?_)
  obtain ⟨ad1, cs1, E1⟩ := u
  obtain ⟨a1, ⟨j1, fin1, p74, p85, p96, p107, ph⟩, ok1, sub1⟩ := hp
  obtain ⟨hP1, hD1⟩ := hB2
  rw [ht] at hP1
  have hD2 : va_D (fun q : Nat => s.heap.size ≤ q) (wsB ad1 cA cs1 E1) := ⟨hD1.1, fun k q hk => FC _ (hD1.2 k q hk)⟩
  have e0 : ad1 0 = q0 := a1 0 List.mem_cons_self
  refine lv_astore_n (lv' := [(1, .ref q0), (0, .ref b)]) hx hb dL_law_7 rfl hl (by decide) rfl (fun ls hl => ?_)
  have n56 : 56 ∉ cs1 := fun h => by
    have := (j1 56).mp h
    omega
  refine lv_bipush (v := Int32.ofInt 64) hx hb dL_law_8 (by decide) ?_
  have nr : ∀ r, ¬ bR ((((fun _ => 0), .inl 64) : BE)).2 r := fun r hr => hr
  refine va_newa (atype := .int) (ty := .int) (a0 := (64, .inl (fun _ => Int32.ofInt 0))) (N' := 64) hx hb (htG _ ai_w) rfl hKB.1 hP1 hD2 hS hA (fun cA => by rw [vp_cell_i]; rfl) (by decide) (by decide) (by decide) (Nat.le_of_ble_eq_true rfl) (Nat.le_of_ble_eq_true rfl) dL_law_10 (fun q1 cA1 H2 hK2 hP2 hD3 hS => ?_)
  have ec : cA1 = cA 0 := cA_of (t := 0) hKB (by decide) hK2
  subst ec
  have hP2 : va_P (dC, dI) vwCl (wsB ad1 cA cs1 E1 ++ [(q1, bE ad1 cA ((fun _ => 0), .inl 64))]) H2 := hP2
  have hD3 : va_D (fun q : Nat => s.heap.size ≤ q) (wsB ad1 cA cs1 E1 ++ [(q1, bE ad1 cA ((fun _ => 0), .inl 64))]) := hD3
  rw [wsB_new ok1 n56 nr] at hP2 hD3
  have ok2 := okB_new ok1 (k := 56) nr
  refine lv_astore_n (lv' := [(2, .ref q1), (1, .ref q0), (0, .ref b)]) hx hb dL_law_12 rfl hl (by decide) rfl (fun ls hl => ?_)
  have hc : ∀ j, j ∈ cs1 ++ [56] ↔ bas j := fun j => by
    rw [List.mem_append, j1 j, List.mem_singleton]
    unfold bas
    omega
  have pk : ∀ j, j ≠ 56 → uB E1 56 ((fun _ => 0), .inl 64) j = E1 j := fun j hj => uB_ne hj
  have hF : ∀ j, bas j → FIN (uB E1 56 ((fun _ => 0), .inl 64)) j := by
    intro j hj
    unfold bas at hj
    by_cases c1 : j = 56
    · subst c1
      unfold FIN
      rw [uB_eq]
      exact Prod.ext rfl (show (.inl 64 : BS) = _ by decide +kernel)
    · by_cases c0 : j ≤ 55
      · unfold FIN
        rw [pk j c1]
        exact fin1 j c0
      · have tr : ∀ i, i < 14 → PLE E1 (74 + 11 * i) → 74 + 11 * i ≤ j → j ≤ 74 + 11 * i + 10 → FIN (uB E1 56 ((fun _ => 0), .inl 64)) j := fun i hi hp x y => ple_fin hi (ple_t hp (fun j a _ => pk j (by omega))) x y
        by_cases d0 : j ≤ 84
        · exact tr 0 (by omega) p74 (by omega) (by omega)
        · by_cases d1 : j ≤ 95
          · exact tr 1 (by omega) p85 (by omega) (by omega)
          · by_cases d2 : j ≤ 106
            · exact tr 2 (by omega) p96 (by omega) (by omega)
            · by_cases d3 : j ≤ 117
              · exact tr 3 (by omega) p107 (by omega) (by omega)
              · have hw := ph ((j - 118) / 11) (by omega)
                exact tr (4 + (j - 118) / 11) (by omega) (by rw [show 74 + 11 * (4 + (j - 118) / 11) = 118 + 11 * ((j - 118) / 11) by omega]; exact hw) (by omega) (by omega)
  obtain ⟨hPw, hDw⟩ := world_of (b := b) ok2 hc hF hP2 hD3
  have g0 : uB (uB ad1 56 q1) 228 b 0 = q0 := (uB_ne (by decide)).trans ((uB_ne (by decide)).trans e0)
  have g1 : uB (uB ad1 56 q1) 228 b 56 = q1 := (uB_ne (by decide)).trans uB_eq
  have K : MWF l (dC, dI, uB (uB ad1 56 q1) 228 b, cA, 0) mL (FL b L xs 0) 13 [(2, vR 56), (1, vR 0), (0, vR 228)] [] sI := by
    refine MWF.sub [2, 1, 0] rfl ?_
    exact su_13 (l := l) rfl (show uB (uB ad1 56 q1) 228 b 228 = b from uB_eq) hL V_0 C_0 (by simp [stS]) (by simp [stS]) (by simp [stS]) (fun r _ => by simp [stS])
  have okI : okS sI := fun k i => by
    unfold sI
    (repeat' split) <;> simp only [zF, rtF, voI] <;> (repeat' split) <;> omega
  have hlw : lv_has ls 18 ([(2, vR 56), (1, vR 0), (0, vR 228)].map (cvp (uB (uB ad1 56 q1) 228 b))) := by
    show lv_has ls 18 [(2, .ref (uB (uB ad1 56 q1) 228 b 56)), (1, .ref (uB (uB ad1 56 q1) 228 b 0)), (0, .ref (uB (uB ad1 56 q1) 228 b 228))]
    rw [g0, g1, uB_eq]
    exact hl
  exact K okI (okL_R (okL_R (okL_R okL_nil))) okL_nil p e room_1 s m _ below meth c (fun q : Nat => s.heap.size ≤ q) s.heap _ _ _ ⟨rfl, hr, hlocks, rfl, rfl, rfl, hX, hbl, rfl, by decide, by decide⟩ ⟨hx, hb, hml, hown, htG, hKT, wsC_D _ hDw, Nat.le_refl _, Nat.le_refl _, by decide, by decide⟩ H2 _ ls hPw hS hlw
