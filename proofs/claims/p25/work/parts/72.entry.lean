theorem kb_of {s : State} {b : Nat} (hts : ∀ w ∈ lw_tbl, w.before #[Value.ref b] s = true) : ∃ (dC : Nat → ClassId) (dI : Nat → Nat → Nat) (cA : Nat → ClassId), KB dC dI cA s ∧ va_K (dC, dI) vwCl [(cA 0, .int), (cA 1, .object "SharedRides$Route"), (cA 2, .object "SharedRides$Plan"), (cA 3, .array .int)] s := by
  have htG : ∀ w ∈ tbG, w.before #[Value.ref b] s = true := fun w hw => hts w (List.mem_filter.mp hw).1
  obtain ⟨c0, i0, h0⟩ := u_known (C := RX0) (T := TX0) (N := 3) (n := 3) htG kc_0.2.1 (htG _ is_X0)
  obtain ⟨c1, i1, h1⟩ := u_known (C := RX1) (T := TX1) (N := 8) (n := 8) htG kc_1.2.1 (htG _ is_X1)
  obtain ⟨c2, i2, h2⟩ := u_known (C := RX2) (T := TX2) (N := 10) (n := 10) htG kc_2.2.1 (htG _ is_X2)
  obtain ⟨c3, i3, h3⟩ := u_known (C := RX3) (T := TX3) (N := 2) (n := 2) htG kc_3.2.1 (htG _ is_X3)
  obtain ⟨c4, i4, h4⟩ := u_known (C := RX4) (T := TX4) (N := 13) (n := 13) htG kc_4.2.1 (htG _ is_X4)
  obtain ⟨c5, i5, h5⟩ := u_known (C := RX5) (T := TX5) (N := 4) (n := 4) htG kc_5.2.1 (htG _ is_X5)
  obtain ⟨c6, i6, h6⟩ := u_known (C := RX6) (T := TX6) (N := 13) (n := 13) htG kc_6.2.1 (htG _ is_X6)
  obtain ⟨c7, i7, h7⟩ := u_known (C := RX7) (T := TX7) (N := 6) (n := 6) htG kc_7.2.1 (hts (.instantiable RX7 6) (List.mem_of_getElem? (i := 32) (by decide +kernel)))
  have hI : (Cond.arrayClass .int).before #[Value.ref b] s = true := htG _ ai_w
  have hR : (Cond.arrayOver (.object "SharedRides$Route")).before #[Value.ref b] s = true := hts _ (List.mem_of_getElem? (i := 240) (by decide +kernel))
  have hPl : (Cond.arrayOver (.object "SharedRides$Plan")).before #[Value.ref b] s = true := hts _ (List.mem_of_getElem? (i := 300) (by decide +kernel))
  have hA : (Cond.arrayOver (.array .int)).before #[Value.ref b] s = true := hts _ (List.mem_of_getElem? (i := 46) (by decide +kernel))
  have hW : wNest.before #[Value.ref b] s = true := hts _ (List.mem_of_getElem? (i := 41) (by decide +kernel))
  obtain ⟨a0, k0, m0, f0, g0, e0⟩ := Cond.arrayClass_spec hI
  obtain ⟨m1, a1, k1, j1, -, g1, e1, f1⟩ := Cond.arrayOver_spec hR
  obtain ⟨m2, a2, k2, j2, -, g2, e2, f2⟩ := Cond.arrayOver_spec hPl
  obtain ⟨m3, a3, k3, j3, -, g3, e3, f3⟩ := arrayOver_specB hA
  have hcl : ∀ (k : Nat) (q : vw_C), vwCl[k]? = some q → u_Kn s q.1 q.2.1 q.2.2 ([c0, c1, c2, c3, c4, c5, c6, c7].getD k 0) ([i0, i1, i2, i3, i4, i5, i6, i7].getD k (fun _ => 0)) := by
    intro k q hq
    match k, hq with
    | 0, hq => cases hq; exact h0
    | 1, hq => cases hq; exact h1
    | 2, hq => cases hq; exact h2
    | 3, hq => cases hq; exact h3
    | 4, hq => cases hq; exact h4
    | 5, hq => cases hq; exact h5
    | 6, hq => cases hq; exact h6
    | 7, hq => cases hq; exact h7
    | k + 8, hq => simp [vwCl] at hq
  refine ⟨fun k => [c0, c1, c2, c3, c4, c5, c6, c7].getD k 0, fun k => [i0, i1, i2, i3, i4, i5, i6, i7].getD k (fun _ => 0), fun t => [a0, a1, a2, a3].getD t 0, ⟨⟨hcl, fun k q h => by cases h⟩, fun t ht c hc => ?_, va_AO.of hR, va_AO.of hPl, hA, va_Nw.of rfl hW⟩, hcl, fun k q hq => ?_⟩
  · match t, ht with
    | 0, _ => exact Option.some.inj (hc.symm.trans f0)
    | 1, _ => exact Option.some.inj (hc.symm.trans f1)
    | 2, _ => exact Option.some.inj (hc.symm.trans f2)
    | 3, _ => exact Option.some.inj (hc.symm.trans f3)
  · match k, hq with
    | 0, hq => cases hq; exact ⟨fun n z => ⟨fun k h => (by cases h), k0, g0, m0, e0⟩, f0⟩
    | 1, hq => cases hq; exact ⟨fun n z => ⟨fun k h => (by cases h), k1, g1, m1, e1⟩, k1, m1, g1, e1, j1, f1⟩
    | 2, hq => cases hq; exact ⟨fun n z => ⟨fun k h => (by cases h), k2, g2, m2, e2⟩, k2, m2, g2, e2, j2, f2⟩
    | 3, hq => cases hq; exact ⟨fun n z => ⟨fun k h => (by cases h), k3, g3, m3, e3⟩, f3⟩
    | k + 4, hq => simp at hq
