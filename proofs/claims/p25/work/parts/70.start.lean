noncomputable def S0 : ST := (stS (fun _ _ => 0) 0 0 1, ((fun _ => 0), (fun _ _ => 0), (fun _ => -1)), [])
theorem sI_z {k : Nat} (h : k < 74) (h1 : k ≠ 1) (h2 : k ≠ 50) (h3 : k ≠ 56) (h4 : k ≠ 51) : sI k = zF := by
  unfold sI
  rw [if_neg h1, if_neg h2, if_neg h3, if_neg h4, if_pos h]
theorem V_0 : Val S0 := by
  have hD : DOK S0.1 := by
    refine ⟨by decide, fun a _ => by simp [S0, stS], fun s _ => by simp [S0, stS], fun r _ => by simp [S0, stS], fun v _ => by simp [S0, stS], by simp [S0, stS]⟩
  refine ⟨hD, ⟨fun v hv => ?_, fun v hv k hk => absurd hk (Nat.not_lt_zero _), fun r hr => Or.inl rfl, fun r hr hr2 => rfl⟩, fun v hv => FE_0 hD hv _, fun h hh => (by cases hh), Nat.zero_le _⟩
  exact ⟨Nat.zero_le _, fun k hk => absurd hk (Nat.not_lt_zero _), fun i j hi => absurd hi (Nat.not_lt_zero _), fun i hi => absurd hi (Nat.not_lt_zero _), fun j hj => absurd hj (Nat.not_lt_zero _)⟩
theorem C_0 : InvC sI S0 := by
  refine ⟨⟨⟨rfl, rfl, rfl⟩, fun v hv => ⟨rfl, rfl, rfl⟩, fun r hr => ⟨rfl, rfl, rfl⟩, fun s hs => ⟨rfl, rfl⟩, fun a ha => ⟨rfl, rfl⟩, fun a ha b hb => ?_⟩, ⟨fun v hv => ?_, fun r hr => ?_⟩, ⟨0, by decide, rfl, rfl, by decide, fun i h e => by cases e⟩⟩
  · rw [sI_z (by omega) (by omega) (by omega) (by omega) (by omega)]
    simp [zF, ds, iab, S0, stS]
  · rcases (show v = 0 ∨ v = 1 ∨ v = 2 ∨ v = 3 by omega) with rfl | rfl | rfl | rfl <;> exact ⟨rfl, rfl, rfl, fun k hk => absurd hk (Nat.not_lt_zero _)⟩
  · show voI 12 r = -1
    unfold voI
    rw [if_pos hr]
theorem sI_p {i d : Nat} (hd : d < 11) : sI (74 + 11 * i + d) = if d = 2 then voI 12 else if 3 ≤ d ∧ d ≤ 6 then rtF ((d - 3 : Nat) : Int) else zF := by
  unfold sI
  rw [if_neg (by omega), if_neg (by omega), if_neg (by omega), if_neg (by omega), if_neg (by omega), show (74 + 11 * i + d - 74) % 11 = d by omega]
def plS (q d : Nat) : BS := if d = 0 then .inr (.inr (3, [some (some (q + 1)), some (some (q + 2))])) else if d = 1 then .inr (.inl (1, [some (q + 3), some (q + 4), some (q + 5), some (q + 6)])) else if d = 2 then .inl 12 else if d ≤ 6 then .inr (.inr (5, [none, none, none, some (some (q + d + 4))])) else .inl 24
theorem plS_ok : ∀ i, i < 14 → ∀ d, d < 11 → toBS (shp (74 + 11 * i + d)) = plS (74 + 11 * i) d := by
  intro i hi d hd
  have h := List.all_eq_true.mp (show (List.range 14).all (fun i => (List.range 11).all (fun d => decide (toBS (shp (74 + 11 * i + d)) = plS (74 + 11 * i) d))) = true by decide +kernel) i (List.mem_range.mpr hi)
  have h2 := List.all_eq_true.mp h d (List.mem_range.mpr hd)
  exact of_decide_eq_true h2
theorem ple_fin {E : Nat → BE} {i : Nat} (hi : i < 14) (h : PLE E (74 + 11 * i)) {j : Nat} (h1 : 74 + 11 * i ≤ j) (h2 : j ≤ 74 + 11 * i + 10) : FIN E j := by
  obtain ⟨a, b, c, d⟩ := h
  obtain ⟨x, rfl⟩ : ∃ x, j = 74 + 11 * i + x := ⟨j - (74 + 11 * i), by omega⟩
  have hx : x < 11 := by omega
  unfold FIN
  rw [sI_p hx, plS_ok i hi x hx]
  rcases (show x = 0 ∨ x = 1 ∨ x = 2 ∨ (3 ≤ x ∧ x ≤ 6) ∨ (7 ≤ x ∧ x ≤ 10) by omega) with rfl | rfl | rfl | hx3 | hx3
  · exact a
  · exact b
  · exact c
  · have h3 := (d (x - 3) (by omega)).1
    rw [show 74 + 11 * i + 3 + (x - 3) = 74 + 11 * i + x by omega] at h3
    rw [h3, if_neg (by omega), if_pos hx3]
    unfold plS
    rw [if_neg (by omega), if_neg (by omega), if_neg (by omega), if_pos (by omega)]
  · have h3 := (d (x - 7) (by omega)).2
    rw [show 74 + 11 * i + 3 + (x - 7) + 4 = 74 + 11 * i + x by omega] at h3
    rw [h3, if_neg (by omega), if_neg (by omega)]
    unfold plS
    rw [if_neg (by omega), if_neg (by omega), if_neg (by omega), if_neg (by omega)]
