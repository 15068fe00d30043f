theorem bF_cF (ad : Nat → Nat) (f : Nat → Int) : ∀ (fs : List (Option Nat)) (j : Nat), bF ad f j (fs.map (fun o => match o with
    | none => none
    | some r => some (some r))) = cF ad f j fs
  | [], _ => rfl
  | none :: t, j => by
    rw [List.map_cons, bF, cF, bF_cF ad f t (j + 1)]
    rfl
  | some r :: t, j => by
    rw [List.map_cons, bF, cF, bF_cF ad f t (j + 1)]
    rfl
theorem bE_cE (ad : Nat → Nat) (cA : Nat → ClassId) (f : Nat → Int) (x : Sh) : bE ad cA (f, toBS x) = cE ad cA f x := by
  rcases x with n | ⟨t, l⟩ | ⟨ci, fs⟩
  · rfl
  · have : (fun j : Nat => (((l.map some)[j]?).bind id).map ad) = (fun j : Nat => (l[j]?).map ad) := by
      funext j
      rw [List.getElem?_map]
      cases l[j]? <;> rfl
    show (Sum.inl (cA t, (l.map some).length, .inr (.inr (.inr (.inr (fun j : Nat => (((l.map some)[j]?).bind id).map ad))))) : va_E) = _
    rw [this, List.length_map]
    rfl
  · exact congrArg (fun z => (Sum.inr (ci, z) : va_E)) (bF_cF ad f fs 0)
theorem world_of {dC : Nat → ClassId} {dI : Nat → Nat → Nat} {ad : Nat → Nat} {cA : Nat → ClassId} {cs : List Nat} {E : Nat → BE} {A : Nat → Prop} {H : Heap} {b : Nat} (hB : okB cs E) (hc : ∀ j, j ∈ cs ↔ bas j) (hF : ∀ j, bas j → FIN E j) (hP : va_P (dC, dI) vwCl (wsB ad cA cs E) H) (hD : va_D A (wsB ad cA cs E)) :
    va_P (dC, dI) vwCl (wsC (dC, dI, uB ad 228 b, cA, 0) sI) H ∧ va_D A (wsC (dC, dI, uB ad 228 b, cA, 0) sI) := by
  have e : wsB (uB ad 228 b) cA cs E = wsB ad cA cs E := wsB_c hB (fun k hk => uB_ne (by have := (hc k).mp hk; unfold bas at this; omega)) (fun _ _ => rfl)
  rw [← e] at hP hD
  have key : ∀ {k : Nat} {q : Nat × va_E}, (wsC (dC, dI, uB ad 228 b, cA, 0) sI)[k]? = some q → ∃ k2 q0 : Nat, (cellsL 0)[k]? = some k2 ∧ cs[q0]? = some k2 ∧ (wsB (uB ad 228 b) cA cs E)[q0]? = some q := by
    intro k q hk
    obtain ⟨k2, h1, h2⟩ := wsC_inv _ _ hk
    have h1 : (cellsL 0)[k]? = some k2 := h1
    have hb : bas k2 := by
      rcases cL_inv h1 with z | z
      · exact z.1
      · omega
    obtain ⟨q0, hq0⟩ := List.getElem?_of_mem ((hc k2).mpr hb)
    refine ⟨k2, q0, h1, hq0, ?_⟩
    rw [wsB_get hq0, show E k2 = (sI k2, toBS (shp k2)) from hF k2 hb, bE_cE, h2, shq_b hb]
  refine ⟨fun k q hk => ?_, fun i j p q hi hj hpq => ?_, fun k q hk => ?_⟩
  · obtain ⟨k2, q0, -, -, h⟩ := key hk
    exact hP q0 q h
  · obtain ⟨k1, a, c1, ha, h1⟩ := key hi
    obtain ⟨k2, c, c2, hc2, h2⟩ := key hj
    have := hD.1 a c p q h1 h2 hpq
    subst this
    rw [ha] at hc2
    have := Option.some.inj hc2
    subst this
    exact cL_nd c1 c2
  · obtain ⟨k2, q0, -, -, h⟩ := key hk
    exact hD.2 q0 q h
