def mX0_init : MI := (yX0_init, cX0_init, 2, none, 3, 62)
theorem okX0_init : MOK mX0_init 0 := ⟨by decide +kernel, ⟨by decide +kernel, by decide +kernel⟩, by decide +kernel, tb_in 297 (by decide +kernel) (by decide +kernel), tb_in 28 (by decide +kernel) (by decide +kernel)⟩
theorem ivX0_init : Cond.instanceMethod mX0_init.1 ∈ tbG := tb_in 296 (by decide +kernel) (by decide +kernel)
theorem lo_X0 : Cond.methodLink mX0_init.1.cls 3 Lib.objectInit ∈ tbG := tb_in 298 (by decide +kernel) (by decide +kernel)
theorem cl_X0_18 : Cond.classLink mX0_init.1.cls 18 "SharedRides$Plan" ∈ tbG := tb_in 299 (by decide +kernel) (by decide +kernel)
theorem lm_X0_24 : Cond.methodLink mX0_init.1.cls 24 mX3_init.1 ∈ tbG := tb_in 301 (by decide +kernel) (by decide +kernel)
def pl10 (i : Nat) : List (Option Nat) := (List.range 10).map (fun j => if j < i then some (118 + 11 * j) else none)
theorem pl10_s (i : Nat) (hi : i < 10) : (pl10 i).set i (some (118 + 11 * i)) = pl10 (i + 1) := by
  rcases (show i = 0 ∨ i = 1 ∨ i = 2 ∨ i = 3 ∨ i = 4 ∨ i = 5 ∨ i = 6 ∨ i = 7 ∨ i = 8 ∨ i = 9 by omega) with rfl | rfl | rfl | rfl | rfl | rfl | rfl | rfl | rfl | rfl <;> decide +kernel
theorem cb_X0 (l : Launch) (G : GB) {cs : List Nat} {E : Nat → BE} (hE : E 53 = ((fun _ => 0), .inr (.inr (0, [none, none, some none])))) (hk : ∀ j, j = 54 ∨ (118 ≤ j ∧ j ≤ 227) → j ∉ cs) : CB l G mX0_init [vR 53] cs E 111 1310 (fun (cs' : List Nat) (E' : Nat → BE) => (∀ j, j ∈ cs' ↔ j ∈ cs ∨ j = 54 ∨ (118 ≤ j ∧ j ≤ 227)) ∧ (∀ j, j ≠ 53 → j ≠ 54 → (j < 118 ∨ 227 < j) → E' j = E j) ∧ FIN E' 53 ∧ FIN E' 54 ∧ ∀ w, w < 10 → PLE E' (118 + 11 * w)) := by
  intro ad0 A0
  generalize hQ : (fun (cs' : List Nat) (E' : Nat → BE) => (∀ j, j ∈ cs' ↔ j ∈ cs ∨ j = 54 ∨ (118 ≤ j ∧ j ≤ 227)) ∧ (∀ j, j ≠ 53 → j ≠ 54 → (j < 118 ∨ 227 < j) → E' j = E j) ∧ FIN E' 53 ∧ FIN E' 54 ∧ ∀ w, w < 10 → PLE E' (118 + 11 * w)) = Q
  have loop : ∀ (m i : Nat) (x : Int) (cs1 : List Nat) (E1 : Nat → BE), i + m = 10 → x = i → (∀ j, j ∈ cs1 ↔ j ∈ cs ∨ j = 54 ∨ (118 ≤ j ∧ j < 118 + 11 * i)) → (∀ j, j ≠ 53 → j ≠ 54 → (j < 118 ∨ 227 < j) → E1 j = E j) → E1 53 = (zF, .inr (.inr (0, [none, none, some (some 54)]))) → E1 54 = (zF, .inr (.inl (2, pl10 i))) → (∀ w, w < i → PLE E1 (118 + 11 * w)) →
      BWF l G mX0_init (FinB G mX0_init ad0 cs 111 1310 A0 Q) 25 [(1, vI x), (0, vR 53)] [] cs1 E1 [2] (11 * m) (130 * m) := by
    intro m
    induction m with
    | zero =>
      intro i x cs1 E1 hm hx hc hf h3 h4 hp
      obtain rfl : i = 10 := by omega
      refine b_iload_n 0 dX0_init_25 rfl rfl ?_
      refine b_bipush dX0_init_26 (by decide) (by decide) ?_
      refine b_ge (tgt := 50) dX0_init_28 (by decide) (by omega) ?_
      refine b_ret dX0_init_50 ?_ (fun j hj => (hc j).mpr (Or.inl hj))
      rw [← hQ]
      refine ⟨fun j => ?_, hf, h3.trans (Prod.ext rfl (show (.inr (.inr (0, [none, none, some (some 54)])) : BS) = _ by decide +kernel)), h4.trans (Prod.ext rfl (show (.inr (.inl (2, pl10 10)) : BS) = _ by decide +kernel)), hp⟩
      rw [hc j]
      by_cases c : j ∈ cs
      · simp [c]
      · simp only [c, false_or]; omega
    | succ m ih =>
      intro i x cs1 E1 hm hx hc hf h3 h4 hp
      have hi : i < 10 := by omega
      have nin : ∀ j, 118 + 11 * i ≤ j ∧ j ≤ 227 → j ∉ cs1 := fun j hj h => by
        rcases (hc j).mp h with a | a | a
        · exact hk j (Or.inr (by omega)) a
        · omega
        · omega
      rw [show 130 * (m + 1) = 130 * m + 128 + 2 by omega, show 11 * (m + 1) = 11 * m + 10 + 1 by omega]
      refine b_iload_n 0 dX0_init_25 rfl rfl ?_
      refine b_bipush dX0_init_26 (by decide) (by decide) ?_
      refine b_lt (tgt := 50) dX0_init_28 (by decide) (by omega) ?_
      refine b_aload_n 1 dX0_init_31 rfl rfl ?_
      refine b_getR (j := 2) (r := 54) dX0_init_32 h3 rfl kc_0 (by decide) lf_X0_20 ?_
      refine b_iload_n 0 dX0_init_35 rfl rfl ?_
      have f0 : FS (FinB G mX0_init ad0 cs 111 1310 A0 Q) cs1 := FS_fin (fun j hj => (hc j).mpr (Or.inl hj))
      have f1 : FS (FinB G mX0_init ad0 cs 111 1310 A0 Q) (cs1 ++ [118 + 11 * i]) := FS_fin (fun j hj => List.mem_append_left _ ((hc j).mpr (Or.inl hj)))
      refine b_new (k := 118 + 11 * i) (fs := [some none, some none]) tyX3 tyX3_ok (fun j hj => by rcases (show j = 0 ∨ j = 1 by omega) with rfl | rfl <;> rfl) (by simp) dX0_init_36 kc_3 cl_X0_18 is_X3 in_X3 f0 (nin _ (by omega)) ?_
      refine b_dup dX0_init_39 ?_
      refine b_call (k := 118 + 11 * i) [] [vR (118 + 11 * i), vI x, vR 54] dX0_init_40 okX3_init rfl rfl ivX3_init lm_X0_24 rfl rfl ⟨Nat.le_of_ble_eq_true rfl, Nat.le_of_ble_eq_true rfl, Nat.le_of_ble_eq_true rfl, Nat.le_of_ble_eq_true rfl⟩ f1 (cb_X3 l G uB_eq (fun j hj => ?_)) ?_
      · rcases List.mem_append.mp hj with a | a
        · by_cases c : j ≤ 118 + 11 * i ∨ 118 + 11 * i + 10 < j
          · exact c
          · exact absurd a (nin j (by omega))
        · have := List.mem_singleton.mp a; omega
      rintro cs2 E2 ⟨hc2, fr, pe⟩ _
      have e : ∀ j, j < 118 + 11 * i ∨ 118 + 11 * i + 10 < j → E2 j = E1 j := fun j a => by rw [fr j a, uB_ne (by omega)]
      refine b_aast (t := 2) (t0 := 0) (n := 10) dX0_init_43 ((e 54 (by omega)).trans h4) rfl pe.1 kc_3 rfl rfl (by omega) (by omega) ?_
      refine b_iinc (ls' := [(1, vI (x + 1)), (0, vR 53)]) 0 dX0_init_44 rfl (by decide) (by omega) rfl ?_
      refine b_goto (tgt := 25) dX0_init_47 (by decide) ?_
      refine ih (i + 1) (x + 1) cs2 _ (by omega) (by omega) (fun j => ?_) (fun j a b c => by rw [uB_ne b, e j (by omega)]; exact hf j a b c) (by rw [uB_ne (by decide), e 53 (by omega)]; exact h3) ?_ (fun w hw => ?_)
      · rw [hc2 j, List.mem_append, List.mem_singleton, hc j]
        by_cases c : j ∈ cs
        · simp [c]
        · simp only [c, false_or]; omega
      · rw [uB_eq, show x.toNat = i by omega, pl10_s i hi]
      · by_cases c : w = i
        · subst c
          exact ple_t pe (fun j a b => uB_ne (by omega))
        · exact ple_t (hp w (by omega)) (fun j a b => by rw [uB_ne (by omega), e j (by omega)])
  have f0 : FS (FinB G mX0_init ad0 cs 111 1310 A0 Q) cs := FS_fin (fun _ h => h)
  refine b_aload_n 0 dX0_init_0 rfl rfl ?_
  refine b_oinit dX0_init_1 lo_X0 ob_w ⟨by decide, by decide⟩ ?_
  refine b_aload_n 0 dX0_init_4 rfl rfl ?_
  refine b_iconst dX0_init_5 (by decide) ?_
  refine b_put0 (j := 0) (k := 53) dX0_init_6 hE (Nat.le_of_ble_eq_true rfl) kc_0 (by decide) lf_X0_9 (Or.inl rfl) rfl (fun _ => rfl) (fun _ => rfl) ?_
  refine b_aload_n 0 dX0_init_9 rfl rfl ?_
  refine b_iconst dX0_init_10 (by decide) ?_
  refine b_put0 (j := 1) (k := 53) dX0_init_11 uB_eq (Nat.le_of_ble_eq_true rfl) kc_0 (by decide) lf_X0_15 (Or.inl rfl) rfl (fun _ => rfl) (fun _ => rfl) ?_
  refine b_aload_n 0 dX0_init_14 rfl rfl ?_
  refine b_bipush dX0_init_15 (by decide) (by decide) ?_
  refine b_newq (k := 54) (n := 10) (t := 2) (rc := 110) (rs := 1300) rfl (by decide) rfl (fun s h => h.2.2.2.1) dX0_init_17 cl_X0_18 (by decide) f0 (hk 54 (Or.inl rfl)) ?_
  refine b_put0 (j := 2) (k := 53) dX0_init_20 ((uB_ne (by decide)).trans uB_eq) (Nat.le_of_ble_eq_true rfl) kc_0 (by decide) lf_X0_20 (Or.inr ⟨rfl, rfl, rfl⟩) rfl (fun _ => rfl) (fun _ => rfl) ?_
  refine b_iconst dX0_init_23 (by decide) ?_
  refine b_istore_n (ls' := [(1, vI 0), (0, vR 53)]) dX0_init_24 rfl (by decide) rfl ?_
  refine loop 10 0 0 _ _ (by omega) rfl (fun j => ?_) (fun j a b c => by rw [uB_ne a, uB_ne b, uB_ne a, uB_ne a]) (uB_eq.trans (Prod.ext ?_ rfl)) (by rw [uB_ne (by decide), uB_eq]; rfl) (fun w hw => absurd hw (Nat.not_lt_zero _))
  · rw [List.mem_append, List.mem_singleton]
    by_cases c : j ∈ cs
    · simp [c]
    · simp only [c, false_or]; omega
  · funext j
    show _ = (0 : Int)
    simp only [pBf, uB]
    all_goals ((repeat' split) <;> first | rfl | omega)
