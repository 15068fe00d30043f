/-! the constructors of the inserter, the mover -/
def mX1_init : MI := (yX1_init, cX1_init, 3, none, 2, 41)
theorem okX1_init : MOK mX1_init 2 := ⟨by decide +kernel, ⟨by decide +kernel, by decide +kernel⟩, by decide +kernel, tb_in 197 (by decide +kernel) (by decide +kernel), tb_in 55 (by decide +kernel) (by decide +kernel)⟩
theorem ivX1_init : Cond.instanceMethod mX1_init.1 ∈ tbG := tb_in 196 (by decide +kernel) (by decide +kernel)
theorem lo_X1 : Cond.methodLink mX1_init.1.cls 3 Lib.objectInit ∈ tbG := tb_in 198 (by decide +kernel) (by decide +kernel)
theorem cl_X1_28 : Cond.classLink mX1_init.1.cls 28 "SharedRides$Route" ∈ tbG := tb_in 199 (by decide +kernel) (by decide +kernel)
theorem lm_X1_30 : Cond.methodLink mX1_init.1.cls 30 mX5_init.1 ∈ tbG := tb_in 201 (by decide +kernel) (by decide +kernel)
theorem cb_X1 (l : Launch) (G : GB) {cs : List Nat} {E : Nat → BE} (hE : E 50 = ((fun _ => 0), .inr (.inr (1, [none, none, none, none, none, some none, some none, some none])))) (hk : ∀ j, j = 51 ∨ j = 55 → j ∉ cs) : CB l G mX1_init [vR 50, vR 1, vR 40] cs E 2 28 (fun (cs' : List Nat) (E' : Nat → BE) => (∀ j, j ∈ cs' ↔ j ∈ cs ∨ j = 51 ∨ j = 55) ∧ (∀ j, j ≠ 50 → j ≠ 51 → j ≠ 55 → E' j = E j) ∧ FIN E' 50 ∧ FIN E' 51 ∧ FIN E' 55) := by
  intro ad0 A0
  generalize hQ : (fun (cs' : List Nat) (E' : Nat → BE) => (∀ j, j ∈ cs' ↔ j ∈ cs ∨ j = 51 ∨ j = 55) ∧ (∀ j, j ≠ 50 → j ≠ 51 → j ≠ 55 → E' j = E j) ∧ FIN E' 50 ∧ FIN E' 51 ∧ FIN E' 55) = Q
  have s0 : ∀ j, j ∈ cs → j ∈ cs := fun _ h => h
  have m0 := hk
  refine b_aload_n 0 dX1_init_0 rfl rfl ?_
  refine b_oinit dX1_init_1 lo_X1 ob_w ⟨by decide, by decide⟩ ?_
  refine b_aload_n 0 dX1_init_4 rfl rfl ?_
  refine b_iconst dX1_init_5 (by decide) ?_
  refine b_put0 (j := 0) (k := 50) dX1_init_6 (hE) (Nat.le_of_ble_eq_true rfl) kc_1 (by decide) lf_X1_9 (Or.inl rfl) rfl (fun _ => (by decide : narrow .boolean (.int (Int32.ofInt 0)) = .int (Int32.ofInt 0))) (fun _ => (by decide : fits .boolean (.int (Int32.ofInt 0)) = true)) ?_
  refine b_aload_n 0 dX1_init_9 rfl rfl ?_
  refine b_iconst dX1_init_10 (by decide) ?_
  refine b_put0 (j := 1) (k := 50) dX1_init_11 (uB_eq) (Nat.le_of_ble_eq_true rfl) kc_1 (by decide) lf_X1_15 (Or.inl rfl) rfl (fun _ => rfl) (fun _ => rfl) ?_
  refine b_aload_n 0 dX1_init_14 rfl rfl ?_
  refine b_iconst dX1_init_15 (by decide) ?_
  refine b_put0 (j := 2) (k := 50) dX1_init_16 (uB_eq) (Nat.le_of_ble_eq_true rfl) kc_1 (by decide) lf_X1_19 (Or.inl rfl) rfl (fun _ => rfl) (fun _ => rfl) ?_
  refine b_aload_n 0 dX1_init_19 rfl rfl ?_
  refine b_iconst dX1_init_20 (by decide) ?_
  refine b_put0 (j := 3) (k := 50) dX1_init_21 (uB_eq) (Nat.le_of_ble_eq_true rfl) kc_1 (by decide) lf_X1_22 (Or.inl rfl) rfl (fun _ => rfl) (fun _ => rfl) ?_
  refine b_aload_n 0 dX1_init_24 rfl rfl ?_
  refine b_iconst dX1_init_25 (by decide) ?_
  refine b_put0 (j := 4) (k := 50) dX1_init_26 (uB_eq) (Nat.le_of_ble_eq_true rfl) kc_1 (by decide) lf_X1_25 (Or.inl rfl) rfl (fun _ => rfl) (fun _ => rfl) ?_
  refine b_aload_n 0 dX1_init_29 rfl rfl ?_
  refine b_new (k := 51) (rc := 1) (rs := 24) (fs := [none, none, none, some none]) tyX5 tyX5_ok (fun j hj => by rcases (show j = 0 ∨ j = 1 ∨ j = 2 ∨ j = 3 by omega) with rfl | rfl | rfl | rfl <;> rfl) (by simp) dX1_init_30 kc_5 cl_X1_28 is_X5 in_X5 (FS_fin s0) (m0 51 (by decide)) ?_
  have s0a := fun j (h : j ∈ cs) => List.mem_append_left [51] (s0 j h)
  refine b_dup dX1_init_33 ?_
  refine b_iconst dX1_init_34 (by decide) ?_
  refine b_call (k := 51) (rc := 0) (rs := 0) [vI 0] [vR 51, vR 50] dX1_init_35 okX5_init rfl rfl ivX5_init lm_X1_30 rfl rfl ⟨Nat.le_of_ble_eq_true rfl, Nat.le_of_ble_eq_true rfl, Nat.le_of_ble_eq_true rfl, Nat.le_of_ble_eq_true rfl⟩ (FS_fin s0a) (cb_X5 l G (v := 0) (by decide) uB_eq (fun j hj => by
    rcases List.mem_append.mp hj with a | a
    · exact fun z => m0 55 (by decide) (by rw [← show j = 55 from z]; exact a)
    · have := List.mem_singleton.mp a; omega)) ?_
  rintro _ E0 ⟨rfl, fr0, rt0⟩ _
  have s1 := fun j (h : j ∈ cs) => List.mem_append_left [51 + 4] (s0a j h)
  refine b_put0 (j := 7) (k := 50) dX1_init_38 ((fr0 _ (by decide) (by decide)).trans ((uB_ne (by decide)).trans (uB_eq))) (Nat.le_of_ble_eq_true rfl) kc_1 (by decide) lf_X1_33 (Or.inr ⟨rfl, rfl, rfl⟩) rfl (fun _ => rfl) (fun _ => rfl) ?_
  refine b_aload_n 0 dX1_init_41 rfl rfl ?_
  refine b_aload_n 1 dX1_init_42 rfl rfl ?_
  refine b_put0 (j := 5) (k := 50) dX1_init_43 (uB_eq) (Nat.le_of_ble_eq_true rfl) kc_1 (by decide) lf_X1_37 (Or.inr ⟨rfl, rfl, rfl⟩) rfl (fun _ => rfl) (fun _ => rfl) ?_
  refine b_aload_n 0 dX1_init_46 rfl rfl ?_
  refine b_aload_n 2 dX1_init_47 rfl rfl ?_
  refine b_put0 (j := 6) (k := 50) dX1_init_48 (uB_eq) (Nat.le_of_ble_eq_true rfl) kc_1 (by decide) lf_X1_41 (Or.inr ⟨rfl, rfl, rfl⟩) rfl (fun _ => rfl) (fun _ => rfl) ?_
  refine b_ret dX1_init_51 ?_ s1
  rw [← hQ]
  refine ⟨fun j => ?_, fun j h1 h2 h3 => ?_, ?_, ?_, ?_⟩
  · rw [List.mem_append, List.mem_append, List.mem_singleton, List.mem_singleton]
    constructor
    · rintro ((a | a) | a)
      · exact Or.inl a
      · exact Or.inr (Or.inl a)
      · exact Or.inr (Or.inr a)
    · rintro (a | a | a)
      · exact Or.inl (Or.inl a)
      · exact Or.inl (Or.inr a)
      · exact Or.inr a
  · rw [uB_ne (by omega), uB_ne (by omega), uB_ne (by omega), fr0 _ (by omega) (by omega), uB_ne (by omega), uB_ne (by omega), uB_ne (by omega), uB_ne (by omega), uB_ne (by omega), uB_ne (by omega)]
  · refine (uB_eq).trans (Prod.ext ?_ ?_)
    · funext j
      show _ = (if j = 2 then (-1 : Int) else 0)
      simp only [pBf, uB]
      all_goals ((repeat' split) <;> first | rfl | omega)
    · show (.inr (.inr (1, [none, none, none, none, none, some (some 1), some (some 40), some (some 51)])) : BS) = _
      decide +kernel
  · exact ((uB_ne (by decide)).trans ((uB_ne (by decide)).trans ((uB_ne (by decide)).trans (rt0.1)))).trans (Prod.ext rfl (show (.inr (.inr (5, [none, none, none, some (some 55)])) : BS) = _ by decide +kernel))
  · exact ((uB_ne (by decide)).trans ((uB_ne (by decide)).trans ((uB_ne (by decide)).trans (rt0.2)))).trans (Prod.ext rfl (show (.inl 24 : BS) = _ by decide +kernel))
theorem is_X3 : Cond.instantiable "SharedRides$Plan" 2 ∈ tbG := tb_in 266 (by decide +kernel) (by decide +kernel)
theorem in_X3 : Cond.initialized "SharedRides$Plan" ∈ tbG := tb_in 58 (by decide +kernel) (by decide +kernel)
