def mX1_init : MI := (yX1_init, cX1_init, 3, none, 2, 41)
theorem okX1_init : MOK mX1_init 2 := ⟨by decide +kernel, ⟨by decide +kernel, by decide +kernel⟩, by decide +kernel, tb_in 165 (by decide +kernel) (by decide +kernel), tb_in 24 (by decide +kernel) (by decide +kernel)⟩
theorem ivX1_init : Cond.instanceMethod mX1_init.1 ∈ tbG := tb_in 164 (by decide +kernel) (by decide +kernel)
theorem lo_X1 : Cond.methodLink mX1_init.1.cls 3 Lib.objectInit ∈ tbG := tb_in 166 (by decide +kernel) (by decide +kernel)
theorem cl_X1_28 : Cond.classLink mX1_init.1.cls 28 "SharedRides$Route" ∈ tbG := tb_in 167 (by decide +kernel) (by decide +kernel)
theorem lm_X1_30 : Cond.methodLink mX1_init.1.cls 30 mX5_init.1 ∈ tbG := tb_in 169 (by decide +kernel) (by decide +kernel)
theorem cb_X1 (l : Launch) (G : GB) {cs : List Nat} {E : Nat → BE} (hE : E 50 = ((fun _ => 0), .inr (.inr (1, [none, none, none, none, none, some none, some none, some none])))) (hk : ∀ j, j = 51 ∨ j = 55 → j ∉ cs) : CB l G mX1_init [vR 50, vR 1, vR 40] cs E 2 28 (fun (cs' : List Nat) (E' : Nat → BE) => (∀ j, j ∈ cs' ↔ j ∈ cs ∨ j = 51 ∨ j = 55) ∧ (∀ j, j ≠ 50 → j ≠ 51 → j ≠ 55 → E' j = E j) ∧ FIN E' 50 ∧ FIN E' 51 ∧ FIN E' 55) := by
  intro ad0 A0
  generalize hQ : (fun (cs' : List Nat) (E' : Nat → BE) => (∀ j, j ∈ cs' ↔ j ∈ cs ∨ j = 51 ∨ j = 55) ∧ (∀ j, j ≠ 50 → j ≠ 51 → j ≠ 55 → E' j = E j) ∧ FIN E' 50 ∧ FIN E' 51 ∧ FIN E' 55) = Q
  have s0 : ∀ j, j ∈ cs → j ∈ cs := fun _ h => h
  have m0 := hk
  refine b_aload_n 0 dX1_init_0 rfl rfl ?_
  refine b_oinit dX1_init_1 lo_X1 ob_w ⟨by decide, by decide⟩ ?_
  refine b_aload_n 0 dX1_init_4 rfl rfl ?_
  refine b_iconst dX1_init_5 (by decide) ?_
  refine b_put0 (j := 0) (k := 50) dX1_init_6 (hE) (Nat.le_of_ble_eq_true rfl) kc_1 (by decide) lf_X1_9 (Or.inl rfl) rfl (fun _ => (by decide : narrow .boolean (.int (Int32.ofInt 0)) = .int (Int32.ofInt 0))) (fun _ => (by decide : fits .boolean (.int (Int32.ofInt 0)) = true)) ?_
  refine b_aload_n 0 dX1_init_9 rfl rfl ?_
  refine b_iconst dX1_init_10 (by decide) ?_
  refine b_put0 (j := 1) (k := 50) dX1_init_11 (uB_eq) (Nat.le_of_ble_eq_true rfl) kc_1 (by decide) lf_X1_15 (Or.inl rfl) rfl (fun _ => rfl) (fun _ => rfl) ?_
  refine b_aload_n 0 dX1_init_14 rfl rfl ?_
  refine b_iconst dX1_init_15 (by decide) ?_
  refine b_put0 (j := 2) (k := 50) dX1_init_16 (uB_eq) (Nat.le_of_ble_eq_true rfl) kc_1 (by decide) lf_X1_19 (Or.inl rfl) rfl (fun _ => rfl) (fun _ => rfl) ?_
  refine b_aload_n 0 dX1_init_19 rfl rfl ?_
  refine b_iconst dX1_init_20 (by decide) ?_
  refine b_put0 (j := 3) (k := 50) dX1_init_21 (uB_eq) (Nat.le_of_ble_eq_true rfl) kc_1 (by decide) lf_X1_22 (Or.inl rfl) rfl (fun _ => rfl) (fun _ => rfl) ?_
  refine b_aload_n 0 dX1_init_24 rfl rfl ?_
  refine b_iconst dX1_init_25 (by decide) ?_
  refine b_put0 (j := 4) (k := 50) dX1_init_26 (uB_eq) (Nat.le_of_ble_eq_true rfl) kc_1 (by decide) lf_X1_25 (Or.inl rfl) rfl (fun _ => rfl) (fun _ => rfl) ?_
  refine b_aload_n 0 dX1_init_29 rfl rfl ?_
  refine b_new (k := 51) (rc := 1) (rs := 24) (fs := [none, none, none, some none]) tyX5 tyX5_ok (fun j hj => by rcases (show j = 0 ∨ j = 1 ∨ j = 2 ∨ j = 3 by omega) with rfl | rfl | rfl | rfl <;> rfl) (by simp) dX1_init_30 kc_5 cl_X1_28 is_X5 in_X5 (FS_fin s0) (m0 51 (by decide)) ?_
  have s0a := fun j (h : j ∈ cs) => List.mem_append_left [51] (s0 j h)
  refine b_dup dX1_init_33 ?_
  refine b_iconst dX1_init_34 (by decide) ?_
  refine b_call (k := 51) (rc := 0) (rs := 0) [vI 0] [vR 51, vR 50] dX1_init_35 okX5_init rfl rfl ivX5_init lm_X1_30 rfl rfl ⟨Nat.le_of_ble_eq_true rfl, Nat.le_of_ble_eq_true rfl, Nat.le_of_ble_eq_true rfl, Nat.le_of_ble_eq_true rfl⟩ (FS_fin s0a) (cb_X5 l G (v := 0) (by decide) uB_eq (fun j hj => by
    rcases List.mem_append.mp hj with a | a
    · exact fun z => m0 55 (by decide) (by rw [← show j = 55 from z]; exact a)
    · have := List.mem_singleton.mp a; omega)) ?_
  rintro _ E0 ⟨rfl, fr0, rt0⟩ _
  have s1 := fun j (h : j ∈ cs) => List.mem_append_left [51 + 4] (s0a j h)
  refine b_put0 (j := 7) (k := 50) dX1_init_38 ((fr0 _ (by decide) (by decide)).trans ((uB_ne (by decide)).trans (uB_eq))) (Nat.le_of_ble_eq_true rfl) kc_1 (by decide) lf_X1_33 (Or.inr ⟨rfl, rfl, rfl⟩) rfl (fun _ => rfl) (fun _ => rfl) ?_
  refine b_aload_n 0 dX1_init_41 rfl rfl ?_
  refine b_aload_n 1 dX1_init_42 rfl rfl ?_
  refine b_put0 (j := 5) (k := 50) dX1_init_43 (uB_eq) (Nat.le_of_ble_eq_true rfl) kc_1 (by decide) lf_X1_37 (Or.inr ⟨rfl, rfl, rfl⟩) rfl (fun _ => rfl) (fun _ => rfl) ?_
  refine b_aload_n 0 dX1_init_46 rfl rfl ?_
  refine b_aload_n 2 dX1_init_47 rfl rfl ?_
  refine b_put0 (j := 6) (k := 50) dX1_init_48 (uB_eq) (Nat.le_of_ble_eq_true rfl) kc_1 (by decide) lf_X1_41 (Or.inr ⟨rfl, rfl, rfl⟩) rfl (fun _ => rfl) (fun _ => rfl) ?_
  refine b_ret dX1_init_51 ?_ s1
  rw [← hQ]
  refine ⟨fun j => ?_, fun j h1 h2 h3 => ?_, ?_, ?_, ?_⟩
  · rw [List.mem_append, List.mem_append, List.mem_singleton, List.mem_singleton]
    constructor
    · rintro ((a | a) | a)
      · exact Or.inl a
      · exact Or.inr (Or.inl a)
      · exact Or.inr (Or.inr a)
    · rintro (a | a | a)
      · exact Or.inl (Or.inl a)
      · exact Or.inl (Or.inr a)
      · exact Or.inr a
  · rw [uB_ne (by omega), uB_ne (by omega), uB_ne (by omega), fr0 _ (by omega) (by omega), uB_ne (by omega), uB_ne (by omega), uB_ne (by omega), uB_ne (by omega), uB_ne (by omega), uB_ne (by omega)]
  · refine (uB_eq).trans (Prod.ext ?_ ?_)
    · funext j
      show _ = (if j = 2 then (-1 : Int) else 0)
      simp only [pBf, uB]
      all_goals ((repeat' split) <;> first | rfl | omega)
    · show (.inr (.inr (1, [none, none, none, none, none, some (some 1), some (some 40), some (some 51)])) : BS) = _
      decide +kernel
  · exact ((uB_ne (by decide)).trans ((uB_ne (by decide)).trans ((uB_ne (by decide)).trans (rt0.1)))).trans (Prod.ext rfl (show (.inr (.inr (5, [none, none, none, some (some 55)])) : BS) = _ by decide +kernel))
  · exact ((uB_ne (by decide)).trans ((uB_ne (by decide)).trans ((uB_ne (by decide)).trans (rt0.2)))).trans (Prod.ext rfl (show (.inl 24 : BS) = _ by decide +kernel))
theorem is_X3 : Cond.instantiable "SharedRides$Plan" 2 ∈ tbG := tb_in 234 (by decide +kernel) (by decide +kernel)
theorem in_X3 : Cond.initialized "SharedRides$Plan" ∈ tbG := tb_in 27 (by decide +kernel) (by decide +kernel)
theorem ple_t {E E' : Nat → BE} {q : Nat} (h : PLE E q) (k : ∀ j, q ≤ j → j ≤ q + 10 → E' j = E j) : PLE E' q :=
  ⟨(k q (by omega) (by omega)).trans h.1, (k (q + 1) (by omega) (by omega)).trans h.2.1, (k (q + 2) (by omega) (by omega)).trans h.2.2.1, fun v hv => ⟨(k (q + 3 + v) (by omega) (by omega)).trans (h.2.2.2 v hv).1, (k (q + 3 + v + 4) (by omega) (by omega)).trans (h.2.2.2 v hv).2⟩⟩
def mX2_init : MI := (yX2_init, cX2_init, 3, none, 3, 62)
theorem okX2_init : MOK mX2_init 2 := ⟨by decide +kernel, ⟨by decide +kernel, by decide +kernel⟩, by decide +kernel, tb_in 231 (by decide +kernel) (by decide +kernel), tb_in 26 (by decide +kernel) (by decide +kernel)⟩
theorem ivX2_init : Cond.instanceMethod mX2_init.1 ∈ tbG := tb_in 230 (by decide +kernel) (by decide +kernel)
theorem lo_X2 : Cond.methodLink mX2_init.1.cls 3 Lib.objectInit ∈ tbG := tb_in 232 (by decide +kernel) (by decide +kernel)
theorem cl_X2_25 : Cond.classLink mX2_init.1.cls 25 "SharedRides$Plan" ∈ tbG := tb_in 233 (by decide +kernel) (by decide +kernel)
theorem lm_X2_27 : Cond.methodLink mX2_init.1.cls 27 mX3_init.1 ∈ tbG := tb_in 235 (by decide +kernel) (by decide +kernel)
theorem cb_X2 (l : Launch) (G : GB) {cs : List Nat} {E : Nat → BE} (hE : E 52 = ((fun _ => 0), .inr (.inr (2, [none, none, none, none, some none, some none, some none, some none, some none, none])))) (hk : ∀ j, 85 ≤ j ∧ j ≤ 117 → j ∉ cs) : CB l G mX2_init [vR 52, vR 1, vR 50] cs E 33 390 (fun (cs' : List Nat) (E' : Nat → BE) => (∀ j, j ∈ cs' ↔ j ∈ cs ∨ (85 ≤ j ∧ j ≤ 117)) ∧ (∀ j, j ≠ 52 → (j < 85 ∨ 117 < j) → E' j = E j) ∧ FIN E' 52 ∧ PLE E' 85 ∧ PLE E' 96 ∧ PLE E' 107) := by
  intro ad0 A0
  generalize hQ : (fun (cs' : List Nat) (E' : Nat → BE) => (∀ j, j ∈ cs' ↔ j ∈ cs ∨ (85 ≤ j ∧ j ≤ 117)) ∧ (∀ j, j ≠ 52 → (j < 85 ∨ 117 < j) → E' j = E j) ∧ FIN E' 52 ∧ PLE E' 85 ∧ PLE E' 96 ∧ PLE E' 107) = Q
  have s0 : ∀ j, j ∈ cs → j ∈ cs := fun _ h => h
  have m0 := hk
  refine b_aload_n 0 dX2_init_0 rfl rfl ?_
  refine b_oinit dX2_init_1 lo_X2 ob_w ⟨by decide, by decide⟩ ?_
  refine b_aload_n 0 dX2_init_4 rfl rfl ?_
  refine b_iconst dX2_init_5 (by decide) ?_
  refine b_put0 (j := 0) (k := 52) dX2_init_6 (hE) (Nat.le_of_ble_eq_true rfl) kc_2 (by decide) lf_X2_9 (Or.inl rfl) rfl (fun _ => (by decide : narrow .boolean (.int (Int32.ofInt 0)) = .int (Int32.ofInt 0))) (fun _ => (by decide : fits .boolean (.int (Int32.ofInt 0)) = true)) ?_
  refine b_aload_n 0 dX2_init_9 rfl rfl ?_
  refine b_iconst dX2_init_10 (by decide) ?_
  refine b_put0 (j := 1) (k := 52) dX2_init_11 (uB_eq) (Nat.le_of_ble_eq_true rfl) kc_2 (by decide) lf_X2_15 (Or.inl rfl) rfl (fun _ => rfl) (fun _ => rfl) ?_
  refine b_aload_n 0 dX2_init_14 rfl rfl ?_
  refine b_iconst dX2_init_15 (by decide) ?_
  refine b_put0 (j := 2) (k := 52) dX2_init_16 (uB_eq) (Nat.le_of_ble_eq_true rfl) kc_2 (by decide) lf_X2_19 (Or.inl rfl) rfl (fun _ => rfl) (fun _ => rfl) ?_
  refine b_aload_n 0 dX2_init_19 rfl rfl ?_
  refine b_iconst dX2_init_20 (by decide) ?_
  refine b_put0 (j := 3) (k := 52) dX2_init_21 (uB_eq) (Nat.le_of_ble_eq_true rfl) kc_2 (by decide) lf_X2_22 (Or.inl rfl) rfl (fun _ => rfl) (fun _ => rfl) ?_
  refine b_aload_n 0 dX2_init_24 rfl rfl ?_
  refine b_new (k := 85) (rc := 32) (rs := 388) (fs := [some none, some none]) tyX3 tyX3_ok (fun j hj => by rcases (show j = 0 ∨ j = 1 by omega) with rfl | rfl <;> rfl) (by simp) dX2_init_25 kc_3 cl_X2_25 is_X3 in_X3 (FS_fin s0) (m0 85 (by decide)) ?_
  have s0a := fun j (h : j ∈ cs) => List.mem_append_left [85] (s0 j h)
  refine b_dup dX2_init_28 ?_
  refine b_call (k := 85) (rc := 22) (rs := 260) [] [vR 85, vR 52] dX2_init_29 okX3_init rfl rfl ivX3_init lm_X2_27 rfl rfl ⟨Nat.le_of_ble_eq_true rfl, Nat.le_of_ble_eq_true rfl, Nat.le_of_ble_eq_true rfl, Nat.le_of_ble_eq_true rfl⟩ (FS_fin s0a) (cb_X3 l G uB_eq (fun j hj => by
    rcases List.mem_append.mp hj with a | a
    · by_cases c : j ≤ 85 ∨ 85 + 10 < j
      · exact c
      · exact absurd a (m0 j (by omega))
    · have := List.mem_singleton.mp a; omega)) ?_
  rintro cs0 E0 ⟨i0, fr0, rt0⟩ _
  have s1 := fun j (h : j ∈ cs) => (i0 j).mpr (Or.inl (s0a j h))
  have m1 : ∀ j, 96 ≤ j ∧ j ≤ 117 → j ∉ cs0 := fun j hj h => by
    rcases (i0 j).mp h with a | a
    · rcases List.mem_append.mp a with a | a
      · exact m0 j (by omega) a
      · have := List.mem_singleton.mp a; omega
    · omega
  refine b_put0 (j := 4) (k := 52) dX2_init_32 ((fr0 _ (by decide)).trans ((uB_ne (by decide)).trans (uB_eq))) (Nat.le_of_ble_eq_true rfl) kc_2 (by decide) lf_X2_28 (Or.inr ⟨rfl, rfl, rfl⟩) rfl (fun _ => rfl) (fun _ => rfl) ?_
  refine b_aload_n 0 dX2_init_35 rfl rfl ?_
  refine b_new (k := 96) (rc := 21) (rs := 258) (fs := [some none, some none]) tyX3 tyX3_ok (fun j hj => by rcases (show j = 0 ∨ j = 1 by omega) with rfl | rfl <;> rfl) (by simp) dX2_init_36 kc_3 cl_X2_25 is_X3 in_X3 (FS_fin s1) (m1 96 (by decide)) ?_
  have s1a := fun j (h : j ∈ cs) => List.mem_append_left [96] (s1 j h)
  refine b_dup dX2_init_39 ?_
  refine b_call (k := 96) (rc := 11) (rs := 130) [] [vR 96, vR 52] dX2_init_40 okX3_init rfl rfl ivX3_init lm_X2_27 rfl rfl ⟨Nat.le_of_ble_eq_true rfl, Nat.le_of_ble_eq_true rfl, Nat.le_of_ble_eq_true rfl, Nat.le_of_ble_eq_true rfl⟩ (FS_fin s1a) (cb_X3 l G uB_eq (fun j hj => by
    rcases List.mem_append.mp hj with a | a
    · by_cases c : j ≤ 96 ∨ 96 + 10 < j
      · exact c
      · exact absurd a (m1 j (by omega))
    · have := List.mem_singleton.mp a; omega)) ?_
  rintro cs1 E1 ⟨i1, fr1, rt1⟩ _
  have s2 := fun j (h : j ∈ cs) => (i1 j).mpr (Or.inl (s1a j h))
  have m2 : ∀ j, 107 ≤ j ∧ j ≤ 117 → j ∉ cs1 := fun j hj h => by
    rcases (i1 j).mp h with a | a
    · rcases List.mem_append.mp a with a | a
      · exact m1 j (by omega) a
      · have := List.mem_singleton.mp a; omega
    · omega
  refine b_put0 (j := 7) (k := 52) dX2_init_43 ((fr1 _ (by decide)).trans ((uB_ne (by decide)).trans (uB_eq))) (Nat.le_of_ble_eq_true rfl) kc_2 (by decide) lf_X2_32 (Or.inr ⟨rfl, rfl, rfl⟩) rfl (fun _ => rfl) (fun _ => rfl) ?_
  refine b_aload_n 0 dX2_init_46 rfl rfl ?_
  refine b_new (k := 107) (rc := 10) (rs := 128) (fs := [some none, some none]) tyX3 tyX3_ok (fun j hj => by rcases (show j = 0 ∨ j = 1 by omega) with rfl | rfl <;> rfl) (by simp) dX2_init_47 kc_3 cl_X2_25 is_X3 in_X3 (FS_fin s2) (m2 107 (by decide)) ?_
  have s2a := fun j (h : j ∈ cs) => List.mem_append_left [107] (s2 j h)
  refine b_dup dX2_init_50 ?_
  refine b_call (k := 107) (rc := 0) (rs := 0) [] [vR 107, vR 52] dX2_init_51 okX3_init rfl rfl ivX3_init lm_X2_27 rfl rfl ⟨Nat.le_of_ble_eq_true rfl, Nat.le_of_ble_eq_true rfl, Nat.le_of_ble_eq_true rfl, Nat.le_of_ble_eq_true rfl⟩ (FS_fin s2a) (cb_X3 l G uB_eq (fun j hj => by
    rcases List.mem_append.mp hj with a | a
    · by_cases c : j ≤ 107 ∨ 107 + 10 < j
      · exact c
      · exact absurd a (m2 j (by omega))
    · have := List.mem_singleton.mp a; omega)) ?_
  rintro cs2 E2 ⟨i2, fr2, rt2⟩ _
  have s3 := fun j (h : j ∈ cs) => (i2 j).mpr (Or.inl (s2a j h))

  refine b_put0 (j := 8) (k := 52) dX2_init_54 ((fr2 _ (by decide)).trans ((uB_ne (by decide)).trans (uB_eq))) (Nat.le_of_ble_eq_true rfl) kc_2 (by decide) lf_X2_35 (Or.inr ⟨rfl, rfl, rfl⟩) rfl (fun _ => rfl) (fun _ => rfl) ?_
  refine b_aload_n 0 dX2_init_57 rfl rfl ?_
  refine b_iconst dX2_init_58 (by decide) ?_
  refine b_put0 (j := 9) (k := 52) dX2_init_59 (uB_eq) (Nat.le_of_ble_eq_true rfl) kc_2 (by decide) lf_X2_38 (Or.inl rfl) rfl (fun _ => rfl) (fun _ => rfl) ?_
  refine b_aload_n 0 dX2_init_62 rfl rfl ?_
  refine b_aload_n 1 dX2_init_63 rfl rfl ?_
  refine b_put0 (j := 5) (k := 52) dX2_init_64 (uB_eq) (Nat.le_of_ble_eq_true rfl) kc_2 (by decide) lf_X2_41 (Or.inr ⟨rfl, rfl, rfl⟩) rfl (fun _ => rfl) (fun _ => rfl) ?_
  refine b_aload_n 0 dX2_init_67 rfl rfl ?_
  refine b_aload_n 2 dX2_init_68 rfl rfl ?_
  refine b_put0 (j := 6) (k := 52) dX2_init_69 (uB_eq) (Nat.le_of_ble_eq_true rfl) kc_2 (by decide) lf_X2_45 (Or.inr ⟨rfl, rfl, rfl⟩) rfl (fun _ => rfl) (fun _ => rfl) ?_
  refine b_ret dX2_init_72 ?_ s3
  rw [← hQ]
  refine ⟨fun j => ?_, fun j h1 h2 => ?_, ?_, ?_, ?_, ?_⟩
  · rw [i2 j, List.mem_append, List.mem_singleton, i1 j, List.mem_append, List.mem_singleton, i0 j, List.mem_append, List.mem_singleton]
    by_cases c : j ∈ cs
    · simp [c]
    · simp only [c, false_or]; omega
  · rw [uB_ne (by omega), uB_ne (by omega), uB_ne (by omega), uB_ne (by omega), fr2 _ (by omega), uB_ne (by omega), uB_ne (by omega), fr1 _ (by omega), uB_ne (by omega), uB_ne (by omega), fr0 _ (by omega), uB_ne (by omega), uB_ne (by omega), uB_ne (by omega), uB_ne (by omega), uB_ne (by omega)]
  · refine (uB_eq).trans (Prod.ext ?_ ?_)
    · funext j
      show _ = (0 : Int)
      simp only [pBf, uB]
      all_goals ((repeat' split) <;> first | rfl | omega)
    · show (.inr (.inr (2, [none, none, none, none, some (some 85), some (some 1), some (some 50), some (some 96), some (some 107), none])) : BS) = _
      decide +kernel
  · exact ple_t rt0 (fun j a b => by rw [uB_ne (by omega), uB_ne (by omega), uB_ne (by omega), uB_ne (by omega), fr2 _ (by omega), uB_ne (by omega), uB_ne (by omega), fr1 _ (by omega), uB_ne (by omega), uB_ne (by omega)])
  · exact ple_t rt1 (fun j a b => by rw [uB_ne (by omega), uB_ne (by omega), uB_ne (by omega), uB_ne (by omega), fr2 _ (by omega), uB_ne (by omega), uB_ne (by omega)])
  · exact ple_t rt2 (fun j a b => by rw [uB_ne (by omega), uB_ne (by omega), uB_ne (by omega), uB_ne (by omega)])
