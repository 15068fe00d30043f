def mX7_init : MI := (yX7_init, cX7_init, 4, none, 4, 84)
theorem okX7_init : MOK mX7_init 0 := ⟨by decide +kernel, ⟨by decide +kernel, by decide +kernel⟩, by decide +kernel, tb_in 35 (by decide +kernel) (by decide +kernel), tb_in 21 (by decide +kernel) (by decide +kernel)⟩
theorem ivX7_init : Cond.instanceMethod mX7_init.1 ∈ tbG := tb_in 34 (by decide +kernel) (by decide +kernel)
theorem lo_X7 : Cond.methodLink mX7_init.1.cls 3 Lib.objectInit ∈ tbG := tb_in 36 (by decide +kernel) (by decide +kernel)
theorem cl_X7_9 : Cond.classLink mX7_init.1.cls 9 "SharedRides$Problem" ∈ tbG := tb_in 39 (by decide +kernel) (by decide +kernel)
theorem cl_X7_12 : Cond.classLink mX7_init.1.cls 12 "SharedRides$Timetable" ∈ tbG := tb_in 110 (by decide +kernel) (by decide +kernel)
theorem cl_X7_17 : Cond.classLink mX7_init.1.cls 17 "SharedRides$Inserter" ∈ tbG := tb_in 161 (by decide +kernel) (by decide +kernel)
theorem cl_X7_34 : Cond.classLink mX7_init.1.cls 34 "SharedRides$Mover" ∈ tbG := tb_in 227 (by decide +kernel) (by decide +kernel)
theorem cl_X7_43 : Cond.classLink mX7_init.1.cls 43 "SharedRides$Plan" ∈ tbG := tb_in 291 (by decide +kernel) (by decide +kernel)
theorem cl_X7_50 : Cond.classLink mX7_init.1.cls 50 "SharedRides$History" ∈ tbG := tb_in 293 (by decide +kernel) (by decide +kernel)
theorem is_X4 : Cond.instantiable "SharedRides$Problem" 13 ∈ tbG := tb_in 40 (by decide +kernel) (by decide +kernel)
theorem in_X4 : Cond.initialized "SharedRides$Problem" ∈ tbG := tb_in 22 (by decide +kernel) (by decide +kernel)
theorem is_X6 : Cond.instantiable "SharedRides$Timetable" 13 ∈ tbG := tb_in 111 (by decide +kernel) (by decide +kernel)
theorem in_X6 : Cond.initialized "SharedRides$Timetable" ∈ tbG := tb_in 23 (by decide +kernel) (by decide +kernel)
theorem is_X1 : Cond.instantiable "SharedRides$Inserter" 8 ∈ tbG := tb_in 162 (by decide +kernel) (by decide +kernel)
theorem in_X1 : Cond.initialized "SharedRides$Inserter" ∈ tbG := tb_in 24 (by decide +kernel) (by decide +kernel)
theorem is_X2 : Cond.instantiable "SharedRides$Mover" 10 ∈ tbG := tb_in 228 (by decide +kernel) (by decide +kernel)
theorem in_X2 : Cond.initialized "SharedRides$Mover" ∈ tbG := tb_in 26 (by decide +kernel) (by decide +kernel)
theorem is_X0 : Cond.instantiable "SharedRides$History" 3 ∈ tbG := tb_in 294 (by decide +kernel) (by decide +kernel)
theorem in_X0 : Cond.initialized "SharedRides$History" ∈ tbG := tb_in 28 (by decide +kernel) (by decide +kernel)
theorem lm_X7i_14 : Cond.methodLink mX7_init.1.cls 14 mX6_init.1 ∈ tbG := tb_in 112 (by decide +kernel) (by decide +kernel)
theorem lm_X7i_19 : Cond.methodLink mX7_init.1.cls 19 mX1_init.1 ∈ tbG := tb_in 163 (by decide +kernel) (by decide +kernel)
theorem lm_X7i_36 : Cond.methodLink mX7_init.1.cls 36 mX2_init.1 ∈ tbG := tb_in 229 (by decide +kernel) (by decide +kernel)
theorem lm_X7i_45 : Cond.methodLink mX7_init.1.cls 45 mX3_init.1 ∈ tbG := tb_in 292 (by decide +kernel) (by decide +kernel)
theorem lm_X7i_52 : Cond.methodLink mX7_init.1.cls 52 mX0_init.1 ∈ tbG := tb_in 295 (by decide +kernel) (by decide +kernel)
theorem cb_X7 (l : Launch) (G : GB) {E : Nat → BE} (hE : E 0 = ((fun _ => 0), .inr (.inr (7, [some none, some none, some none, some none, some none, some none])))) : CB l G mX7_init [vR 0] [0] E 209 3086 (fun (cs' : List Nat) (E' : Nat → BE) => (∀ j, j ∈ cs' ↔ j ≤ 55 ∨ (74 ≤ j ∧ j ≤ 227)) ∧ (∀ j, j ≤ 55 → FIN E' j) ∧ PLE E' 74 ∧ PLE E' 85 ∧ PLE E' 96 ∧ PLE E' 107 ∧ ∀ w, w < 10 → PLE E' (118 + 11 * w)) := by
  intro ad0 A0
  generalize hQ : (fun (cs' : List Nat) (E' : Nat → BE) => (∀ j, j ∈ cs' ↔ j ≤ 55 ∨ (74 ≤ j ∧ j ≤ 227)) ∧ (∀ j, j ≤ 55 → FIN E' j) ∧ PLE E' 74 ∧ PLE E' 85 ∧ PLE E' 96 ∧ PLE E' 107 ∧ ∀ w, w < 10 → PLE E' (118 + 11 * w)) = Q
  have c0 : ∀ j, j ∈ [0] ↔ j = 0 := fun j => List.mem_singleton
  refine b_aload_n 0 dX7_init_0 rfl rfl ?_
  refine b_oinit dX7_init_1 lo_X7 ob_w ⟨by decide, by decide⟩ ?_
  refine b_new (k := 1) (rc := 208) (rs := 3073) (fs := [none, none, none, some none, some none, some none, some none, some none, some none, some none, some none, some none, some none]) tyX4 tyX4_ok (fun j hj => by rcases (show j = 0 ∨ j = 1 ∨ j = 2 ∨ j = 3 ∨ j = 4 ∨ j = 5 ∨ j = 6 ∨ j = 7 ∨ j = 8 ∨ j = 9 ∨ j = 10 ∨ j = 11 ∨ j = 12 by omega) with rfl | rfl | rfl | rfl | rfl | rfl | rfl | rfl | rfl | rfl | rfl | rfl | rfl <;> rfl) (by simp) dX7_init_4 kc_4 cl_X7_9 is_X4 in_X4 (FS_fin (fun j hj => (c0 j).mpr (by have := List.mem_singleton.mp hj; omega))) (fun h => by have := (c0 _).mp h; omega) ?_
  have c1 : ∀ j, j ∈ _ ++ [1] ↔ j ≤ 1 := fun j => by rw [List.mem_append, c0 j, List.mem_singleton]; omega
  refine b_dup dX7_init_7 ?_
  refine b_callN (k := 1) (rc := 170) (rs := 2109) [] [vR 1] dX7_init_8 okX4_init rfl rfl ivX4_init rfl rfl rfl ⟨Nat.le_of_ble_eq_true rfl, Nat.le_of_ble_eq_true rfl, Nat.le_of_ble_eq_true rfl, Nat.le_of_ble_eq_true rfl⟩ (FS_fin (fun j hj => (c1 j).mpr (by have := List.mem_singleton.mp hj; omega))) (cb_X4 l G uB_eq (fun j hj => by have := (c1 j).mp hj; omega)) ?_
  rintro cs1 E1 ⟨i1, fr1, fin1⟩ _
  have c2 : ∀ j, j ∈ cs1 ↔ j ≤ 39 := fun j => by rw [i1 j, c1 j]; omega
  refine b_astore_n (ls' := [(1, vR 1), (0, vR 0)]) dX7_init_11 rfl (by decide) rfl ?_
  refine b_new (k := 40) (rc := 169) (rs := 2096) (fs := [some none, some none, some none, some none, none, some none, some none, some none, some none, some none, some none, none, none]) tyX6 tyX6_ok (fun j hj => by rcases (show j = 0 ∨ j = 1 ∨ j = 2 ∨ j = 3 ∨ j = 4 ∨ j = 5 ∨ j = 6 ∨ j = 7 ∨ j = 8 ∨ j = 9 ∨ j = 10 ∨ j = 11 ∨ j = 12 by omega) with rfl | rfl | rfl | rfl | rfl | rfl | rfl | rfl | rfl | rfl | rfl | rfl | rfl <;> rfl) (by simp) dX7_init_12 kc_6 cl_X7_12 is_X6 in_X6 (FS_fin (fun j hj => (c2 j).mpr (by have := List.mem_singleton.mp hj; omega))) (fun h => by have := (c2 _).mp h; omega) ?_
  have c3 : ∀ j, j ∈ _ ++ [40] ↔ j ≤ 40 := fun j => by rw [List.mem_append, c2 j, List.mem_singleton]; omega
  refine b_dup dX7_init_15 ?_
  refine b_aload_n 0 dX7_init_16 rfl rfl ?_
  refine b_call (k := 40) (rc := 160) (rs := 1879) [vR 1] [vR 40] dX7_init_17 okX6_init rfl rfl ivX6_init lm_X7i_14 rfl rfl ⟨Nat.le_of_ble_eq_true rfl, Nat.le_of_ble_eq_true rfl, Nat.le_of_ble_eq_true rfl, Nat.le_of_ble_eq_true rfl⟩ (FS_fin (fun j hj => (c3 j).mpr (by have := List.mem_singleton.mp hj; omega))) (cb_X6 l G uB_eq (fun j hj => by have := (c3 j).mp hj; omega)) ?_
  rintro cs2 E2 ⟨i2, fr2, fin2⟩ _
  have c4 : ∀ j, j ∈ cs2 ↔ j ≤ 49 := fun j => by rw [i2 j, c3 j]; omega
  refine b_astore_n (ls' := [(2, vR 40), (1, vR 1), (0, vR 0)]) dX7_init_20 rfl (by decide) rfl ?_
  refine b_new (k := 50) (rc := 159) (rs := 1871) (fs := [none, none, none, none, none, some none, some none, some none]) tyX1 tyX1_ok (fun j hj => by rcases (show j = 0 ∨ j = 1 ∨ j = 2 ∨ j = 3 ∨ j = 4 ∨ j = 5 ∨ j = 6 ∨ j = 7 by omega) with rfl | rfl | rfl | rfl | rfl | rfl | rfl | rfl <;> rfl) (by simp) dX7_init_21 kc_1 cl_X7_17 is_X1 in_X1 (FS_fin (fun j hj => (c4 j).mpr (by have := List.mem_singleton.mp hj; omega))) (fun h => by have := (c4 _).mp h; omega) ?_
  have c5 : ∀ j, j ∈ _ ++ [50] ↔ j ≤ 50 := fun j => by rw [List.mem_append, c4 j, List.mem_singleton]; omega
  refine b_dup dX7_init_24 ?_
  refine b_aload_n 1 dX7_init_25 rfl rfl ?_
  refine b_aload_n 0 dX7_init_26 rfl rfl ?_
  refine b_call (k := 50) (rc := 157) (rs := 1843) [vR 1, vR 40] [vR 50] dX7_init_27 okX1_init rfl rfl ivX1_init lm_X7i_19 rfl rfl ⟨Nat.le_of_ble_eq_true rfl, Nat.le_of_ble_eq_true rfl, Nat.le_of_ble_eq_true rfl, Nat.le_of_ble_eq_true rfl⟩ (FS_fin (fun j hj => (c5 j).mpr (by have := List.mem_singleton.mp hj; omega))) (cb_X1 l G uB_eq (fun j hj h => by have := (c5 j).mp h; omega)) ?_
  rintro cs3 E3 ⟨i3, fr3, f50, f51, f55⟩ _
  have c6 : ∀ j, j ∈ cs3 ↔ j ≤ 51 ∨ j = 55 := fun j => by rw [i3 j, c5 j]; omega
  refine b_astore_n (ls' := [(3, vR 50), (2, vR 40), (1, vR 1), (0, vR 0)]) dX7_init_30 rfl (by decide) rfl ?_
  refine b_aload_n 3 dX7_init_31 rfl rfl ?_
  refine b_aload_n 2 dX7_init_32 rfl rfl ?_
  refine b_put0 (j := 0) (k := 0) dX7_init_33 ((fr3 0 (by decide) (by decide) (by decide)).trans ((uB_ne (by decide)).trans ((fr2 0 (by decide)).trans ((uB_ne (by decide)).trans ((fr1 0 (by decide)).trans ((uB_ne (by decide)).trans hE)))))) (Nat.le_of_ble_eq_true rfl) kc_7 (by decide) lf_X7_22 (Or.inr ⟨rfl, rfl, rfl⟩) rfl (fun _ => rfl) (fun _ => rfl) ?_
  refine b_aload_n 3 dX7_init_36 rfl rfl ?_
  refine b_aload_n 1 dX7_init_37 rfl rfl ?_
  refine b_put0 (j := 3) (k := 0) dX7_init_38 uB_eq (Nat.le_of_ble_eq_true rfl) kc_7 (by decide) lf_X7_26 (Or.inr ⟨rfl, rfl, rfl⟩) rfl (fun _ => rfl) (fun _ => rfl) ?_
  refine b_aload_n 3 dX7_init_41 rfl rfl ?_
  refine b_aload_n 0 dX7_init_42 rfl rfl ?_
  refine b_put0 (j := 4) (k := 0) dX7_init_43 uB_eq (Nat.le_of_ble_eq_true rfl) kc_7 (by decide) lf_X7_30 (Or.inr ⟨rfl, rfl, rfl⟩) rfl (fun _ => rfl) (fun _ => rfl) ?_
  refine b_aload_n 3 dX7_init_46 rfl rfl ?_
  refine b_new (k := 52) (rc := 156) (rs := 1833) (fs := [none, none, none, none, some none, some none, some none, some none, some none, none]) tyX2 tyX2_ok (fun j hj => by rcases (show j = 0 ∨ j = 1 ∨ j = 2 ∨ j = 3 ∨ j = 4 ∨ j = 5 ∨ j = 6 ∨ j = 7 ∨ j = 8 ∨ j = 9 by omega) with rfl | rfl | rfl | rfl | rfl | rfl | rfl | rfl | rfl | rfl <;> rfl) (by simp) dX7_init_47 kc_2 cl_X7_34 is_X2 in_X2 (FS_fin (fun j hj => (c6 j).mpr (by have := List.mem_singleton.mp hj; omega))) (fun h => by have := (c6 _).mp h; omega) ?_
  have c7 : ∀ j, j ∈ _ ++ [52] ↔ j ≤ 52 ∨ j = 55 := fun j => by rw [List.mem_append, c6 j, List.mem_singleton]; omega
  refine b_dup dX7_init_50 ?_
  refine b_aload_n 2 dX7_init_51 rfl rfl ?_
  refine b_aload_n 0 dX7_init_52 rfl rfl ?_
  refine b_call (k := 52) (rc := 123) (rs := 1443) [vR 1, vR 50] [vR 52, vR 0] dX7_init_53 okX2_init rfl rfl ivX2_init lm_X7i_36 rfl rfl ⟨Nat.le_of_ble_eq_true rfl, Nat.le_of_ble_eq_true rfl, Nat.le_of_ble_eq_true rfl, Nat.le_of_ble_eq_true rfl⟩ (FS_fin (fun j hj => (c7 j).mpr (by have := List.mem_singleton.mp hj; omega))) (cb_X2 l G ((uB_eq)) (fun j hj h => by have := (c7 j).mp h; omega)) ?_
  rintro cs4 E4 ⟨i4, fr4, f52, p85, p96, p107⟩ _
  have c8 : ∀ j, j ∈ cs4 ↔ j ≤ 52 ∨ j = 55 ∨ (85 ≤ j ∧ j ≤ 117) := fun j => by rw [i4 j, c7 j]; omega
  refine b_put0 (j := 5) (k := 0) dX7_init_56 ((fr4 0 (by decide) (by decide)).trans ((uB_ne (by decide)).trans uB_eq)) (Nat.le_of_ble_eq_true rfl) kc_7 (by decide) lf_X7_39 (Or.inr ⟨rfl, rfl, rfl⟩) rfl (fun _ => rfl) (fun _ => rfl) ?_
  refine b_aload_n 3 dX7_init_59 rfl rfl ?_
  refine b_new (k := 74) (rc := 122) (rs := 1441) (fs := [some none, some none]) tyX3 tyX3_ok (fun j hj => by rcases (show j = 0 ∨ j = 1 by omega) with rfl | rfl <;> rfl) (by simp) dX7_init_60 kc_3 cl_X7_43 is_X3 in_X3 (FS_fin (fun j hj => (c8 j).mpr (by have := List.mem_singleton.mp hj; omega))) (fun h => by have := (c8 _).mp h; omega) ?_
  have c9 : ∀ j, j ∈ _ ++ [74] ↔ j ≤ 52 ∨ j = 55 ∨ j = 74 ∨ (85 ≤ j ∧ j ≤ 117) := fun j => by rw [List.mem_append, c8 j, List.mem_singleton]; omega
  refine b_dup dX7_init_63 ?_
  refine b_call (k := 74) (rc := 112) (rs := 1313) [] [vR 74, vR 0] dX7_init_64 okX3_init rfl rfl ivX3_init lm_X7i_45 rfl rfl ⟨Nat.le_of_ble_eq_true rfl, Nat.le_of_ble_eq_true rfl, Nat.le_of_ble_eq_true rfl, Nat.le_of_ble_eq_true rfl⟩ (FS_fin (fun j hj => (c9 j).mpr (by have := List.mem_singleton.mp hj; omega))) (cb_X3 l G uB_eq (fun j hj => by have := (c9 j).mp hj; omega)) ?_
  rintro cs5 E5 ⟨i5, fr5, p74⟩ _
  have c10 : ∀ j, j ∈ cs5 ↔ j ≤ 52 ∨ j = 55 ∨ (74 ≤ j ∧ j ≤ 117) := fun j => by rw [i5 j, c9 j]; omega
  refine b_put0 (j := 1) (k := 0) dX7_init_67 ((fr5 0 (by decide)).trans ((uB_ne (by decide)).trans uB_eq)) (Nat.le_of_ble_eq_true rfl) kc_7 (by decide) lf_X7_46 (Or.inr ⟨rfl, rfl, rfl⟩) rfl (fun _ => rfl) (fun _ => rfl) ?_
  refine b_aload_n 3 dX7_init_70 rfl rfl ?_
  refine b_new (k := 53) (rc := 111) (rs := 1310) (fs := [none, none, some none]) tyX0 tyX0_ok (fun j hj => by rcases (show j = 0 ∨ j = 1 ∨ j = 2 by omega) with rfl | rfl | rfl <;> rfl) (by simp) dX7_init_71 kc_0 cl_X7_50 is_X0 in_X0 (FS_fin (fun j hj => (c10 j).mpr (by have := List.mem_singleton.mp hj; omega))) (fun h => by have := (c10 _).mp h; omega) ?_
  have c11 : ∀ j, j ∈ _ ++ [53] ↔ j ≤ 53 ∨ j = 55 ∨ (74 ≤ j ∧ j ≤ 117) := fun j => by rw [List.mem_append, c10 j, List.mem_singleton]; omega
  refine b_dup dX7_init_74 ?_
  refine b_call (k := 53) (rc := 0) (rs := 0) [] [vR 53, vR 0] dX7_init_75 okX0_init rfl rfl ivX0_init lm_X7i_52 rfl rfl ⟨Nat.le_of_ble_eq_true rfl, Nat.le_of_ble_eq_true rfl, Nat.le_of_ble_eq_true rfl, Nat.le_of_ble_eq_true rfl⟩ (FS_fin (fun j hj => (c11 j).mpr (by have := List.mem_singleton.mp hj; omega))) (cb_X0 l G uB_eq (fun j hj h => by have := (c11 j).mp h; omega)) ?_
  rintro cs6 E6 ⟨i6, fr6, f53, f54, ph⟩ _
  have c12 : ∀ j, j ∈ cs6 ↔ j ≤ 55 ∨ (74 ≤ j ∧ j ≤ 227) := fun j => by rw [i6 j, c11 j]; omega
  refine b_put0 (j := 2) (k := 0) dX7_init_78 ((fr6 0 (by decide) (by decide) (by decide)).trans ((uB_ne (by decide)).trans uB_eq)) (Nat.le_of_ble_eq_true rfl) kc_7 (by decide) lf_X7_53 (Or.inr ⟨rfl, rfl, rfl⟩) rfl (fun _ => rfl) (fun _ => rfl) ?_
  refine b_ret dX7_init_81 ?_ (fun j hj => (c12 j).mpr (by have := List.mem_singleton.mp hj; omega))
  rw [← hQ]
  refine ⟨c12, fun j hj => ?_, ?_, ?_, ?_, ?_, fun w hw => ?_⟩
  · unfold FIN
    by_cases a0 : j = 0
    · subst a0
      exact uB_eq.trans (Prod.ext rfl (show (.inr (.inr (7, [some (some 1), some (some 74), some (some 53), some (some 40), some (some 50), some (some 52)])) : BS) = _ by decide +kernel))
    · by_cases a1 : j ≤ 39
      · rw [uB_ne (by omega), fr6 _ (by omega) (by omega) (by omega), uB_ne (by omega), uB_ne (by omega), fr5 _ (by omega), uB_ne (by omega), uB_ne (by omega), fr4 _ (by omega) (by omega), uB_ne (by omega), uB_ne (by omega), uB_ne (by omega), uB_ne (by omega), fr3 _ (by omega) (by omega) (by omega), uB_ne (by omega), fr2 _ (by omega), uB_ne (by omega)]; exact fin1 j (by omega) a1
      · by_cases a2 : j ≤ 49
        · rw [uB_ne (by omega), fr6 _ (by omega) (by omega) (by omega), uB_ne (by omega), uB_ne (by omega), fr5 _ (by omega), uB_ne (by omega), uB_ne (by omega), fr4 _ (by omega) (by omega), uB_ne (by omega), uB_ne (by omega), uB_ne (by omega), uB_ne (by omega), fr3 _ (by omega) (by omega) (by omega), uB_ne (by omega)]; exact fin2 j (by omega) a2
        · rcases (show j = 50 ∨ j = 51 ∨ j = 52 ∨ j = 53 ∨ j = 54 ∨ j = 55 by omega) with rfl | rfl | rfl | rfl | rfl | rfl
          · rw [uB_ne (by omega), fr6 _ (by omega) (by omega) (by omega), uB_ne (by omega), uB_ne (by omega), fr5 _ (by omega), uB_ne (by omega), uB_ne (by omega), fr4 _ (by omega) (by omega), uB_ne (by omega), uB_ne (by omega), uB_ne (by omega), uB_ne (by omega)]; exact f50
          · rw [uB_ne (by omega), fr6 _ (by omega) (by omega) (by omega), uB_ne (by omega), uB_ne (by omega), fr5 _ (by omega), uB_ne (by omega), uB_ne (by omega), fr4 _ (by omega) (by omega), uB_ne (by omega), uB_ne (by omega), uB_ne (by omega), uB_ne (by omega)]; exact f51
          · rw [uB_ne (by omega), fr6 _ (by omega) (by omega) (by omega), uB_ne (by omega), uB_ne (by omega), fr5 _ (by omega), uB_ne (by omega), uB_ne (by omega)]; exact f52
          · rw [uB_ne (by omega)]; exact f53
          · rw [uB_ne (by omega)]; exact f54
          · rw [uB_ne (by omega), fr6 _ (by omega) (by omega) (by omega), uB_ne (by omega), uB_ne (by omega), fr5 _ (by omega), uB_ne (by omega), uB_ne (by omega), fr4 _ (by omega) (by omega), uB_ne (by omega), uB_ne (by omega), uB_ne (by omega), uB_ne (by omega)]; exact f55
  · exact ple_t p74 (fun j a b => by rw [uB_ne (by omega), fr6 _ (by omega) (by omega) (by omega), uB_ne (by omega), uB_ne (by omega)])
  · exact ple_t p85 (fun j a b => by rw [uB_ne (by omega), fr6 _ (by omega) (by omega) (by omega), uB_ne (by omega), uB_ne (by omega), fr5 _ (by omega), uB_ne (by omega), uB_ne (by omega)])
  · exact ple_t p96 (fun j a b => by rw [uB_ne (by omega), fr6 _ (by omega) (by omega) (by omega), uB_ne (by omega), uB_ne (by omega), fr5 _ (by omega), uB_ne (by omega), uB_ne (by omega)])
  · exact ple_t p107 (fun j a b => by rw [uB_ne (by omega), fr6 _ (by omega) (by omega) (by omega), uB_ne (by omega), uB_ne (by omega), fr5 _ (by omega), uB_ne (by omega), uB_ne (by omega)])
  · exact ple_t (ph w hw) (fun j a b => by rw [uB_ne (by omega)])
